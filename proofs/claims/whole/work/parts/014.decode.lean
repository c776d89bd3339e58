theorem dX12_asks_48 : decode cX12_asks 48 = .ok (.aload_n 0, 1) := by decide +kernel
theorem dX12_asks_49 : decode cX12_asks 49 = .ok (.getfield 242, 3) := by decide +kernel
theorem dX12_asks_52 : decode cX12_asks 52 = .ok (.if_icmp .ge 140, 3) := by decide +kernel
theorem dX12_asks_55 : decode cX12_asks 55 = .ok (.aload_n 0, 1) := by decide +kernel
theorem dX12_asks_56 : decode cX12_asks 56 = .ok (.iconst 0, 1) := by decide +kernel
theorem dX12_asks_57 : decode cX12_asks 57 = .ok (.putfield 255, 3) := by decide +kernel
theorem dX12_asks_60 : decode cX12_asks 60 = .ok (.aload_n 0, 1) := by decide +kernel
theorem dX12_asks_61 : decode cX12_asks 61 = .ok (.aload_n 0, 1) := by decide +kernel
theorem dX12_asks_62 : decode cX12_asks 62 = .ok (.getfield 245, 3) := by decide +kernel
theorem dX12_asks_65 : decode cX12_asks 65 = .ok (.invokevirtual 248, 3) := by decide +kernel
theorem dX12_asks_68 : decode cX12_asks 68 = .ok (.istore_n 3, 1) := by decide +kernel
theorem dX12_asks_69 : decode cX12_asks 69 = .ok (.aload_n 0, 1) := by decide +kernel
theorem dX12_asks_70 : decode cX12_asks 70 = .ok (.dup, 1) := by decide +kernel
theorem dX12_asks_71 : decode cX12_asks 71 = .ok (.getfield 245, 3) := by decide +kernel
theorem dX12_asks_74 : decode cX12_asks 74 = .ok (.iconst 1, 1) := by decide +kernel
theorem dX12_asks_75 : decode cX12_asks 75 = .ok (.iadd, 1) := by decide +kernel
theorem dX12_asks_76 : decode cX12_asks 76 = .ok (.putfield 245, 3) := by decide +kernel
theorem dX12_asks_79 : decode cX12_asks 79 = .ok (.iload_n 3, 1) := by decide +kernel
theorem dX12_asks_80 : decode cX12_asks 80 = .ok (.bipush 6, 2) := by decide +kernel
theorem dX12_asks_82 : decode cX12_asks 82 = .ok (.if_icmp .ge 11, 3) := by decide +kernel
theorem dX12_asks_85 : decode cX12_asks 85 = .ok (.aload_n 0, 1) := by decide +kernel
theorem dX12_asks_86 : decode cX12_asks 86 = .ok (.iconst 1, 1) := by decide +kernel
theorem dX12_asks_87 : decode cX12_asks 87 = .ok (.invokevirtual 273, 3) := by decide +kernel
theorem dX12_asks_90 : decode cX12_asks 90 = .ok (.goto 4, 3) := by decide +kernel
theorem dX12_asks_93 : decode cX12_asks 93 = .ok (.lconst 0, 1) := by decide +kernel
theorem dX12_asks_94 : decode cX12_asks 94 = .ok (.lstore 4, 2) := by decide +kernel
theorem dX12_asks_96 : decode cX12_asks 96 = .ok (.aload_n 0, 1) := by decide +kernel
theorem dX12_asks_97 : decode cX12_asks 97 = .ok (.getfield 255, 3) := by decide +kernel
theorem dX12_asks_100 : decode cX12_asks 100 = .ok (.istore 6, 2) := by decide +kernel
theorem dX12_asks_102 : decode cX12_asks 102 = .ok (.aload_n 0, 1) := by decide +kernel
theorem dX12_asks_103 : decode cX12_asks 103 = .ok (.iconst 0, 1) := by decide +kernel
theorem dX12_asks_104 : decode cX12_asks 104 = .ok (.putfield 255, 3) := by decide +kernel
theorem dX12_asks_107 : decode cX12_asks 107 = .ok (.aload_n 0, 1) := by decide +kernel
theorem dX12_asks_108 : decode cX12_asks 108 = .ok (.bipush 8, 2) := by decide +kernel
theorem dX12_asks_110 : decode cX12_asks 110 = .ok (.invokevirtual 270, 3) := by decide +kernel
theorem dX12_asks_113 : decode cX12_asks 113 = .ok (.ifCond .eq 11, 3) := by decide +kernel
theorem dX12_asks_116 : decode cX12_asks 116 = .ok (.aload_n 0, 1) := by decide +kernel
theorem dX12_asks_117 : decode cX12_asks 117 = .ok (.iconst 1, 1) := by decide +kernel
theorem dX12_asks_118 : decode cX12_asks 118 = .ok (.invokevirtual 286, 3) := by decide +kernel
theorem dX12_asks_121 : decode cX12_asks 121 = .ok (.ifCond .eq 7, 3) := by decide +kernel
theorem dX12_asks_124 : decode cX12_asks 124 = .ok (.iconst 1, 1) := by decide +kernel
theorem dX12_asks_125 : decode cX12_asks 125 = .ok (.goto 4, 3) := by decide +kernel
theorem dX12_asks_128 : decode cX12_asks 128 = .ok (.iconst 0, 1) := by decide +kernel
theorem dX12_asks_129 : decode cX12_asks 129 = .ok (.istore 7, 2) := by decide +kernel
theorem dX12_asks_131 : decode cX12_asks 131 = .ok (.iload 7, 2) := by decide +kernel
theorem dX12_asks_133 : decode cX12_asks 133 = .ok (.ifCond .eq 24, 3) := by decide +kernel
theorem dX12_asks_136 : decode cX12_asks 136 = .ok (.aload_n 0, 1) := by decide +kernel
theorem dX12_asks_137 : decode cX12_asks 137 = .ok (.getfield 255, 3) := by decide +kernel
theorem dX12_asks_140 : decode cX12_asks 140 = .ok (.ifCond .ne 17, 3) := by decide +kernel
theorem dX12_asks_143 : decode cX12_asks 143 = .ok (.iload 6, 2) := by decide +kernel
theorem dX12_asks_145 : decode cX12_asks 145 = .ok (.ifCond .ne 12, 3) := by decide +kernel
theorem dX12_asks_148 : decode cX12_asks 148 = .ok (.iload_n 3, 1) := by decide +kernel
theorem dX12_asks_149 : decode cX12_asks 149 = .ok (.iload_n 2, 1) := by decide +kernel
theorem dX12_asks_150 : decode cX12_asks 150 = .ok (.if_icmp .ne 7, 3) := by decide +kernel
theorem dX12_asks_153 : decode cX12_asks 153 = .ok (.iconst 1, 1) := by decide +kernel
theorem dX12_asks_154 : decode cX12_asks 154 = .ok (.goto 4, 3) := by decide +kernel
theorem dX12_asks_157 : decode cX12_asks 157 = .ok (.iconst 0, 1) := by decide +kernel
theorem dX12_asks_158 : decode cX12_asks 158 = .ok (.istore 7, 2) := by decide +kernel
theorem dX12_asks_160 : decode cX12_asks 160 = .ok (.aload_n 0, 1) := by decide +kernel
theorem dX12_asks_161 : decode cX12_asks 161 = .ok (.dup, 1) := by decide +kernel
theorem dX12_asks_162 : decode cX12_asks 162 = .ok (.getfield 245, 3) := by decide +kernel
theorem dX12_asks_165 : decode cX12_asks 165 = .ok (.iconst 1, 1) := by decide +kernel
theorem dX12_asks_166 : decode cX12_asks 166 = .ok (.iadd, 1) := by decide +kernel
theorem dX12_asks_167 : decode cX12_asks 167 = .ok (.putfield 245, 3) := by decide +kernel
theorem dX12_asks_170 : decode cX12_asks 170 = .ok (.iload 7, 2) := by decide +kernel
theorem dX12_asks_172 : decode cX12_asks 172 = .ok (.ifCond .ne 6, 3) := by decide +kernel
theorem dX12_asks_175 : decode cX12_asks 175 = .ok (.goto (-131), 3) := by decide +kernel
theorem dX12_asks_178 : decode cX12_asks 178 = .ok (.aload_n 0, 1) := by decide +kernel
theorem dX12_asks_179 : decode cX12_asks 179 = .ok (.lload 4, 2) := by decide +kernel
theorem dX12_asks_181 : decode cX12_asks 181 = .ok (.putfield 289, 3) := by decide +kernel
theorem dX12_asks_184 : decode cX12_asks 184 = .ok (.aload_n 0, 1) := by decide +kernel
theorem dX12_asks_185 : decode cX12_asks 185 = .ok (.iconst 1, 1) := by decide +kernel
theorem dX12_asks_186 : decode cX12_asks 186 = .ok (.putfield 293, 3) := by decide +kernel
theorem dX12_asks_189 : decode cX12_asks 189 = .ok (.goto (-145), 3) := by decide +kernel
theorem dX12_asks_192 : decode cX12_asks 192 = .ok (.return_, 1) := by decide +kernel
theorem dX12_bare_0 : decode cX12_bare 0 = .ok (.iconst 0, 1) := by decide +kernel
theorem dX12_bare_1 : decode cX12_bare 1 = .ok (.istore_n 1, 1) := by decide +kernel
theorem dX12_bare_2 : decode cX12_bare 2 = .ok (.iload_n 1, 1) := by decide +kernel
theorem dX12_bare_3 : decode cX12_bare 3 = .ok (.bipush 9, 2) := by decide +kernel
theorem dX12_bare_5 : decode cX12_bare 5 = .ok (.if_icmp .ge 16, 3) := by decide +kernel
theorem dX12_bare_8 : decode cX12_bare 8 = .ok (.aload_n 0, 1) := by decide +kernel
theorem dX12_bare_9 : decode cX12_bare 9 = .ok (.getfield 52, 3) := by decide +kernel
theorem dX12_bare_12 : decode cX12_bare 12 = .ok (.iload_n 1, 1) := by decide +kernel
theorem dX12_bare_13 : decode cX12_bare 13 = .ok (.iconst 0, 1) := by decide +kernel
theorem dX12_bare_14 : decode cX12_bare 14 = .ok (.iastore, 1) := by decide +kernel
theorem dX12_bare_15 : decode cX12_bare 15 = .ok (.iinc 1 1, 3) := by decide +kernel
theorem dX12_bare_18 : decode cX12_bare 18 = .ok (.goto (-16), 3) := by decide +kernel
theorem dX12_bare_21 : decode cX12_bare 21 = .ok (.return_, 1) := by decide +kernel
theorem dX12_asksCopy_0 : decode cX12_asksCopy 0 = .ok (.aload_n 0, 1) := by decide +kernel
theorem dX12_asksCopy_1 : decode cX12_asksCopy 1 = .ok (.invokevirtual 296, 3) := by decide +kernel
theorem dX12_asksCopy_4 : decode cX12_asksCopy 4 = .ok (.aload_n 0, 1) := by decide +kernel
theorem dX12_asksCopy_5 : decode cX12_asksCopy 5 = .ok (.getfield 52, 3) := by decide +kernel
theorem dX12_asksCopy_8 : decode cX12_asksCopy 8 = .ok (.iconst 1, 1) := by decide +kernel
theorem dX12_asksCopy_9 : decode cX12_asksCopy 9 = .ok (.iload_n 2, 1) := by decide +kernel
theorem dX12_asksCopy_10 : decode cX12_asksCopy 10 = .ok (.iastore, 1) := by decide +kernel
theorem dX12_asksCopy_11 : decode cX12_asksCopy 11 = .ok (.aload_n 0, 1) := by decide +kernel
theorem dX12_asksCopy_12 : decode cX12_asksCopy 12 = .ok (.getfield 52, 3) := by decide +kernel
theorem dX12_asksCopy_15 : decode cX12_asksCopy 15 = .ok (.iconst 4, 1) := by decide +kernel
theorem dX12_asksCopy_16 : decode cX12_asksCopy 16 = .ok (.aload_n 0, 1) := by decide +kernel
theorem dX12_asksCopy_17 : decode cX12_asksCopy 17 = .ok (.iload_n 1, 1) := by decide +kernel
theorem dX12_asksCopy_18 : decode cX12_asksCopy 18 = .ok (.iconst 0, 1) := by decide +kernel
theorem dX12_asksCopy_19 : decode cX12_asksCopy 19 = .ok (.invokevirtual 299, 3) := by decide +kernel
theorem dX12_asksCopy_22 : decode cX12_asksCopy 22 = .ok (.iastore, 1) := by decide +kernel
theorem dX12_asksCopy_23 : decode cX12_asksCopy 23 = .ok (.aload_n 0, 1) := by decide +kernel
theorem dX12_asksCopy_24 : decode cX12_asksCopy 24 = .ok (.getfield 52, 3) := by decide +kernel
theorem dX12_asksCopy_27 : decode cX12_asksCopy 27 = .ok (.bipush 7, 2) := by decide +kernel
theorem dX12_asksCopy_29 : decode cX12_asksCopy 29 = .ok (.aload_n 0, 1) := by decide +kernel
theorem dX12_asksCopy_30 : decode cX12_asksCopy 30 = .ok (.iload_n 1, 1) := by decide +kernel
theorem dX12_asksCopy_31 : decode cX12_asksCopy 31 = .ok (.iconst 1, 1) := by decide +kernel
theorem dX12_asksCopy_32 : decode cX12_asksCopy 32 = .ok (.invokevirtual 299, 3) := by decide +kernel
theorem dX12_asksCopy_35 : decode cX12_asksCopy 35 = .ok (.iastore, 1) := by decide +kernel
theorem dX12_asksCopy_36 : decode cX12_asksCopy 36 = .ok (.aload_n 0, 1) := by decide +kernel
theorem dX12_asksCopy_37 : decode cX12_asksCopy 37 = .ok (.getfield 52, 3) := by decide +kernel
theorem dX12_asksCopy_40 : decode cX12_asksCopy 40 = .ok (.bipush 8, 2) := by decide +kernel
theorem dX12_asksCopy_42 : decode cX12_asksCopy 42 = .ok (.aload_n 0, 1) := by decide +kernel
theorem dX12_asksCopy_43 : decode cX12_asksCopy 43 = .ok (.iload_n 1, 1) := by decide +kernel
theorem dX12_asksCopy_44 : decode cX12_asksCopy 44 = .ok (.iconst 2, 1) := by decide +kernel
theorem dX12_asksCopy_45 : decode cX12_asksCopy 45 = .ok (.invokevirtual 299, 3) := by decide +kernel
theorem dX12_asksCopy_48 : decode cX12_asksCopy 48 = .ok (.iastore, 1) := by decide +kernel
theorem dX12_asksCopy_49 : decode cX12_asksCopy 49 = .ok (.return_, 1) := by decide +kernel
theorem dX12_hundredth_0 : decode cX12_hundredth 0 = .ok (.aload_n 0, 1) := by decide +kernel
theorem dX12_hundredth_1 : decode cX12_hundredth 1 = .ok (.aload_n 0, 1) := by decide +kernel
theorem dX12_hundredth_2 : decode cX12_hundredth 2 = .ok (.getfield 20, 3) := by decide +kernel
theorem dX12_hundredth_5 : decode cX12_hundredth 5 = .ok (.sipush 1349, 3) := by decide +kernel
theorem dX12_hundredth_8 : decode cX12_hundredth 8 = .ok (.iaload, 1) := by decide +kernel
theorem dX12_hundredth_9 : decode cX12_hundredth 9 = .ok (.iload_n 1, 1) := by decide +kernel
theorem dX12_hundredth_10 : decode cX12_hundredth 10 = .ok (.invokevirtual 302, 3) := by decide +kernel
theorem dX12_hundredth_13 : decode cX12_hundredth 13 = .ok (.aload_n 0, 1) := by decide +kernel
theorem dX12_hundredth_14 : decode cX12_hundredth 14 = .ok (.getfield 293, 3) := by decide +kernel
theorem dX12_hundredth_17 : decode cX12_hundredth 17 = .ok (.ifCond .ne 8, 3) := by decide +kernel
theorem dX12_hundredth_20 : decode cX12_hundredth 20 = .ok (.bipush 50, 2) := by decide +kernel
theorem dX12_hundredth_22 : decode cX12_hundredth 22 = .ok (.goto 37, 3) := by decide +kernel
theorem dX12_hundredth_25 : decode cX12_hundredth 25 = .ok (.aload_n 0, 1) := by decide +kernel
theorem dX12_hundredth_26 : decode cX12_hundredth 26 = .ok (.getfield 289, 3) := by decide +kernel
theorem dX12_hundredth_29 : decode cX12_hundredth 29 = .ok (.lconst 0, 1) := by decide +kernel
theorem dX12_hundredth_30 : decode cX12_hundredth 30 = .ok (.lcmp, 1) := by decide +kernel
theorem dX12_hundredth_31 : decode cX12_hundredth 31 = .ok (.ifCond .ge 7, 3) := by decide +kernel
theorem dX12_hundredth_34 : decode cX12_hundredth 34 = .ok (.iconst 0, 1) := by decide +kernel
theorem dX12_hundredth_35 : decode cX12_hundredth 35 = .ok (.goto 24, 3) := by decide +kernel
theorem dX12_hundredth_38 : decode cX12_hundredth 38 = .ok (.aload_n 0, 1) := by decide +kernel
theorem dX12_hundredth_39 : decode cX12_hundredth 39 = .ok (.getfield 289, 3) := by decide +kernel
theorem dX12_hundredth_42 : decode cX12_hundredth 42 = .ok (.ldc2_w 306, 3) := by decide +kernel
theorem dX12_hundredth_45 : decode cX12_hundredth 45 = .ok (.lcmp, 1) := by decide +kernel
theorem dX12_hundredth_46 : decode cX12_hundredth 46 = .ok (.ifCond .le 8, 3) := by decide +kernel
theorem dX12_hundredth_49 : decode cX12_hundredth 49 = .ok (.bipush 100, 2) := by decide +kernel
theorem dX12_hundredth_51 : decode cX12_hundredth 51 = .ok (.goto 8, 3) := by decide +kernel
theorem dX12_hundredth_54 : decode cX12_hundredth 54 = .ok (.aload_n 0, 1) := by decide +kernel
theorem dX12_hundredth_55 : decode cX12_hundredth 55 = .ok (.getfield 289, 3) := by decide +kernel
theorem dX12_hundredth_58 : decode cX12_hundredth 58 = .ok (.l2i, 1) := by decide +kernel
theorem dX12_hundredth_59 : decode cX12_hundredth 59 = .ok (.ireturn, 1) := by decide +kernel
theorem dX12_weightOf_0 : decode cX12_weightOf 0 = .ok (.aload_n 0, 1) := by decide +kernel
theorem dX12_weightOf_1 : decode cX12_weightOf 1 = .ok (.invokevirtual 296, 3) := by decide +kernel
theorem dX12_weightOf_4 : decode cX12_weightOf 4 = .ok (.aload_n 0, 1) := by decide +kernel
theorem dX12_weightOf_5 : decode cX12_weightOf 5 = .ok (.getfield 52, 3) := by decide +kernel
theorem dX12_weightOf_8 : decode cX12_weightOf 8 = .ok (.iconst 0, 1) := by decide +kernel
theorem dX12_weightOf_9 : decode cX12_weightOf 9 = .ok (.iload_n 1, 1) := by decide +kernel
theorem dX12_weightOf_10 : decode cX12_weightOf 10 = .ok (.iastore, 1) := by decide +kernel
theorem dX12_weightOf_11 : decode cX12_weightOf 11 = .ok (.aload_n 0, 1) := by decide +kernel
theorem dX12_weightOf_12 : decode cX12_weightOf 12 = .ok (.getfield 52, 3) := by decide +kernel
theorem dX12_weightOf_15 : decode cX12_weightOf 15 = .ok (.iconst 1, 1) := by decide +kernel
theorem dX12_weightOf_16 : decode cX12_weightOf 16 = .ok (.iload_n 1, 1) := by decide +kernel
theorem dX12_weightOf_17 : decode cX12_weightOf 17 = .ok (.iconst 5, 1) := by decide +kernel
theorem dX12_weightOf_18 : decode cX12_weightOf 18 = .ok (.idiv, 1) := by decide +kernel
theorem dX12_weightOf_19 : decode cX12_weightOf 19 = .ok (.iastore, 1) := by decide +kernel
theorem dX12_weightOf_20 : decode cX12_weightOf 20 = .ok (.aload_n 0, 1) := by decide +kernel
theorem dX12_weightOf_21 : decode cX12_weightOf 21 = .ok (.getfield 52, 3) := by decide +kernel
theorem dX12_weightOf_24 : decode cX12_weightOf 24 = .ok (.iconst 2, 1) := by decide +kernel
theorem dX12_weightOf_25 : decode cX12_weightOf 25 = .ok (.iload_n 2, 1) := by decide +kernel
theorem dX12_weightOf_26 : decode cX12_weightOf 26 = .ok (.iastore, 1) := by decide +kernel
theorem dX12_weightOf_27 : decode cX12_weightOf 27 = .ok (.aload_n 0, 1) := by decide +kernel
theorem dX12_weightOf_28 : decode cX12_weightOf 28 = .ok (.getfield 52, 3) := by decide +kernel
theorem dX12_weightOf_31 : decode cX12_weightOf 31 = .ok (.iconst 3, 1) := by decide +kernel
theorem dX12_weightOf_32 : decode cX12_weightOf 32 = .ok (.aload_n 0, 1) := by decide +kernel
theorem dX12_weightOf_33 : decode cX12_weightOf 33 = .ok (.iload_n 1, 1) := by decide +kernel
theorem dX12_weightOf_34 : decode cX12_weightOf 34 = .ok (.iload_n 2, 1) := by decide +kernel
theorem dX12_weightOf_35 : decode cX12_weightOf 35 = .ok (.invokevirtual 160, 3) := by decide +kernel
theorem dX12_weightOf_38 : decode cX12_weightOf 38 = .ok (.iastore, 1) := by decide +kernel
theorem dX12_weightOf_39 : decode cX12_weightOf 39 = .ok (.aload_n 0, 1) := by decide +kernel
theorem dX12_weightOf_40 : decode cX12_weightOf 40 = .ok (.aload_n 0, 1) := by decide +kernel
theorem dX12_weightOf_41 : decode cX12_weightOf 41 = .ok (.getfield 20, 3) := by decide +kernel
theorem dX12_weightOf_44 : decode cX12_weightOf 44 = .ok (.sipush 1349, 3) := by decide +kernel
theorem dX12_weightOf_47 : decode cX12_weightOf 47 = .ok (.iaload, 1) := by decide +kernel
theorem dX12_weightOf_48 : decode cX12_weightOf 48 = .ok (.iconst 1, 1) := by decide +kernel
theorem dX12_weightOf_49 : decode cX12_weightOf 49 = .ok (.invokevirtual 302, 3) := by decide +kernel
theorem dX12_weightOf_52 : decode cX12_weightOf 52 = .ok (.aload_n 0, 1) := by decide +kernel
theorem dX12_weightOf_53 : decode cX12_weightOf 53 = .ok (.getfield 293, 3) := by decide +kernel
theorem dX12_weightOf_56 : decode cX12_weightOf 56 = .ok (.ifCond .ne 8, 3) := by decide +kernel
theorem dX12_weightOf_59 : decode cX12_weightOf 59 = .ok (.bipush 10, 2) := by decide +kernel
theorem dX12_weightOf_61 : decode cX12_weightOf 61 = .ok (.goto 37, 3) := by decide +kernel
theorem dX12_weightOf_64 : decode cX12_weightOf 64 = .ok (.aload_n 0, 1) := by decide +kernel
theorem dX12_weightOf_65 : decode cX12_weightOf 65 = .ok (.getfield 289, 3) := by decide +kernel
theorem dX12_weightOf_68 : decode cX12_weightOf 68 = .ok (.lconst 0, 1) := by decide +kernel
theorem dX12_weightOf_69 : decode cX12_weightOf 69 = .ok (.lcmp, 1) := by decide +kernel
theorem dX12_weightOf_70 : decode cX12_weightOf 70 = .ok (.ifCond .ge 7, 3) := by decide +kernel
theorem dX12_weightOf_73 : decode cX12_weightOf 73 = .ok (.iconst 0, 1) := by decide +kernel
theorem dX12_weightOf_74 : decode cX12_weightOf 74 = .ok (.goto 24, 3) := by decide +kernel
theorem dX12_weightOf_77 : decode cX12_weightOf 77 = .ok (.aload_n 0, 1) := by decide +kernel
theorem dX12_weightOf_78 : decode cX12_weightOf 78 = .ok (.getfield 289, 3) := by decide +kernel
theorem dX12_weightOf_81 : decode cX12_weightOf 81 = .ok (.ldc2_w 306, 3) := by decide +kernel
theorem dX12_weightOf_84 : decode cX12_weightOf 84 = .ok (.lcmp, 1) := by decide +kernel
theorem dX12_weightOf_85 : decode cX12_weightOf 85 = .ok (.ifCond .le 8, 3) := by decide +kernel
theorem dX12_weightOf_88 : decode cX12_weightOf 88 = .ok (.bipush 100, 2) := by decide +kernel
theorem dX12_weightOf_90 : decode cX12_weightOf 90 = .ok (.goto 8, 3) := by decide +kernel
theorem dX12_weightOf_93 : decode cX12_weightOf 93 = .ok (.aload_n 0, 1) := by decide +kernel
theorem dX12_weightOf_94 : decode cX12_weightOf 94 = .ok (.getfield 289, 3) := by decide +kernel
theorem dX12_weightOf_97 : decode cX12_weightOf 97 = .ok (.l2i, 1) := by decide +kernel
theorem dX12_weightOf_98 : decode cX12_weightOf 98 = .ok (.ireturn, 1) := by decide +kernel
theorem dX12_weight_0 : decode cX12_weight 0 = .ok (.iload_n 1, 1) := by decide +kernel
theorem dX12_weight_1 : decode cX12_weight 1 = .ok (.iconst 0, 1) := by decide +kernel
theorem dX12_weight_2 : decode cX12_weight 2 = .ok (.bipush 59, 2) := by decide +kernel
theorem dX12_weight_4 : decode cX12_weight 4 = .ok (.invokestatic 113, 3) := by decide +kernel
theorem dX12_weight_7 : decode cX12_weight 7 = .ok (.ifCond .eq 22, 3) := by decide +kernel
theorem dX12_weight_10 : decode cX12_weight 10 = .ok (.iload_n 2, 1) := by decide +kernel
theorem dX12_weight_11 : decode cX12_weight 11 = .ok (.iconst 0, 1) := by decide +kernel
theorem dX12_weight_12 : decode cX12_weight 12 = .ok (.bipush 99, 2) := by decide +kernel
theorem dX12_weight_14 : decode cX12_weight 14 = .ok (.invokestatic 113, 3) := by decide +kernel
theorem dX12_weight_17 : decode cX12_weight 17 = .ok (.ifCond .eq 12, 3) := by decide +kernel
theorem dX12_weight_20 : decode cX12_weight 20 = .ok (.aload_n 0, 1) := by decide +kernel
theorem dX12_weight_21 : decode cX12_weight 21 = .ok (.iload_n 1, 1) := by decide +kernel
theorem dX12_weight_22 : decode cX12_weight 22 = .ok (.iload_n 2, 1) := by decide +kernel
theorem dX12_weight_23 : decode cX12_weight 23 = .ok (.invokevirtual 308, 3) := by decide +kernel
theorem dX12_weight_26 : decode cX12_weight 26 = .ok (.goto 4, 3) := by decide +kernel
theorem dX12_weight_29 : decode cX12_weight 29 = .ok (.iconst (-1), 1) := by decide +kernel
theorem dX12_weight_30 : decode cX12_weight 30 = .ok (.ireturn, 1) := by decide +kernel
theorem dX12_hasStays_0 : decode cX12_hasStays 0 = .ok (.iconst 0, 1) := by decide +kernel
theorem dX12_hasStays_1 : decode cX12_hasStays 1 = .ok (.istore_n 2, 1) := by decide +kernel
theorem dX12_hasStays_2 : decode cX12_hasStays 2 = .ok (.iload_n 2, 1) := by decide +kernel
theorem dX12_hasStays_3 : decode cX12_hasStays 3 = .ok (.aload_n 0, 1) := by decide +kernel
theorem dX12_hasStays_4 : decode cX12_hasStays 4 = .ok (.getfield 20, 3) := by decide +kernel
theorem dX12_hasStays_7 : decode cX12_hasStays 7 = .ok (.sipush 1345, 3) := by decide +kernel
theorem dX12_hasStays_10 : decode cX12_hasStays 10 = .ok (.iaload, 1) := by decide +kernel
theorem dX12_hasStays_11 : decode cX12_hasStays 11 = .ok (.if_icmp .ge 21, 3) := by decide +kernel
theorem dX12_hasStays_14 : decode cX12_hasStays 14 = .ok (.aload_n 0, 1) := by decide +kernel
theorem dX12_hasStays_15 : decode cX12_hasStays 15 = .ok (.iload_n 2, 1) := by decide +kernel
theorem dX12_hasStays_16 : decode cX12_hasStays 16 = .ok (.iconst 0, 1) := by decide +kernel
theorem dX12_hasStays_17 : decode cX12_hasStays 17 = .ok (.invokevirtual 311, 3) := by decide +kernel
theorem dX12_hasStays_20 : decode cX12_hasStays 20 = .ok (.iload_n 1, 1) := by decide +kernel
theorem dX12_hasStays_21 : decode cX12_hasStays 21 = .ok (.if_icmp .ne 5, 3) := by decide +kernel
theorem dX12_hasStays_24 : decode cX12_hasStays 24 = .ok (.iconst 1, 1) := by decide +kernel
theorem dX12_hasStays_25 : decode cX12_hasStays 25 = .ok (.ireturn, 1) := by decide +kernel
theorem dX12_hasStays_26 : decode cX12_hasStays 26 = .ok (.iinc 2 1, 3) := by decide +kernel
theorem dX12_hasStays_29 : decode cX12_hasStays 29 = .ok (.goto (-27), 3) := by decide +kernel
theorem dX12_hasStays_32 : decode cX12_hasStays 32 = .ok (.iconst 0, 1) := by decide +kernel
theorem dX12_hasStays_33 : decode cX12_hasStays 33 = .ok (.ireturn, 1) := by decide +kernel
theorem dX12_canMeet_0 : decode cX12_canMeet 0 = .ok (.aload_n 0, 1) := by decide +kernel
theorem dX12_canMeet_1 : decode cX12_canMeet 1 = .ok (.iload_n 1, 1) := by decide +kernel
theorem dX12_canMeet_2 : decode cX12_canMeet 2 = .ok (.invokevirtual 314, 3) := by decide +kernel
theorem dX12_canMeet_5 : decode cX12_canMeet 5 = .ok (.ifCond .eq 11, 3) := by decide +kernel
theorem dX12_canMeet_8 : decode cX12_canMeet 8 = .ok (.aload_n 0, 1) := by decide +kernel
theorem dX12_canMeet_9 : decode cX12_canMeet 9 = .ok (.iload_n 2, 1) := by decide +kernel
theorem dX12_canMeet_10 : decode cX12_canMeet 10 = .ok (.invokevirtual 314, 3) := by decide +kernel
theorem dX12_canMeet_13 : decode cX12_canMeet 13 = .ok (.ifCond .ne 5, 3) := by decide +kernel
theorem dX12_canMeet_16 : decode cX12_canMeet 16 = .ok (.iconst 1, 1) := by decide +kernel
theorem dX12_canMeet_17 : decode cX12_canMeet 17 = .ok (.ireturn, 1) := by decide +kernel
theorem dX12_canMeet_18 : decode cX12_canMeet 18 = .ok (.iconst 0, 1) := by decide +kernel
theorem dX12_canMeet_19 : decode cX12_canMeet 19 = .ok (.istore_n 3, 1) := by decide +kernel
theorem dX12_canMeet_20 : decode cX12_canMeet 20 = .ok (.iload_n 3, 1) := by decide +kernel
theorem dX12_canMeet_21 : decode cX12_canMeet 21 = .ok (.aload_n 0, 1) := by decide +kernel
theorem dX12_canMeet_22 : decode cX12_canMeet 22 = .ok (.getfield 20, 3) := by decide +kernel
theorem dX12_canMeet_25 : decode cX12_canMeet 25 = .ok (.sipush 1345, 3) := by decide +kernel
theorem dX12_canMeet_28 : decode cX12_canMeet 28 = .ok (.iaload, 1) := by decide +kernel
theorem dX12_canMeet_29 : decode cX12_canMeet 29 = .ok (.if_icmp .ge 105, 3) := by decide +kernel
theorem dX12_canMeet_32 : decode cX12_canMeet 32 = .ok (.aload_n 0, 1) := by decide +kernel
theorem dX12_canMeet_33 : decode cX12_canMeet 33 = .ok (.iload_n 3, 1) := by decide +kernel
theorem dX12_canMeet_34 : decode cX12_canMeet 34 = .ok (.iconst 0, 1) := by decide +kernel
theorem dX12_canMeet_35 : decode cX12_canMeet 35 = .ok (.invokevirtual 311, 3) := by decide +kernel
theorem dX12_canMeet_38 : decode cX12_canMeet 38 = .ok (.iload_n 1, 1) := by decide +kernel
theorem dX12_canMeet_39 : decode cX12_canMeet 39 = .ok (.if_icmp .eq 6, 3) := by decide +kernel
theorem dX12_canMeet_42 : decode cX12_canMeet 42 = .ok (.goto 86, 3) := by decide +kernel
theorem dX12_canMeet_45 : decode cX12_canMeet 45 = .ok (.iconst 0, 1) := by decide +kernel
theorem dX12_canMeet_46 : decode cX12_canMeet 46 = .ok (.istore 4, 2) := by decide +kernel
theorem dX12_canMeet_48 : decode cX12_canMeet 48 = .ok (.iload 4, 2) := by decide +kernel
theorem dX12_canMeet_50 : decode cX12_canMeet 50 = .ok (.aload_n 0, 1) := by decide +kernel
theorem dX12_canMeet_51 : decode cX12_canMeet 51 = .ok (.getfield 20, 3) := by decide +kernel
theorem dX12_canMeet_54 : decode cX12_canMeet 54 = .ok (.sipush 1345, 3) := by decide +kernel
theorem dX12_canMeet_57 : decode cX12_canMeet 57 = .ok (.iaload, 1) := by decide +kernel
theorem dX12_canMeet_58 : decode cX12_canMeet 58 = .ok (.if_icmp .ge 70, 3) := by decide +kernel
theorem dX12_canMeet_61 : decode cX12_canMeet 61 = .ok (.aload_n 0, 1) := by decide +kernel
theorem dX12_canMeet_62 : decode cX12_canMeet 62 = .ok (.iload 4, 2) := by decide +kernel
theorem dX12_canMeet_64 : decode cX12_canMeet 64 = .ok (.iconst 0, 1) := by decide +kernel
theorem dX12_canMeet_65 : decode cX12_canMeet 65 = .ok (.invokevirtual 311, 3) := by decide +kernel
theorem dX12_canMeet_68 : decode cX12_canMeet 68 = .ok (.iload_n 2, 1) := by decide +kernel
theorem dX12_canMeet_69 : decode cX12_canMeet 69 = .ok (.if_icmp .ne 53, 3) := by decide +kernel
theorem dX12_canMeet_72 : decode cX12_canMeet 72 = .ok (.aload_n 0, 1) := by decide +kernel
theorem dX12_canMeet_73 : decode cX12_canMeet 73 = .ok (.iload_n 3, 1) := by decide +kernel
theorem dX12_canMeet_74 : decode cX12_canMeet 74 = .ok (.iconst 1, 1) := by decide +kernel
theorem dX12_canMeet_75 : decode cX12_canMeet 75 = .ok (.invokevirtual 311, 3) := by decide +kernel
theorem dX12_canMeet_78 : decode cX12_canMeet 78 = .ok (.aload_n 0, 1) := by decide +kernel
theorem dX12_canMeet_79 : decode cX12_canMeet 79 = .ok (.iload 4, 2) := by decide +kernel
theorem dX12_canMeet_81 : decode cX12_canMeet 81 = .ok (.iconst 1, 1) := by decide +kernel
theorem dX12_canMeet_82 : decode cX12_canMeet 82 = .ok (.invokevirtual 311, 3) := by decide +kernel
theorem dX12_canMeet_85 : decode cX12_canMeet 85 = .ok (.if_icmp .ne 37, 3) := by decide +kernel
theorem dX12_canMeet_88 : decode cX12_canMeet 88 = .ok (.aload_n 0, 1) := by decide +kernel
theorem dX12_canMeet_89 : decode cX12_canMeet 89 = .ok (.iload_n 3, 1) := by decide +kernel
theorem dX12_canMeet_90 : decode cX12_canMeet 90 = .ok (.iconst 2, 1) := by decide +kernel
theorem dX12_canMeet_91 : decode cX12_canMeet 91 = .ok (.invokevirtual 311, 3) := by decide +kernel
theorem dX12_canMeet_94 : decode cX12_canMeet 94 = .ok (.aload_n 0, 1) := by decide +kernel
theorem dX12_canMeet_95 : decode cX12_canMeet 95 = .ok (.iload 4, 2) := by decide +kernel
theorem dX12_canMeet_97 : decode cX12_canMeet 97 = .ok (.iconst 3, 1) := by decide +kernel
theorem dX12_canMeet_98 : decode cX12_canMeet 98 = .ok (.invokevirtual 311, 3) := by decide +kernel
theorem dX12_canMeet_101 : decode cX12_canMeet 101 = .ok (.if_icmp .gt 21, 3) := by decide +kernel
theorem dX12_canMeet_104 : decode cX12_canMeet 104 = .ok (.aload_n 0, 1) := by decide +kernel
theorem dX12_canMeet_105 : decode cX12_canMeet 105 = .ok (.iload 4, 2) := by decide +kernel
theorem dX12_canMeet_107 : decode cX12_canMeet 107 = .ok (.iconst 2, 1) := by decide +kernel
theorem dX12_canMeet_108 : decode cX12_canMeet 108 = .ok (.invokevirtual 311, 3) := by decide +kernel
theorem dX12_canMeet_111 : decode cX12_canMeet 111 = .ok (.aload_n 0, 1) := by decide +kernel
theorem dX12_canMeet_112 : decode cX12_canMeet 112 = .ok (.iload_n 3, 1) := by decide +kernel
theorem dX12_canMeet_113 : decode cX12_canMeet 113 = .ok (.iconst 3, 1) := by decide +kernel
theorem dX12_canMeet_114 : decode cX12_canMeet 114 = .ok (.invokevirtual 311, 3) := by decide +kernel
theorem dX12_canMeet_117 : decode cX12_canMeet 117 = .ok (.if_icmp .gt 5, 3) := by decide +kernel
theorem dX12_canMeet_120 : decode cX12_canMeet 120 = .ok (.iconst 1, 1) := by decide +kernel
theorem dX12_canMeet_121 : decode cX12_canMeet 121 = .ok (.ireturn, 1) := by decide +kernel
theorem dX12_canMeet_122 : decode cX12_canMeet 122 = .ok (.iinc 4 1, 3) := by decide +kernel
theorem dX12_canMeet_125 : decode cX12_canMeet 125 = .ok (.goto (-77), 3) := by decide +kernel
theorem dX12_canMeet_128 : decode cX12_canMeet 128 = .ok (.iinc 3 1, 3) := by decide +kernel
theorem dX12_canMeet_131 : decode cX12_canMeet 131 = .ok (.goto (-111), 3) := by decide +kernel
theorem dX12_canMeet_134 : decode cX12_canMeet 134 = .ok (.iconst 0, 1) := by decide +kernel
theorem dX12_canMeet_135 : decode cX12_canMeet 135 = .ok (.ireturn, 1) := by decide +kernel
theorem dX12_may_0 : decode cX12_may 0 = .ok (.aload_n 0, 1) := by decide +kernel
theorem dX12_may_1 : decode cX12_may 1 = .ok (.iload_n 1, 1) := by decide +kernel
theorem dX12_may_2 : decode cX12_may 2 = .ok (.invokevirtual 128, 3) := by decide +kernel
theorem dX12_may_5 : decode cX12_may 5 = .ok (.ifCond .eq 33, 3) := by decide +kernel
theorem dX12_may_8 : decode cX12_may 8 = .ok (.aload_n 0, 1) := by decide +kernel
theorem dX12_may_9 : decode cX12_may 9 = .ok (.iload_n 2, 1) := by decide +kernel
theorem dX12_may_10 : decode cX12_may 10 = .ok (.invokevirtual 128, 3) := by decide +kernel
theorem dX12_may_13 : decode cX12_may 13 = .ok (.ifCond .eq 25, 3) := by decide +kernel
theorem dX12_may_16 : decode cX12_may 16 = .ok (.iload_n 1, 1) := by decide +kernel
theorem dX12_may_17 : decode cX12_may 17 = .ok (.iload_n 2, 1) := by decide +kernel
theorem dX12_may_18 : decode cX12_may 18 = .ok (.if_icmp .eq 20, 3) := by decide +kernel
theorem dX12_may_21 : decode cX12_may 21 = .ok (.aload_n 0, 1) := by decide +kernel
theorem dX12_may_22 : decode cX12_may 22 = .ok (.iload_n 1, 1) := by decide +kernel
theorem dX12_may_23 : decode cX12_may 23 = .ok (.iload_n 2, 1) := by decide +kernel
theorem dX12_may_24 : decode cX12_may 24 = .ok (.invokevirtual 317, 3) := by decide +kernel
theorem dX12_may_27 : decode cX12_may 27 = .ok (.ifCond .eq 7, 3) := by decide +kernel
theorem dX12_may_30 : decode cX12_may 30 = .ok (.iconst 1, 1) := by decide +kernel
theorem dX12_may_31 : decode cX12_may 31 = .ok (.goto 8, 3) := by decide +kernel
theorem dX12_may_34 : decode cX12_may 34 = .ok (.iconst 0, 1) := by decide +kernel
theorem dX12_may_35 : decode cX12_may 35 = .ok (.goto 4, 3) := by decide +kernel
theorem dX12_may_38 : decode cX12_may 38 = .ok (.iconst (-1), 1) := by decide +kernel
theorem dX12_may_39 : decode cX12_may 39 = .ok (.ireturn, 1) := by decide +kernel
theorem dX12_weighs_0 : decode cX12_weighs 0 = .ok (.iconst 0, 1) := by decide +kernel
theorem dX12_weighs_1 : decode cX12_weighs 1 = .ok (.istore_n 1, 1) := by decide +kernel
theorem dX12_weighs_2 : decode cX12_weighs 2 = .ok (.iload_n 1, 1) := by decide +kernel
theorem dX12_weighs_3 : decode cX12_weighs 3 = .ok (.aload_n 0, 1) := by decide +kernel
theorem dX12_weighs_4 : decode cX12_weighs 4 = .ok (.getfield 20, 3) := by decide +kernel
theorem dX12_weighs_7 : decode cX12_weighs 7 = .ok (.sipush 1347, 3) := by decide +kernel
theorem dX12_weighs_10 : decode cX12_weighs 10 = .ok (.iaload, 1) := by decide +kernel
theorem dX12_weighs_11 : decode cX12_weighs 11 = .ok (.if_icmp .ge 44, 3) := by decide +kernel
theorem dX12_weighs_14 : decode cX12_weighs 14 = .ok (.aload_n 0, 1) := by decide +kernel
theorem dX12_weighs_15 : decode cX12_weighs 15 = .ok (.getfield 55, 3) := by decide +kernel
theorem dX12_weighs_18 : decode cX12_weighs 18 = .ok (.iload_n 1, 1) := by decide +kernel
theorem dX12_weighs_19 : decode cX12_weighs 19 = .ok (.aload_n 0, 1) := by decide +kernel
theorem dX12_weighs_20 : decode cX12_weighs 20 = .ok (.iload_n 1, 1) := by decide +kernel
theorem dX12_weighs_21 : decode cX12_weighs 21 = .ok (.iconst 4, 1) := by decide +kernel
theorem dX12_weighs_22 : decode cX12_weighs 22 = .ok (.invokevirtual 143, 3) := by decide +kernel
theorem dX12_weighs_25 : decode cX12_weighs 25 = .ok (.ifCond .ne 22, 3) := by decide +kernel
theorem dX12_weighs_28 : decode cX12_weighs 28 = .ok (.aload_n 0, 1) := by decide +kernel
theorem dX12_weighs_29 : decode cX12_weighs 29 = .ok (.aload_n 0, 1) := by decide +kernel
theorem dX12_weighs_30 : decode cX12_weighs 30 = .ok (.iload_n 1, 1) := by decide +kernel
theorem dX12_weighs_31 : decode cX12_weighs 31 = .ok (.iconst 1, 1) := by decide +kernel
theorem dX12_weighs_32 : decode cX12_weighs 32 = .ok (.invokevirtual 143, 3) := by decide +kernel
theorem dX12_weighs_35 : decode cX12_weighs 35 = .ok (.aload_n 0, 1) := by decide +kernel
theorem dX12_weighs_36 : decode cX12_weighs 36 = .ok (.iload_n 1, 1) := by decide +kernel
theorem dX12_weighs_37 : decode cX12_weighs 37 = .ok (.iconst 2, 1) := by decide +kernel
theorem dX12_weighs_38 : decode cX12_weighs 38 = .ok (.invokevirtual 143, 3) := by decide +kernel
theorem dX12_weighs_41 : decode cX12_weighs 41 = .ok (.invokevirtual 308, 3) := by decide +kernel
theorem dX12_weighs_44 : decode cX12_weighs 44 = .ok (.goto 4, 3) := by decide +kernel
theorem dX12_weighs_47 : decode cX12_weighs 47 = .ok (.iconst 0, 1) := by decide +kernel
theorem dX12_weighs_48 : decode cX12_weighs 48 = .ok (.iastore, 1) := by decide +kernel
theorem dX12_weighs_49 : decode cX12_weighs 49 = .ok (.iinc 1 1, 3) := by decide +kernel
theorem dX12_weighs_52 : decode cX12_weighs 52 = .ok (.goto (-50), 3) := by decide +kernel
theorem dX12_weighs_55 : decode cX12_weighs 55 = .ok (.return_, 1) := by decide +kernel
theorem dX12_costFrom_0 : decode cX12_costFrom 0 = .ok (.iconst 0, 1) := by decide +kernel
theorem dX12_costFrom_1 : decode cX12_costFrom 1 = .ok (.istore 4, 2) := by decide +kernel
theorem dX12_costFrom_3 : decode cX12_costFrom 3 = .ok (.iconst 0, 1) := by decide +kernel
theorem dX12_costFrom_4 : decode cX12_costFrom 4 = .ok (.istore 5, 2) := by decide +kernel
theorem dX12_costFrom_6 : decode cX12_costFrom 6 = .ok (.iconst 0, 1) := by decide +kernel
theorem dX12_costFrom_7 : decode cX12_costFrom 7 = .ok (.istore 6, 2) := by decide +kernel
theorem dX12_costFrom_9 : decode cX12_costFrom 9 = .ok (.iload 6, 2) := by decide +kernel
theorem dX12_costFrom_11 : decode cX12_costFrom 11 = .ok (.aload_n 0, 1) := by decide +kernel
theorem dX12_costFrom_12 : decode cX12_costFrom 12 = .ok (.getfield 20, 3) := by decide +kernel
theorem dX12_costFrom_15 : decode cX12_costFrom 15 = .ok (.sipush 1347, 3) := by decide +kernel
theorem dX12_costFrom_18 : decode cX12_costFrom 18 = .ok (.iaload, 1) := by decide +kernel
theorem dX12_costFrom_19 : decode cX12_costFrom 19 = .ok (.if_icmp .ge 184, 3) := by decide +kernel
theorem dX12_costFrom_22 : decode cX12_costFrom 22 = .ok (.aload_n 0, 1) := by decide +kernel
theorem dX12_costFrom_23 : decode cX12_costFrom 23 = .ok (.iload 6, 2) := by decide +kernel
theorem dX12_costFrom_25 : decode cX12_costFrom 25 = .ok (.iconst 4, 1) := by decide +kernel
theorem dX12_costFrom_26 : decode cX12_costFrom 26 = .ok (.invokevirtual 143, 3) := by decide +kernel
theorem dX12_costFrom_29 : decode cX12_costFrom 29 = .ok (.ifCond .eq 6, 3) := by decide +kernel
theorem dX12_costFrom_32 : decode cX12_costFrom 32 = .ok (.goto 165, 3) := by decide +kernel
theorem dX12_costFrom_35 : decode cX12_costFrom 35 = .ok (.aload_n 0, 1) := by decide +kernel
theorem dX12_costFrom_36 : decode cX12_costFrom 36 = .ok (.iload 6, 2) := by decide +kernel
theorem dX12_costFrom_38 : decode cX12_costFrom 38 = .ok (.iconst 1, 1) := by decide +kernel
theorem dX12_costFrom_39 : decode cX12_costFrom 39 = .ok (.invokevirtual 143, 3) := by decide +kernel
theorem dX12_costFrom_42 : decode cX12_costFrom 42 = .ok (.istore 7, 2) := by decide +kernel
theorem dX12_costFrom_44 : decode cX12_costFrom 44 = .ok (.aload_n 0, 1) := by decide +kernel
theorem dX12_costFrom_45 : decode cX12_costFrom 45 = .ok (.iload 6, 2) := by decide +kernel
theorem dX12_costFrom_47 : decode cX12_costFrom 47 = .ok (.iconst 2, 1) := by decide +kernel
theorem dX12_costFrom_48 : decode cX12_costFrom 48 = .ok (.invokevirtual 143, 3) := by decide +kernel
theorem dX12_costFrom_51 : decode cX12_costFrom 51 = .ok (.istore 8, 2) := by decide +kernel
theorem dX12_costFrom_53 : decode cX12_costFrom 53 = .ok (.aload_n 0, 1) := by decide +kernel
theorem dX12_costFrom_54 : decode cX12_costFrom 54 = .ok (.iload 6, 2) := by decide +kernel
theorem dX12_costFrom_56 : decode cX12_costFrom 56 = .ok (.iconst 0, 1) := by decide +kernel
theorem dX12_costFrom_57 : decode cX12_costFrom 57 = .ok (.invokevirtual 143, 3) := by decide +kernel
theorem dX12_costFrom_60 : decode cX12_costFrom 60 = .ok (.istore 9, 2) := by decide +kernel
theorem dX12_costFrom_62 : decode cX12_costFrom 62 = .ok (.iload 9, 2) := by decide +kernel
theorem dX12_costFrom_64 : decode cX12_costFrom 64 = .ok (.iload_n 3, 1) := by decide +kernel
theorem dX12_costFrom_65 : decode cX12_costFrom 65 = .ok (.if_icmp .ne 61, 3) := by decide +kernel
theorem dX12_costFrom_68 : decode cX12_costFrom 68 = .ok (.aload_n 0, 1) := by decide +kernel
theorem dX12_costFrom_69 : decode cX12_costFrom 69 = .ok (.iload_n 1, 1) := by decide +kernel
theorem dX12_costFrom_70 : decode cX12_costFrom 70 = .ok (.iload 7, 2) := by decide +kernel
theorem dX12_costFrom_72 : decode cX12_costFrom 72 = .ok (.iload 8, 2) := by decide +kernel
theorem dX12_costFrom_74 : decode cX12_costFrom 74 = .ok (.invokevirtual 146, 3) := by decide +kernel
theorem dX12_costFrom_77 : decode cX12_costFrom 77 = .ok (.ifCond .ne 49, 3) := by decide +kernel
theorem dX12_costFrom_80 : decode cX12_costFrom 80 = .ok (.aload_n 0, 1) := by decide +kernel
theorem dX12_costFrom_81 : decode cX12_costFrom 81 = .ok (.iload_n 2, 1) := by decide +kernel
theorem dX12_costFrom_82 : decode cX12_costFrom 82 = .ok (.iload 7, 2) := by decide +kernel
theorem dX12_costFrom_84 : decode cX12_costFrom 84 = .ok (.iload 8, 2) := by decide +kernel
theorem dX12_costFrom_86 : decode cX12_costFrom 86 = .ok (.invokevirtual 146, 3) := by decide +kernel
theorem dX12_costFrom_89 : decode cX12_costFrom 89 = .ok (.ifCond .ne 37, 3) := by decide +kernel
theorem dX12_costFrom_92 : decode cX12_costFrom 92 = .ok (.aload_n 0, 1) := by decide +kernel
theorem dX12_costFrom_93 : decode cX12_costFrom 93 = .ok (.iload_n 1, 1) := by decide +kernel
theorem dX12_costFrom_94 : decode cX12_costFrom 94 = .ok (.iload 7, 2) := by decide +kernel
theorem dX12_costFrom_96 : decode cX12_costFrom 96 = .ok (.iconst 1, 1) := by decide +kernel
theorem dX12_costFrom_97 : decode cX12_costFrom 97 = .ok (.invokevirtual 149, 3) := by decide +kernel
theorem dX12_costFrom_100 : decode cX12_costFrom 100 = .ok (.ifCond .eq 14, 3) := by decide +kernel
theorem dX12_costFrom_103 : decode cX12_costFrom 103 = .ok (.aload_n 0, 1) := by decide +kernel
theorem dX12_costFrom_104 : decode cX12_costFrom 104 = .ok (.iload_n 2, 1) := by decide +kernel
theorem dX12_costFrom_105 : decode cX12_costFrom 105 = .ok (.iload 7, 2) := by decide +kernel
theorem dX12_costFrom_107 : decode cX12_costFrom 107 = .ok (.iconst 1, 1) := by decide +kernel
theorem dX12_costFrom_108 : decode cX12_costFrom 108 = .ok (.invokevirtual 149, 3) := by decide +kernel
theorem dX12_costFrom_111 : decode cX12_costFrom 111 = .ok (.ifCond .ne 15, 3) := by decide +kernel
theorem dX12_costFrom_114 : decode cX12_costFrom 114 = .ok (.iload 4, 2) := by decide +kernel
theorem dX12_costFrom_116 : decode cX12_costFrom 116 = .ok (.aload_n 0, 1) := by decide +kernel
theorem dX12_costFrom_117 : decode cX12_costFrom 117 = .ok (.getfield 55, 3) := by decide +kernel
theorem dX12_costFrom_120 : decode cX12_costFrom 120 = .ok (.iload 6, 2) := by decide +kernel
theorem dX12_costFrom_122 : decode cX12_costFrom 122 = .ok (.iaload, 1) := by decide +kernel
theorem dX12_costFrom_123 : decode cX12_costFrom 123 = .ok (.iadd, 1) := by decide +kernel
theorem dX12_costFrom_124 : decode cX12_costFrom 124 = .ok (.istore 4, 2) := by decide +kernel
theorem dX12_costFrom_126 : decode cX12_costFrom 126 = .ok (.iload 9, 2) := by decide +kernel
theorem dX12_costFrom_128 : decode cX12_costFrom 128 = .ok (.iload_n 1, 1) := by decide +kernel
theorem dX12_costFrom_129 : decode cX12_costFrom 129 = .ok (.if_icmp .eq 21, 3) := by decide +kernel
theorem dX12_costFrom_132 : decode cX12_costFrom 132 = .ok (.iload 9, 2) := by decide +kernel
theorem dX12_costFrom_134 : decode cX12_costFrom 134 = .ok (.iload_n 2, 1) := by decide +kernel
theorem dX12_costFrom_135 : decode cX12_costFrom 135 = .ok (.if_icmp .ne 19, 3) := by decide +kernel
theorem dX12_costFrom_138 : decode cX12_costFrom 138 = .ok (.aload_n 0, 1) := by decide +kernel
theorem dX12_costFrom_139 : decode cX12_costFrom 139 = .ok (.iload_n 1, 1) := by decide +kernel
theorem dX12_costFrom_140 : decode cX12_costFrom 140 = .ok (.iload 7, 2) := by decide +kernel
theorem dX12_costFrom_142 : decode cX12_costFrom 142 = .ok (.iload 8, 2) := by decide +kernel
theorem dX12_costFrom_144 : decode cX12_costFrom 144 = .ok (.invokevirtual 146, 3) := by decide +kernel
theorem dX12_costFrom_147 : decode cX12_costFrom 147 = .ok (.ifCond .ne 7, 3) := by decide +kernel
theorem dX12_costFrom_150 : decode cX12_costFrom 150 = .ok (.iconst 1, 1) := by decide +kernel
theorem dX12_costFrom_151 : decode cX12_costFrom 151 = .ok (.goto 4, 3) := by decide +kernel
theorem dX12_costFrom_154 : decode cX12_costFrom 154 = .ok (.iconst 0, 1) := by decide +kernel
theorem dX12_costFrom_155 : decode cX12_costFrom 155 = .ok (.istore 10, 2) := by decide +kernel
theorem dX12_costFrom_157 : decode cX12_costFrom 157 = .ok (.iload 10, 2) := by decide +kernel
theorem dX12_costFrom_159 : decode cX12_costFrom 159 = .ok (.ifCond .eq 38, 3) := by decide +kernel
theorem dX12_costFrom_162 : decode cX12_costFrom 162 = .ok (.aload_n 0, 1) := by decide +kernel
theorem dX12_costFrom_163 : decode cX12_costFrom 163 = .ok (.iload_n 3, 1) := by decide +kernel
theorem dX12_costFrom_164 : decode cX12_costFrom 164 = .ok (.iload 7, 2) := by decide +kernel
theorem dX12_costFrom_166 : decode cX12_costFrom 166 = .ok (.iload 8, 2) := by decide +kernel
theorem dX12_costFrom_168 : decode cX12_costFrom 168 = .ok (.invokevirtual 146, 3) := by decide +kernel
theorem dX12_costFrom_171 : decode cX12_costFrom 171 = .ok (.ifCond .ne 26, 3) := by decide +kernel
theorem dX12_costFrom_174 : decode cX12_costFrom 174 = .ok (.aload_n 0, 1) := by decide +kernel
theorem dX12_costFrom_175 : decode cX12_costFrom 175 = .ok (.iload_n 3, 1) := by decide +kernel
theorem dX12_costFrom_176 : decode cX12_costFrom 176 = .ok (.iload 7, 2) := by decide +kernel
theorem dX12_costFrom_178 : decode cX12_costFrom 178 = .ok (.iconst 1, 1) := by decide +kernel
theorem dX12_costFrom_179 : decode cX12_costFrom 179 = .ok (.invokevirtual 149, 3) := by decide +kernel
theorem dX12_costFrom_182 : decode cX12_costFrom 182 = .ok (.ifCond .ne 15, 3) := by decide +kernel
theorem dX12_costFrom_185 : decode cX12_costFrom 185 = .ok (.iload 5, 2) := by decide +kernel
theorem dX12_costFrom_187 : decode cX12_costFrom 187 = .ok (.aload_n 0, 1) := by decide +kernel
theorem dX12_costFrom_188 : decode cX12_costFrom 188 = .ok (.getfield 55, 3) := by decide +kernel
theorem dX12_costFrom_191 : decode cX12_costFrom 191 = .ok (.iload 6, 2) := by decide +kernel
theorem dX12_costFrom_193 : decode cX12_costFrom 193 = .ok (.iaload, 1) := by decide +kernel
theorem dX12_costFrom_194 : decode cX12_costFrom 194 = .ok (.iadd, 1) := by decide +kernel
theorem dX12_costFrom_195 : decode cX12_costFrom 195 = .ok (.istore 5, 2) := by decide +kernel
theorem dX12_costFrom_197 : decode cX12_costFrom 197 = .ok (.iinc 6 1, 3) := by decide +kernel
theorem dX12_costFrom_200 : decode cX12_costFrom 200 = .ok (.goto (-191), 3) := by decide +kernel
theorem dX12_costFrom_203 : decode cX12_costFrom 203 = .ok (.aload_n 0, 1) := by decide +kernel
theorem dX12_costFrom_204 : decode cX12_costFrom 204 = .ok (.iconst 0, 1) := by decide +kernel
theorem dX12_costFrom_205 : decode cX12_costFrom 205 = .ok (.invokevirtual 320, 3) := by decide +kernel
theorem dX12_costFrom_208 : decode cX12_costFrom 208 = .ok (.iload 4, 2) := by decide +kernel
theorem dX12_costFrom_210 : decode cX12_costFrom 210 = .ok (.imul, 1) := by decide +kernel
theorem dX12_costFrom_211 : decode cX12_costFrom 211 = .ok (.aload_n 0, 1) := by decide +kernel
theorem dX12_costFrom_212 : decode cX12_costFrom 212 = .ok (.iconst 1, 1) := by decide +kernel
theorem dX12_costFrom_213 : decode cX12_costFrom 213 = .ok (.invokevirtual 320, 3) := by decide +kernel
theorem dX12_costFrom_216 : decode cX12_costFrom 216 = .ok (.iload 5, 2) := by decide +kernel
theorem dX12_costFrom_218 : decode cX12_costFrom 218 = .ok (.imul, 1) := by decide +kernel
theorem dX12_costFrom_219 : decode cX12_costFrom 219 = .ok (.iadd, 1) := by decide +kernel
theorem dX12_costFrom_220 : decode cX12_costFrom 220 = .ok (.ireturn, 1) := by decide +kernel
theorem dX12_costAlone_0 : decode cX12_costAlone 0 = .ok (.iconst 0, 1) := by decide +kernel
theorem dX12_costAlone_1 : decode cX12_costAlone 1 = .ok (.istore_n 2, 1) := by decide +kernel
theorem dX12_costAlone_2 : decode cX12_costAlone 2 = .ok (.iconst 0, 1) := by decide +kernel
theorem dX12_costAlone_3 : decode cX12_costAlone 3 = .ok (.istore_n 3, 1) := by decide +kernel
theorem dX12_costAlone_4 : decode cX12_costAlone 4 = .ok (.iload_n 3, 1) := by decide +kernel
theorem dX12_costAlone_5 : decode cX12_costAlone 5 = .ok (.aload_n 0, 1) := by decide +kernel
theorem dX12_costAlone_6 : decode cX12_costAlone 6 = .ok (.getfield 20, 3) := by decide +kernel
theorem dX12_costAlone_9 : decode cX12_costAlone 9 = .ok (.sipush 1347, 3) := by decide +kernel
theorem dX12_costAlone_12 : decode cX12_costAlone 12 = .ok (.iaload, 1) := by decide +kernel
theorem dX12_costAlone_13 : decode cX12_costAlone 13 = .ok (.if_icmp .ge 28, 3) := by decide +kernel
theorem dX12_costAlone_16 : decode cX12_costAlone 16 = .ok (.aload_n 0, 1) := by decide +kernel
theorem dX12_costAlone_17 : decode cX12_costAlone 17 = .ok (.iload_n 3, 1) := by decide +kernel
theorem dX12_costAlone_18 : decode cX12_costAlone 18 = .ok (.iconst 0, 1) := by decide +kernel
theorem dX12_costAlone_19 : decode cX12_costAlone 19 = .ok (.invokevirtual 143, 3) := by decide +kernel
theorem dX12_costAlone_22 : decode cX12_costAlone 22 = .ok (.iload_n 1, 1) := by decide +kernel
theorem dX12_costAlone_23 : decode cX12_costAlone 23 = .ok (.if_icmp .ne 12, 3) := by decide +kernel
theorem dX12_costAlone_26 : decode cX12_costAlone 26 = .ok (.iload_n 2, 1) := by decide +kernel
theorem dX12_costAlone_27 : decode cX12_costAlone 27 = .ok (.aload_n 0, 1) := by decide +kernel
theorem dX12_costAlone_28 : decode cX12_costAlone 28 = .ok (.getfield 55, 3) := by decide +kernel
theorem dX12_costAlone_31 : decode cX12_costAlone 31 = .ok (.iload_n 3, 1) := by decide +kernel
theorem dX12_costAlone_32 : decode cX12_costAlone 32 = .ok (.iaload, 1) := by decide +kernel
theorem dX12_costAlone_33 : decode cX12_costAlone 33 = .ok (.iadd, 1) := by decide +kernel
theorem dX12_costAlone_34 : decode cX12_costAlone 34 = .ok (.istore_n 2, 1) := by decide +kernel
theorem dX12_costAlone_35 : decode cX12_costAlone 35 = .ok (.iinc 3 1, 3) := by decide +kernel
theorem dX12_costAlone_38 : decode cX12_costAlone 38 = .ok (.goto (-34), 3) := by decide +kernel
theorem dX12_costAlone_41 : decode cX12_costAlone 41 = .ok (.aload_n 0, 1) := by decide +kernel
theorem dX12_costAlone_42 : decode cX12_costAlone 42 = .ok (.iconst 2, 1) := by decide +kernel
theorem dX12_costAlone_43 : decode cX12_costAlone 43 = .ok (.invokevirtual 320, 3) := by decide +kernel
theorem dX12_costAlone_46 : decode cX12_costAlone 46 = .ok (.iload_n 2, 1) := by decide +kernel
theorem dX12_costAlone_47 : decode cX12_costAlone 47 = .ok (.imul, 1) := by decide +kernel
theorem dX12_costAlone_48 : decode cX12_costAlone 48 = .ok (.ireturn, 1) := by decide +kernel
theorem dX12_cost_0 : decode cX12_cost 0 = .ok (.aload_n 0, 1) := by decide +kernel
theorem dX12_cost_1 : decode cX12_cost 1 = .ok (.iload_n 2, 1) := by decide +kernel
theorem dX12_cost_2 : decode cX12_cost 2 = .ok (.invokevirtual 128, 3) := by decide +kernel
theorem dX12_cost_5 : decode cX12_cost 5 = .ok (.ifCond .eq 21, 3) := by decide +kernel
theorem dX12_cost_8 : decode cX12_cost 8 = .ok (.iload_n 1, 1) := by decide +kernel
theorem dX12_cost_9 : decode cX12_cost 9 = .ok (.iconst (-1), 1) := by decide +kernel
theorem dX12_cost_10 : decode cX12_cost 10 = .ok (.if_icmp .eq 11, 3) := by decide +kernel
theorem dX12_cost_13 : decode cX12_cost 13 = .ok (.aload_n 0, 1) := by decide +kernel
theorem dX12_cost_14 : decode cX12_cost 14 = .ok (.iload_n 1, 1) := by decide +kernel
theorem dX12_cost_15 : decode cX12_cost 15 = .ok (.invokevirtual 128, 3) := by decide +kernel
theorem dX12_cost_18 : decode cX12_cost 18 = .ok (.ifCond .eq 8, 3) := by decide +kernel
theorem dX12_cost_21 : decode cX12_cost 21 = .ok (.iload_n 1, 1) := by decide +kernel
theorem dX12_cost_22 : decode cX12_cost 22 = .ok (.iload_n 2, 1) := by decide +kernel
theorem dX12_cost_23 : decode cX12_cost 23 = .ok (.if_icmp .ne 5, 3) := by decide +kernel
theorem dX12_cost_26 : decode cX12_cost 26 = .ok (.iconst (-1), 1) := by decide +kernel
theorem dX12_cost_27 : decode cX12_cost 27 = .ok (.ireturn, 1) := by decide +kernel
theorem dX12_cost_28 : decode cX12_cost 28 = .ok (.aload_n 0, 1) := by decide +kernel
theorem dX12_cost_29 : decode cX12_cost 29 = .ok (.invokevirtual 323, 3) := by decide +kernel
theorem dX12_cost_32 : decode cX12_cost 32 = .ok (.iload_n 1, 1) := by decide +kernel
theorem dX12_cost_33 : decode cX12_cost 33 = .ok (.iconst (-1), 1) := by decide +kernel
theorem dX12_cost_34 : decode cX12_cost 34 = .ok (.if_icmp .ne 11, 3) := by decide +kernel
theorem dX12_cost_37 : decode cX12_cost 37 = .ok (.aload_n 0, 1) := by decide +kernel
theorem dX12_cost_38 : decode cX12_cost 38 = .ok (.iload_n 2, 1) := by decide +kernel
theorem dX12_cost_39 : decode cX12_cost 39 = .ok (.invokevirtual 326, 3) := by decide +kernel
theorem dX12_cost_42 : decode cX12_cost 42 = .ok (.goto 10, 3) := by decide +kernel
theorem dX12_cost_45 : decode cX12_cost 45 = .ok (.aload_n 0, 1) := by decide +kernel
theorem dX12_cost_46 : decode cX12_cost 46 = .ok (.iload_n 1, 1) := by decide +kernel
theorem dX12_cost_47 : decode cX12_cost 47 = .ok (.iload_n 1, 1) := by decide +kernel
theorem dX12_cost_48 : decode cX12_cost 48 = .ok (.iload_n 2, 1) := by decide +kernel
theorem dX12_cost_49 : decode cX12_cost 49 = .ok (.invokevirtual 329, 3) := by decide +kernel
theorem dX12_cost_52 : decode cX12_cost 52 = .ok (.ireturn, 1) := by decide +kernel
theorem dX12_laysCosts_0 : decode cX12_laysCosts 0 = .ok (.aload_n 0, 1) := by decide +kernel
theorem dX12_laysCosts_1 : decode cX12_laysCosts 1 = .ok (.invokevirtual 323, 3) := by decide +kernel
theorem dX12_laysCosts_4 : decode cX12_laysCosts 4 = .ok (.iconst 0, 1) := by decide +kernel
theorem dX12_laysCosts_5 : decode cX12_laysCosts 5 = .ok (.istore_n 1, 1) := by decide +kernel
theorem dX12_laysCosts_6 : decode cX12_laysCosts 6 = .ok (.iload_n 1, 1) := by decide +kernel
theorem dX12_laysCosts_7 : decode cX12_laysCosts 7 = .ok (.aload_n 0, 1) := by decide +kernel
theorem dX12_laysCosts_8 : decode cX12_laysCosts 8 = .ok (.invokevirtual 124, 3) := by decide +kernel
theorem dX12_laysCosts_11 : decode cX12_laysCosts 11 = .ok (.if_icmp .ge 98, 3) := by decide +kernel
theorem dX12_laysCosts_14 : decode cX12_laysCosts 14 = .ok (.aload_n 0, 1) := by decide +kernel
theorem dX12_laysCosts_15 : decode cX12_laysCosts 15 = .ok (.getfield 61, 3) := by decide +kernel
theorem dX12_laysCosts_18 : decode cX12_laysCosts 18 = .ok (.iload_n 1, 1) := by decide +kernel
theorem dX12_laysCosts_19 : decode cX12_laysCosts 19 = .ok (.sipush 4096, 3) := by decide +kernel
theorem dX12_laysCosts_22 : decode cX12_laysCosts 22 = .ok (.iastore, 1) := by decide +kernel
theorem dX12_laysCosts_23 : decode cX12_laysCosts 23 = .ok (.aload_n 0, 1) := by decide +kernel
theorem dX12_laysCosts_24 : decode cX12_laysCosts 24 = .ok (.getfield 58, 3) := by decide +kernel
theorem dX12_laysCosts_27 : decode cX12_laysCosts 27 = .ok (.bipush 13, 2) := by decide +kernel
theorem dX12_laysCosts_29 : decode cX12_laysCosts 29 = .ok (.iload_n 1, 1) := by decide +kernel
theorem dX12_laysCosts_30 : decode cX12_laysCosts 30 = .ok (.imul, 1) := by decide +kernel
theorem dX12_laysCosts_31 : decode cX12_laysCosts 31 = .ok (.bipush 12, 2) := by decide +kernel
theorem dX12_laysCosts_33 : decode cX12_laysCosts 33 = .ok (.iadd, 1) := by decide +kernel
theorem dX12_laysCosts_34 : decode cX12_laysCosts 34 = .ok (.aload_n 0, 1) := by decide +kernel
theorem dX12_laysCosts_35 : decode cX12_laysCosts 35 = .ok (.iload_n 1, 1) := by decide +kernel
theorem dX12_laysCosts_36 : decode cX12_laysCosts 36 = .ok (.invokevirtual 326, 3) := by decide +kernel
theorem dX12_laysCosts_39 : decode cX12_laysCosts 39 = .ok (.iastore, 1) := by decide +kernel
theorem dX12_laysCosts_40 : decode cX12_laysCosts 40 = .ok (.iconst 0, 1) := by decide +kernel
theorem dX12_laysCosts_41 : decode cX12_laysCosts 41 = .ok (.istore_n 2, 1) := by decide +kernel
theorem dX12_laysCosts_42 : decode cX12_laysCosts 42 = .ok (.iload_n 2, 1) := by decide +kernel
theorem dX12_laysCosts_43 : decode cX12_laysCosts 43 = .ok (.aload_n 0, 1) := by decide +kernel
theorem dX12_laysCosts_44 : decode cX12_laysCosts 44 = .ok (.invokevirtual 124, 3) := by decide +kernel
theorem dX12_laysCosts_47 : decode cX12_laysCosts 47 = .ok (.if_icmp .ge 56, 3) := by decide +kernel
theorem dX12_laysCosts_50 : decode cX12_laysCosts 50 = .ok (.iload_n 2, 1) := by decide +kernel
theorem dX12_laysCosts_51 : decode cX12_laysCosts 51 = .ok (.iload_n 1, 1) := by decide +kernel
theorem dX12_laysCosts_52 : decode cX12_laysCosts 52 = .ok (.if_icmp .eq 45, 3) := by decide +kernel
theorem dX12_laysCosts_55 : decode cX12_laysCosts 55 = .ok (.aload_n 0, 1) := by decide +kernel
theorem dX12_laysCosts_56 : decode cX12_laysCosts 56 = .ok (.iload_n 2, 1) := by decide +kernel
theorem dX12_laysCosts_57 : decode cX12_laysCosts 57 = .ok (.iload_n 1, 1) := by decide +kernel
theorem dX12_laysCosts_58 : decode cX12_laysCosts 58 = .ok (.invokevirtual 317, 3) := by decide +kernel
theorem dX12_laysCosts_61 : decode cX12_laysCosts 61 = .ok (.ifCond .ne 6, 3) := by decide +kernel
theorem dX12_laysCosts_64 : decode cX12_laysCosts 64 = .ok (.goto 33, 3) := by decide +kernel
theorem dX12_laysCosts_67 : decode cX12_laysCosts 67 = .ok (.aload_n 0, 1) := by decide +kernel
theorem dX12_laysCosts_68 : decode cX12_laysCosts 68 = .ok (.getfield 61, 3) := by decide +kernel
theorem dX12_laysCosts_71 : decode cX12_laysCosts 71 = .ok (.iload_n 1, 1) := by decide +kernel
theorem dX12_laysCosts_72 : decode cX12_laysCosts 72 = .ok (.dup2, 1) := by decide +kernel
theorem dX12_laysCosts_73 : decode cX12_laysCosts 73 = .ok (.iaload, 1) := by decide +kernel
theorem dX12_laysCosts_74 : decode cX12_laysCosts 74 = .ok (.iconst 1, 1) := by decide +kernel
theorem dX12_laysCosts_75 : decode cX12_laysCosts 75 = .ok (.iload_n 2, 1) := by decide +kernel
theorem dX12_laysCosts_76 : decode cX12_laysCosts 76 = .ok (.ishl, 1) := by decide +kernel
theorem dX12_laysCosts_77 : decode cX12_laysCosts 77 = .ok (.ior, 1) := by decide +kernel
theorem dX12_laysCosts_78 : decode cX12_laysCosts 78 = .ok (.iastore, 1) := by decide +kernel
theorem dX12_laysCosts_79 : decode cX12_laysCosts 79 = .ok (.aload_n 0, 1) := by decide +kernel
theorem dX12_laysCosts_80 : decode cX12_laysCosts 80 = .ok (.getfield 58, 3) := by decide +kernel
theorem dX12_laysCosts_83 : decode cX12_laysCosts 83 = .ok (.bipush 13, 2) := by decide +kernel
theorem dX12_laysCosts_85 : decode cX12_laysCosts 85 = .ok (.iload_n 1, 1) := by decide +kernel
theorem dX12_laysCosts_86 : decode cX12_laysCosts 86 = .ok (.imul, 1) := by decide +kernel
theorem dX12_laysCosts_87 : decode cX12_laysCosts 87 = .ok (.iload_n 2, 1) := by decide +kernel
theorem dX12_laysCosts_88 : decode cX12_laysCosts 88 = .ok (.iadd, 1) := by decide +kernel
theorem dX12_laysCosts_89 : decode cX12_laysCosts 89 = .ok (.aload_n 0, 1) := by decide +kernel
theorem dX12_laysCosts_90 : decode cX12_laysCosts 90 = .ok (.iload_n 2, 1) := by decide +kernel
theorem dX12_laysCosts_91 : decode cX12_laysCosts 91 = .ok (.iload_n 2, 1) := by decide +kernel
theorem dX12_laysCosts_92 : decode cX12_laysCosts 92 = .ok (.iload_n 1, 1) := by decide +kernel
theorem dX12_laysCosts_93 : decode cX12_laysCosts 93 = .ok (.invokevirtual 329, 3) := by decide +kernel
theorem dX12_laysCosts_96 : decode cX12_laysCosts 96 = .ok (.iastore, 1) := by decide +kernel
theorem dX12_laysCosts_97 : decode cX12_laysCosts 97 = .ok (.iinc 2 1, 3) := by decide +kernel
theorem dX12_laysCosts_100 : decode cX12_laysCosts 100 = .ok (.goto (-58), 3) := by decide +kernel
theorem dX12_laysCosts_103 : decode cX12_laysCosts 103 = .ok (.iinc 1 1, 3) := by decide +kernel
theorem dX12_laysCosts_106 : decode cX12_laysCosts 106 = .ok (.goto (-100), 3) := by decide +kernel
theorem dX12_laysCosts_109 : decode cX12_laysCosts 109 = .ok (.return_, 1) := by decide +kernel
theorem dX12_cheapest_0 : decode cX12_cheapest 0 = .ok (.iconst 1, 1) := by decide +kernel
theorem dX12_cheapest_1 : decode cX12_cheapest 1 = .ok (.aload_n 0, 1) := by decide +kernel
theorem dX12_cheapest_2 : decode cX12_cheapest 2 = .ok (.invokevirtual 124, 3) := by decide +kernel
theorem dX12_cheapest_5 : decode cX12_cheapest 5 = .ok (.ishl, 1) := by decide +kernel
theorem dX12_cheapest_6 : decode cX12_cheapest 6 = .ok (.iconst 1, 1) := by decide +kernel
theorem dX12_cheapest_7 : decode cX12_cheapest 7 = .ok (.isub, 1) := by decide +kernel
theorem dX12_cheapest_8 : decode cX12_cheapest 8 = .ok (.istore_n 1, 1) := by decide +kernel
theorem dX12_cheapest_9 : decode cX12_cheapest 9 = .ok (.aload_n 0, 1) := by decide +kernel
theorem dX12_cheapest_10 : decode cX12_cheapest 10 = .ok (.getfield 64, 3) := by decide +kernel
theorem dX12_cheapest_13 : decode cX12_cheapest 13 = .ok (.iconst 0, 1) := by decide +kernel
theorem dX12_cheapest_14 : decode cX12_cheapest 14 = .ok (.iconst 0, 1) := by decide +kernel
theorem dX12_cheapest_15 : decode cX12_cheapest 15 = .ok (.iastore, 1) := by decide +kernel
theorem dX12_cheapest_16 : decode cX12_cheapest 16 = .ok (.iconst 1, 1) := by decide +kernel
theorem dX12_cheapest_17 : decode cX12_cheapest 17 = .ok (.istore_n 2, 1) := by decide +kernel
theorem dX12_cheapest_18 : decode cX12_cheapest 18 = .ok (.iload_n 2, 1) := by decide +kernel
theorem dX12_cheapest_19 : decode cX12_cheapest 19 = .ok (.iload_n 1, 1) := by decide +kernel
theorem dX12_cheapest_20 : decode cX12_cheapest 20 = .ok (.if_icmp .gt 130, 3) := by decide +kernel
theorem dX12_cheapest_23 : decode cX12_cheapest 23 = .ok (.aload_n 0, 1) := by decide +kernel
theorem dX12_cheapest_24 : decode cX12_cheapest 24 = .ok (.getfield 64, 3) := by decide +kernel
theorem dX12_cheapest_27 : decode cX12_cheapest 27 = .ok (.iload_n 2, 1) := by decide +kernel
theorem dX12_cheapest_28 : decode cX12_cheapest 28 = .ok (.ldc_w 333, 3) := by decide +kernel
theorem dX12_cheapest_31 : decode cX12_cheapest 31 = .ok (.iastore, 1) := by decide +kernel
theorem dX12_cheapest_32 : decode cX12_cheapest 32 = .ok (.iconst 0, 1) := by decide +kernel
theorem dX12_cheapest_33 : decode cX12_cheapest 33 = .ok (.istore_n 3, 1) := by decide +kernel
theorem dX12_cheapest_34 : decode cX12_cheapest 34 = .ok (.iload_n 3, 1) := by decide +kernel
theorem dX12_cheapest_35 : decode cX12_cheapest 35 = .ok (.aload_n 0, 1) := by decide +kernel
theorem dX12_cheapest_36 : decode cX12_cheapest 36 = .ok (.invokevirtual 124, 3) := by decide +kernel
theorem dX12_cheapest_39 : decode cX12_cheapest 39 = .ok (.if_icmp .ge 105, 3) := by decide +kernel
theorem dX12_cheapest_42 : decode cX12_cheapest 42 = .ok (.iload_n 2, 1) := by decide +kernel
theorem dX12_cheapest_43 : decode cX12_cheapest 43 = .ok (.iload_n 3, 1) := by decide +kernel
theorem dX12_cheapest_44 : decode cX12_cheapest 44 = .ok (.ishr, 1) := by decide +kernel
theorem dX12_cheapest_45 : decode cX12_cheapest 45 = .ok (.iconst 1, 1) := by decide +kernel
theorem dX12_cheapest_46 : decode cX12_cheapest 46 = .ok (.iand, 1) := by decide +kernel
theorem dX12_cheapest_47 : decode cX12_cheapest 47 = .ok (.ifCond .eq 91, 3) := by decide +kernel
theorem dX12_cheapest_50 : decode cX12_cheapest 50 = .ok (.aload_n 0, 1) := by decide +kernel
theorem dX12_cheapest_51 : decode cX12_cheapest 51 = .ok (.getfield 64, 3) := by decide +kernel
theorem dX12_cheapest_54 : decode cX12_cheapest 54 = .ok (.iload_n 2, 1) := by decide +kernel
theorem dX12_cheapest_55 : decode cX12_cheapest 55 = .ok (.iconst 1, 1) := by decide +kernel
theorem dX12_cheapest_56 : decode cX12_cheapest 56 = .ok (.iload_n 3, 1) := by decide +kernel
theorem dX12_cheapest_57 : decode cX12_cheapest 57 = .ok (.ishl, 1) := by decide +kernel
theorem dX12_cheapest_58 : decode cX12_cheapest 58 = .ok (.iconst (-1), 1) := by decide +kernel
theorem dX12_cheapest_59 : decode cX12_cheapest 59 = .ok (.ixor, 1) := by decide +kernel
theorem dX12_cheapest_60 : decode cX12_cheapest 60 = .ok (.iand, 1) := by decide +kernel
theorem dX12_cheapest_61 : decode cX12_cheapest 61 = .ok (.iaload, 1) := by decide +kernel
theorem dX12_cheapest_62 : decode cX12_cheapest 62 = .ok (.ldc_w 333, 3) := by decide +kernel
theorem dX12_cheapest_65 : decode cX12_cheapest 65 = .ok (.if_icmp .ne 6, 3) := by decide +kernel
theorem dX12_cheapest_68 : decode cX12_cheapest 68 = .ok (.goto 70, 3) := by decide +kernel
theorem dX12_cheapest_71 : decode cX12_cheapest 71 = .ok (.aload_n 0, 1) := by decide +kernel
theorem dX12_cheapest_72 : decode cX12_cheapest 72 = .ok (.iload_n 3, 1) := by decide +kernel
theorem dX12_cheapest_73 : decode cX12_cheapest 73 = .ok (.iload_n 2, 1) := by decide +kernel
theorem dX12_cheapest_74 : decode cX12_cheapest 74 = .ok (.iconst 1, 1) := by decide +kernel
theorem dX12_cheapest_75 : decode cX12_cheapest 75 = .ok (.iload_n 3, 1) := by decide +kernel
theorem dX12_cheapest_76 : decode cX12_cheapest 76 = .ok (.ishl, 1) := by decide +kernel
theorem dX12_cheapest_77 : decode cX12_cheapest 77 = .ok (.iconst (-1), 1) := by decide +kernel
theorem dX12_cheapest_78 : decode cX12_cheapest 78 = .ok (.ixor, 1) := by decide +kernel
theorem dX12_cheapest_79 : decode cX12_cheapest 79 = .ok (.iand, 1) := by decide +kernel
theorem dX12_cheapest_80 : decode cX12_cheapest 80 = .ok (.invokevirtual 334, 3) := by decide +kernel
theorem dX12_cheapest_83 : decode cX12_cheapest 83 = .ok (.istore 4, 2) := by decide +kernel
theorem dX12_cheapest_85 : decode cX12_cheapest 85 = .ok (.iload 4, 2) := by decide +kernel
theorem dX12_cheapest_87 : decode cX12_cheapest 87 = .ok (.ldc_w 333, 3) := by decide +kernel
theorem dX12_cheapest_90 : decode cX12_cheapest 90 = .ok (.if_icmp .ge 48, 3) := by decide +kernel
theorem dX12_cheapest_93 : decode cX12_cheapest 93 = .ok (.aload_n 0, 1) := by decide +kernel
theorem dX12_cheapest_94 : decode cX12_cheapest 94 = .ok (.getfield 64, 3) := by decide +kernel
theorem dX12_cheapest_97 : decode cX12_cheapest 97 = .ok (.iload_n 2, 1) := by decide +kernel
theorem dX12_cheapest_98 : decode cX12_cheapest 98 = .ok (.iconst 1, 1) := by decide +kernel
theorem dX12_cheapest_99 : decode cX12_cheapest 99 = .ok (.iload_n 3, 1) := by decide +kernel
theorem dX12_cheapest_100 : decode cX12_cheapest 100 = .ok (.ishl, 1) := by decide +kernel
theorem dX12_cheapest_101 : decode cX12_cheapest 101 = .ok (.iconst (-1), 1) := by decide +kernel
theorem dX12_cheapest_102 : decode cX12_cheapest 102 = .ok (.ixor, 1) := by decide +kernel
theorem dX12_cheapest_103 : decode cX12_cheapest 103 = .ok (.iand, 1) := by decide +kernel
theorem dX12_cheapest_104 : decode cX12_cheapest 104 = .ok (.iaload, 1) := by decide +kernel
theorem dX12_cheapest_105 : decode cX12_cheapest 105 = .ok (.iload 4, 2) := by decide +kernel
theorem dX12_cheapest_107 : decode cX12_cheapest 107 = .ok (.iadd, 1) := by decide +kernel
theorem dX12_cheapest_108 : decode cX12_cheapest 108 = .ok (.aload_n 0, 1) := by decide +kernel
theorem dX12_cheapest_109 : decode cX12_cheapest 109 = .ok (.getfield 64, 3) := by decide +kernel
theorem dX12_cheapest_112 : decode cX12_cheapest 112 = .ok (.iload_n 2, 1) := by decide +kernel
theorem dX12_cheapest_113 : decode cX12_cheapest 113 = .ok (.iaload, 1) := by decide +kernel
theorem dX12_cheapest_114 : decode cX12_cheapest 114 = .ok (.if_icmp .ge 24, 3) := by decide +kernel
theorem dX12_cheapest_117 : decode cX12_cheapest 117 = .ok (.aload_n 0, 1) := by decide +kernel
theorem dX12_cheapest_118 : decode cX12_cheapest 118 = .ok (.getfield 64, 3) := by decide +kernel
theorem dX12_cheapest_121 : decode cX12_cheapest 121 = .ok (.iload_n 2, 1) := by decide +kernel
theorem dX12_cheapest_122 : decode cX12_cheapest 122 = .ok (.aload_n 0, 1) := by decide +kernel
theorem dX12_cheapest_123 : decode cX12_cheapest 123 = .ok (.getfield 64, 3) := by decide +kernel
theorem dX12_cheapest_126 : decode cX12_cheapest 126 = .ok (.iload_n 2, 1) := by decide +kernel
theorem dX12_cheapest_127 : decode cX12_cheapest 127 = .ok (.iconst 1, 1) := by decide +kernel
theorem dX12_cheapest_128 : decode cX12_cheapest 128 = .ok (.iload_n 3, 1) := by decide +kernel
theorem dX12_cheapest_129 : decode cX12_cheapest 129 = .ok (.ishl, 1) := by decide +kernel
theorem dX12_cheapest_130 : decode cX12_cheapest 130 = .ok (.iconst (-1), 1) := by decide +kernel
theorem dX12_cheapest_131 : decode cX12_cheapest 131 = .ok (.ixor, 1) := by decide +kernel
theorem dX12_cheapest_132 : decode cX12_cheapest 132 = .ok (.iand, 1) := by decide +kernel
theorem dX12_cheapest_133 : decode cX12_cheapest 133 = .ok (.iaload, 1) := by decide +kernel
theorem dX12_cheapest_134 : decode cX12_cheapest 134 = .ok (.iload 4, 2) := by decide +kernel
theorem dX12_cheapest_136 : decode cX12_cheapest 136 = .ok (.iadd, 1) := by decide +kernel
theorem dX12_cheapest_137 : decode cX12_cheapest 137 = .ok (.iastore, 1) := by decide +kernel
theorem dX12_cheapest_138 : decode cX12_cheapest 138 = .ok (.iinc 3 1, 3) := by decide +kernel
theorem dX12_cheapest_141 : decode cX12_cheapest 141 = .ok (.goto (-107), 3) := by decide +kernel
theorem dX12_cheapest_144 : decode cX12_cheapest 144 = .ok (.iinc 2 1, 3) := by decide +kernel
theorem dX12_cheapest_147 : decode cX12_cheapest 147 = .ok (.goto (-129), 3) := by decide +kernel
theorem dX12_cheapest_150 : decode cX12_cheapest 150 = .ok (.aload_n 0, 1) := by decide +kernel
theorem dX12_cheapest_151 : decode cX12_cheapest 151 = .ok (.getfield 64, 3) := by decide +kernel
theorem dX12_cheapest_154 : decode cX12_cheapest 154 = .ok (.iload_n 1, 1) := by decide +kernel
theorem dX12_cheapest_155 : decode cX12_cheapest 155 = .ok (.iaload, 1) := by decide +kernel
theorem dX12_cheapest_156 : decode cX12_cheapest 156 = .ok (.ireturn, 1) := by decide +kernel
theorem dX12_cheapestOf_0 : decode cX12_cheapestOf 0 = .ok (.ldc_w 333, 3) := by decide +kernel
theorem dX12_cheapestOf_3 : decode cX12_cheapestOf 3 = .ok (.istore_n 3, 1) := by decide +kernel
theorem dX12_cheapestOf_4 : decode cX12_cheapestOf 4 = .ok (.iconst 0, 1) := by decide +kernel
theorem dX12_cheapestOf_5 : decode cX12_cheapestOf 5 = .ok (.istore 4, 2) := by decide +kernel
theorem dX12_cheapestOf_7 : decode cX12_cheapestOf 7 = .ok (.iload 4, 2) := by decide +kernel
theorem dX12_cheapestOf_9 : decode cX12_cheapestOf 9 = .ok (.bipush 12, 2) := by decide +kernel
theorem dX12_cheapestOf_11 : decode cX12_cheapestOf 11 = .ok (.if_icmp .gt 70, 3) := by decide +kernel
theorem dX12_cheapestOf_14 : decode cX12_cheapestOf 14 = .ok (.aload_n 0, 1) := by decide +kernel
theorem dX12_cheapestOf_15 : decode cX12_cheapestOf 15 = .ok (.getfield 61, 3) := by decide +kernel
theorem dX12_cheapestOf_18 : decode cX12_cheapestOf 18 = .ok (.iload_n 1, 1) := by decide +kernel
theorem dX12_cheapestOf_19 : decode cX12_cheapestOf 19 = .ok (.iaload, 1) := by decide +kernel
theorem dX12_cheapestOf_20 : decode cX12_cheapestOf 20 = .ok (.iload 4, 2) := by decide +kernel
theorem dX12_cheapestOf_22 : decode cX12_cheapestOf 22 = .ok (.ishr, 1) := by decide +kernel
theorem dX12_cheapestOf_23 : decode cX12_cheapestOf 23 = .ok (.iconst 1, 1) := by decide +kernel
theorem dX12_cheapestOf_24 : decode cX12_cheapestOf 24 = .ok (.iand, 1) := by decide +kernel
theorem dX12_cheapestOf_25 : decode cX12_cheapestOf 25 = .ok (.iconst 1, 1) := by decide +kernel
theorem dX12_cheapestOf_26 : decode cX12_cheapestOf 26 = .ok (.if_icmp .ne 49, 3) := by decide +kernel
theorem dX12_cheapestOf_29 : decode cX12_cheapestOf 29 = .ok (.iload 4, 2) := by decide +kernel
theorem dX12_cheapestOf_31 : decode cX12_cheapestOf 31 = .ok (.bipush 12, 2) := by decide +kernel
theorem dX12_cheapestOf_33 : decode cX12_cheapestOf 33 = .ok (.if_icmp .eq 13, 3) := by decide +kernel
theorem dX12_cheapestOf_36 : decode cX12_cheapestOf 36 = .ok (.iload_n 2, 1) := by decide +kernel
theorem dX12_cheapestOf_37 : decode cX12_cheapestOf 37 = .ok (.iload 4, 2) := by decide +kernel
theorem dX12_cheapestOf_39 : decode cX12_cheapestOf 39 = .ok (.ishr, 1) := by decide +kernel
theorem dX12_cheapestOf_40 : decode cX12_cheapestOf 40 = .ok (.iconst 1, 1) := by decide +kernel
theorem dX12_cheapestOf_41 : decode cX12_cheapestOf 41 = .ok (.iand, 1) := by decide +kernel
theorem dX12_cheapestOf_42 : decode cX12_cheapestOf 42 = .ok (.iconst 1, 1) := by decide +kernel
theorem dX12_cheapestOf_43 : decode cX12_cheapestOf 43 = .ok (.if_icmp .ne 32, 3) := by decide +kernel
theorem dX12_cheapestOf_46 : decode cX12_cheapestOf 46 = .ok (.aload_n 0, 1) := by decide +kernel
theorem dX12_cheapestOf_47 : decode cX12_cheapestOf 47 = .ok (.getfield 58, 3) := by decide +kernel
theorem dX12_cheapestOf_50 : decode cX12_cheapestOf 50 = .ok (.bipush 13, 2) := by decide +kernel
theorem dX12_cheapestOf_52 : decode cX12_cheapestOf 52 = .ok (.iload_n 1, 1) := by decide +kernel
theorem dX12_cheapestOf_53 : decode cX12_cheapestOf 53 = .ok (.imul, 1) := by decide +kernel
theorem dX12_cheapestOf_54 : decode cX12_cheapestOf 54 = .ok (.iload 4, 2) := by decide +kernel
theorem dX12_cheapestOf_56 : decode cX12_cheapestOf 56 = .ok (.iadd, 1) := by decide +kernel
theorem dX12_cheapestOf_57 : decode cX12_cheapestOf 57 = .ok (.iaload, 1) := by decide +kernel
theorem dX12_cheapestOf_58 : decode cX12_cheapestOf 58 = .ok (.iload_n 3, 1) := by decide +kernel
theorem dX12_cheapestOf_59 : decode cX12_cheapestOf 59 = .ok (.if_icmp .ge 16, 3) := by decide +kernel
theorem dX12_cheapestOf_62 : decode cX12_cheapestOf 62 = .ok (.aload_n 0, 1) := by decide +kernel
theorem dX12_cheapestOf_63 : decode cX12_cheapestOf 63 = .ok (.getfield 58, 3) := by decide +kernel
theorem dX12_cheapestOf_66 : decode cX12_cheapestOf 66 = .ok (.bipush 13, 2) := by decide +kernel
theorem dX12_cheapestOf_68 : decode cX12_cheapestOf 68 = .ok (.iload_n 1, 1) := by decide +kernel
theorem dX12_cheapestOf_69 : decode cX12_cheapestOf 69 = .ok (.imul, 1) := by decide +kernel
theorem dX12_cheapestOf_70 : decode cX12_cheapestOf 70 = .ok (.iload 4, 2) := by decide +kernel
theorem dX12_cheapestOf_72 : decode cX12_cheapestOf 72 = .ok (.iadd, 1) := by decide +kernel
theorem dX12_cheapestOf_73 : decode cX12_cheapestOf 73 = .ok (.iaload, 1) := by decide +kernel
theorem dX12_cheapestOf_74 : decode cX12_cheapestOf 74 = .ok (.istore_n 3, 1) := by decide +kernel
theorem dX12_cheapestOf_75 : decode cX12_cheapestOf 75 = .ok (.iinc 4 1, 3) := by decide +kernel
theorem dX12_cheapestOf_78 : decode cX12_cheapestOf 78 = .ok (.goto (-71), 3) := by decide +kernel
theorem dX12_cheapestOf_81 : decode cX12_cheapestOf 81 = .ok (.iload_n 3, 1) := by decide +kernel
theorem dX12_cheapestOf_82 : decode cX12_cheapestOf 82 = .ok (.ireturn, 1) := by decide +kernel
theorem dX12_grows_0 : decode cX12_grows 0 = .ok (.aload_n 0, 1) := by decide +kernel
theorem dX12_grows_1 : decode cX12_grows 1 = .ok (.getfield 70, 3) := by decide +kernel
theorem dX12_grows_4 : decode cX12_grows 4 = .ok (.aload_n 0, 1) := by decide +kernel
theorem dX12_grows_5 : decode cX12_grows 5 = .ok (.getfield 11, 3) := by decide +kernel
theorem dX12_grows_8 : decode cX12_grows 8 = .ok (.if_icmp .ne 4, 3) := by decide +kernel
theorem dX12_grows_11 : decode cX12_grows 11 = .ok (.return_, 1) := by decide +kernel
theorem dX12_grows_12 : decode cX12_grows 12 = .ok (.aload_n 0, 1) := by decide +kernel
theorem dX12_grows_13 : decode cX12_grows 13 = .ok (.aload_n 0, 1) := by decide +kernel
theorem dX12_grows_14 : decode cX12_grows 14 = .ok (.getfield 11, 3) := by decide +kernel
theorem dX12_grows_17 : decode cX12_grows 17 = .ok (.putfield 70, 3) := by decide +kernel
theorem dX12_grows_20 : decode cX12_grows 20 = .ok (.aload_n 0, 1) := by decide +kernel
theorem dX12_grows_21 : decode cX12_grows 21 = .ok (.invokevirtual 337, 3) := by decide +kernel
theorem dX12_grows_24 : decode cX12_grows 24 = .ok (.aload_n 0, 1) := by decide +kernel
theorem dX12_grows_25 : decode cX12_grows 25 = .ok (.aload_n 0, 1) := by decide +kernel
theorem dX12_grows_26 : decode cX12_grows 26 = .ok (.invokevirtual 340, 3) := by decide +kernel
theorem dX12_grows_29 : decode cX12_grows 29 = .ok (.putfield 343, 3) := by decide +kernel
theorem dX12_grows_32 : decode cX12_grows 32 = .ok (.iconst 0, 1) := by decide +kernel
theorem dX12_grows_33 : decode cX12_grows 33 = .ok (.istore_n 1, 1) := by decide +kernel
theorem dX12_grows_34 : decode cX12_grows 34 = .ok (.iload_n 1, 1) := by decide +kernel
theorem dX12_grows_35 : decode cX12_grows 35 = .ok (.aload_n 0, 1) := by decide +kernel
theorem dX12_grows_36 : decode cX12_grows 36 = .ok (.invokevirtual 124, 3) := by decide +kernel
theorem dX12_grows_39 : decode cX12_grows 39 = .ok (.if_icmp .ge 98, 3) := by decide +kernel
theorem dX12_grows_42 : decode cX12_grows 42 = .ok (.aload_n 0, 1) := by decide +kernel
theorem dX12_grows_43 : decode cX12_grows 43 = .ok (.getfield 61, 3) := by decide +kernel
theorem dX12_grows_46 : decode cX12_grows 46 = .ok (.iload_n 1, 1) := by decide +kernel
theorem dX12_grows_47 : decode cX12_grows 47 = .ok (.iaload, 1) := by decide +kernel
theorem dX12_grows_48 : decode cX12_grows 48 = .ok (.istore_n 2, 1) := by decide +kernel
theorem dX12_grows_49 : decode cX12_grows 49 = .ok (.iconst (-1), 1) := by decide +kernel
theorem dX12_grows_50 : decode cX12_grows 50 = .ok (.istore_n 3, 1) := by decide +kernel
theorem dX12_grows_51 : decode cX12_grows 51 = .ok (.iconst 0, 1) := by decide +kernel
theorem dX12_grows_52 : decode cX12_grows 52 = .ok (.istore 4, 2) := by decide +kernel
theorem dX12_grows_54 : decode cX12_grows 54 = .ok (.iload 4, 2) := by decide +kernel
theorem dX12_grows_56 : decode cX12_grows 56 = .ok (.bipush 12, 2) := by decide +kernel
theorem dX12_grows_58 : decode cX12_grows 58 = .ok (.if_icmp .gt 66, 3) := by decide +kernel
theorem dX12_grows_61 : decode cX12_grows 61 = .ok (.iload_n 3, 1) := by decide +kernel
theorem dX12_grows_62 : decode cX12_grows 62 = .ok (.iconst (-1), 1) := by decide +kernel
theorem dX12_grows_63 : decode cX12_grows 63 = .ok (.if_icmp .ne 61, 3) := by decide +kernel
theorem dX12_grows_66 : decode cX12_grows 66 = .ok (.iload 4, 2) := by decide +kernel
theorem dX12_grows_68 : decode cX12_grows 68 = .ok (.ifCond .ne 8, 3) := by decide +kernel
theorem dX12_grows_71 : decode cX12_grows 71 = .ok (.bipush 12, 2) := by decide +kernel
theorem dX12_grows_73 : decode cX12_grows 73 = .ok (.goto 7, 3) := by decide +kernel
theorem dX12_grows_76 : decode cX12_grows 76 = .ok (.iload 4, 2) := by decide +kernel
theorem dX12_grows_78 : decode cX12_grows 78 = .ok (.iconst 1, 1) := by decide +kernel
theorem dX12_grows_79 : decode cX12_grows 79 = .ok (.isub, 1) := by decide +kernel
theorem dX12_grows_80 : decode cX12_grows 80 = .ok (.istore 5, 2) := by decide +kernel
theorem dX12_grows_82 : decode cX12_grows 82 = .ok (.iload_n 2, 1) := by decide +kernel
theorem dX12_grows_83 : decode cX12_grows 83 = .ok (.iload 5, 2) := by decide +kernel
theorem dX12_grows_85 : decode cX12_grows 85 = .ok (.ishr, 1) := by decide +kernel
theorem dX12_grows_86 : decode cX12_grows 86 = .ok (.iconst 1, 1) := by decide +kernel
theorem dX12_grows_87 : decode cX12_grows 87 = .ok (.iand, 1) := by decide +kernel
theorem dX12_grows_88 : decode cX12_grows 88 = .ok (.ifCond .ne 6, 3) := by decide +kernel
theorem dX12_grows_91 : decode cX12_grows 91 = .ok (.goto 27, 3) := by decide +kernel
theorem dX12_grows_94 : decode cX12_grows 94 = .ok (.aload_n 0, 1) := by decide +kernel
theorem dX12_grows_95 : decode cX12_grows 95 = .ok (.getfield 61, 3) := by decide +kernel
theorem dX12_grows_98 : decode cX12_grows 98 = .ok (.iload_n 1, 1) := by decide +kernel
theorem dX12_grows_99 : decode cX12_grows 99 = .ok (.iconst 1, 1) := by decide +kernel
theorem dX12_grows_100 : decode cX12_grows 100 = .ok (.iload 5, 2) := by decide +kernel
theorem dX12_grows_102 : decode cX12_grows 102 = .ok (.ishl, 1) := by decide +kernel
theorem dX12_grows_103 : decode cX12_grows 103 = .ok (.iastore, 1) := by decide +kernel
theorem dX12_grows_104 : decode cX12_grows 104 = .ok (.aload_n 0, 1) := by decide +kernel
theorem dX12_grows_105 : decode cX12_grows 105 = .ok (.invokevirtual 340, 3) := by decide +kernel
theorem dX12_grows_108 : decode cX12_grows 108 = .ok (.aload_n 0, 1) := by decide +kernel
theorem dX12_grows_109 : decode cX12_grows 109 = .ok (.getfield 343, 3) := by decide +kernel
theorem dX12_grows_112 : decode cX12_grows 112 = .ok (.if_icmp .ne 6, 3) := by decide +kernel
theorem dX12_grows_115 : decode cX12_grows 115 = .ok (.iload 5, 2) := by decide +kernel
theorem dX12_grows_117 : decode cX12_grows 117 = .ok (.istore_n 3, 1) := by decide +kernel
theorem dX12_grows_118 : decode cX12_grows 118 = .ok (.iinc 4 1, 3) := by decide +kernel
theorem dX12_grows_121 : decode cX12_grows 121 = .ok (.goto (-67), 3) := by decide +kernel
theorem dX12_grows_124 : decode cX12_grows 124 = .ok (.aload_n 0, 1) := by decide +kernel
theorem dX12_grows_125 : decode cX12_grows 125 = .ok (.getfield 67, 3) := by decide +kernel
theorem dX12_grows_128 : decode cX12_grows 128 = .ok (.iload_n 1, 1) := by decide +kernel
theorem dX12_grows_129 : decode cX12_grows 129 = .ok (.iload_n 3, 1) := by decide +kernel
theorem dX12_grows_130 : decode cX12_grows 130 = .ok (.iastore, 1) := by decide +kernel
theorem dX12_grows_131 : decode cX12_grows 131 = .ok (.iinc 1 1, 3) := by decide +kernel
theorem dX12_grows_134 : decode cX12_grows 134 = .ok (.goto (-100), 3) := by decide +kernel
theorem dX12_grows_137 : decode cX12_grows 137 = .ok (.return_, 1) := by decide +kernel
theorem dX12_tree_0 : decode cX12_tree 0 = .ok (.aload_n 0, 1) := by decide +kernel
theorem dX12_tree_1 : decode cX12_tree 1 = .ok (.invokevirtual 337, 3) := by decide +kernel
theorem dX12_tree_4 : decode cX12_tree 4 = .ok (.aload_n 0, 1) := by decide +kernel
theorem dX12_tree_5 : decode cX12_tree 5 = .ok (.invokevirtual 340, 3) := by decide +kernel
theorem dX12_tree_8 : decode cX12_tree 8 = .ok (.ireturn, 1) := by decide +kernel
theorem dX12_whose_0 : decode cX12_whose 0 = .ok (.aload_n 0, 1) := by decide +kernel
theorem dX12_whose_1 : decode cX12_whose 1 = .ok (.iload_n 1, 1) := by decide +kernel
theorem dX12_whose_2 : decode cX12_whose 2 = .ok (.invokevirtual 128, 3) := by decide +kernel
theorem dX12_whose_5 : decode cX12_whose 5 = .ok (.ifCond .ne 5, 3) := by decide +kernel
theorem dX12_whose_8 : decode cX12_whose 8 = .ok (.iconst (-1), 1) := by decide +kernel
theorem dX12_whose_9 : decode cX12_whose 9 = .ok (.ireturn, 1) := by decide +kernel
theorem dX12_whose_10 : decode cX12_whose 10 = .ok (.aload_n 0, 1) := by decide +kernel
theorem dX12_whose_11 : decode cX12_whose 11 = .ok (.invokevirtual 346, 3) := by decide +kernel
theorem dX12_whose_14 : decode cX12_whose 14 = .ok (.aload_n 0, 1) := by decide +kernel
theorem dX12_whose_15 : decode cX12_whose 15 = .ok (.getfield 67, 3) := by decide +kernel
theorem dX12_whose_18 : decode cX12_whose 18 = .ok (.iload_n 1, 1) := by decide +kernel
theorem dX12_whose_19 : decode cX12_whose 19 = .ok (.iaload, 1) := by decide +kernel
theorem dX12_whose_20 : decode cX12_whose 20 = .ok (.bipush 12, 2) := by decide +kernel
theorem dX12_whose_22 : decode cX12_whose 22 = .ok (.if_icmp .ne 8, 3) := by decide +kernel
theorem dX12_whose_25 : decode cX12_whose 25 = .ok (.bipush 100, 2) := by decide +kernel
theorem dX12_whose_27 : decode cX12_whose 27 = .ok (.goto 9, 3) := by decide +kernel
theorem dX12_whose_30 : decode cX12_whose 30 = .ok (.aload_n 0, 1) := by decide +kernel
theorem dX12_whose_31 : decode cX12_whose 31 = .ok (.getfield 67, 3) := by decide +kernel
theorem dX12_whose_34 : decode cX12_whose 34 = .ok (.iload_n 1, 1) := by decide +kernel
theorem dX12_whose_35 : decode cX12_whose 35 = .ok (.iaload, 1) := by decide +kernel
theorem dX12_whose_36 : decode cX12_whose 36 = .ok (.ireturn, 1) := by decide +kernel
theorem dX12_sure_0 : decode cX12_sure 0 = .ok (.aload_n 0, 1) := by decide +kernel
theorem dX12_sure_1 : decode cX12_sure 1 = .ok (.iload_n 1, 1) := by decide +kernel
theorem dX12_sure_2 : decode cX12_sure 2 = .ok (.invokevirtual 128, 3) := by decide +kernel
theorem dX12_sure_5 : decode cX12_sure 5 = .ok (.ifCond .ne 5, 3) := by decide +kernel
theorem dX12_sure_8 : decode cX12_sure 8 = .ok (.iconst (-1), 1) := by decide +kernel
theorem dX12_sure_9 : decode cX12_sure 9 = .ok (.ireturn, 1) := by decide +kernel
theorem dX12_sure_10 : decode cX12_sure 10 = .ok (.aload_n 0, 1) := by decide +kernel
theorem dX12_sure_11 : decode cX12_sure 11 = .ok (.invokevirtual 346, 3) := by decide +kernel
theorem dX12_sure_14 : decode cX12_sure 14 = .ok (.aload_n 0, 1) := by decide +kernel
theorem dX12_sure_15 : decode cX12_sure 15 = .ok (.invokevirtual 337, 3) := by decide +kernel
theorem dX12_sure_18 : decode cX12_sure 18 = .ok (.aload_n 0, 1) := by decide +kernel
theorem dX12_sure_19 : decode cX12_sure 19 = .ok (.getfield 61, 3) := by decide +kernel
theorem dX12_sure_22 : decode cX12_sure 22 = .ok (.iload_n 1, 1) := by decide +kernel
theorem dX12_sure_23 : decode cX12_sure 23 = .ok (.dup2, 1) := by decide +kernel
theorem dX12_sure_24 : decode cX12_sure 24 = .ok (.iaload, 1) := by decide +kernel
theorem dX12_sure_25 : decode cX12_sure 25 = .ok (.iconst 1, 1) := by decide +kernel
theorem dX12_sure_26 : decode cX12_sure 26 = .ok (.aload_n 0, 1) := by decide +kernel
theorem dX12_sure_27 : decode cX12_sure 27 = .ok (.getfield 67, 3) := by decide +kernel
theorem dX12_sure_30 : decode cX12_sure 30 = .ok (.iload_n 1, 1) := by decide +kernel
theorem dX12_sure_31 : decode cX12_sure 31 = .ok (.iaload, 1) := by decide +kernel
theorem dX12_sure_32 : decode cX12_sure 32 = .ok (.ishl, 1) := by decide +kernel
theorem dX12_sure_33 : decode cX12_sure 33 = .ok (.iconst (-1), 1) := by decide +kernel
theorem dX12_sure_34 : decode cX12_sure 34 = .ok (.ixor, 1) := by decide +kernel
theorem dX12_sure_35 : decode cX12_sure 35 = .ok (.iand, 1) := by decide +kernel
theorem dX12_sure_36 : decode cX12_sure 36 = .ok (.iastore, 1) := by decide +kernel
theorem dX12_sure_37 : decode cX12_sure 37 = .ok (.aload_n 0, 1) := by decide +kernel
theorem dX12_sure_38 : decode cX12_sure 38 = .ok (.invokevirtual 340, 3) := by decide +kernel
theorem dX12_sure_41 : decode cX12_sure 41 = .ok (.aload_n 0, 1) := by decide +kernel
theorem dX12_sure_42 : decode cX12_sure 42 = .ok (.getfield 343, 3) := by decide +kernel
theorem dX12_sure_45 : decode cX12_sure 45 = .ok (.if_icmp .ne 7, 3) := by decide +kernel
theorem dX12_sure_48 : decode cX12_sure 48 = .ok (.iconst 0, 1) := by decide +kernel
theorem dX12_sure_49 : decode cX12_sure 49 = .ok (.goto 4, 3) := by decide +kernel
theorem dX12_sure_52 : decode cX12_sure 52 = .ok (.iconst 1, 1) := by decide +kernel
theorem dX12_sure_53 : decode cX12_sure 53 = .ok (.ireturn, 1) := by decide +kernel
theorem dX12_stepsOf_0 : decode cX12_stepsOf 0 = .ok (.iconst 1, 1) := by decide +kernel
theorem dX12_stepsOf_1 : decode cX12_stepsOf 1 = .ok (.istore_n 2, 1) := by decide +kernel
theorem dX12_stepsOf_2 : decode cX12_stepsOf 2 = .ok (.aload_n 0, 1) := by decide +kernel
theorem dX12_stepsOf_3 : decode cX12_stepsOf 3 = .ok (.getfield 67, 3) := by decide +kernel
theorem dX12_stepsOf_6 : decode cX12_stepsOf 6 = .ok (.iload_n 1, 1) := by decide +kernel
theorem dX12_stepsOf_7 : decode cX12_stepsOf 7 = .ok (.iaload, 1) := by decide +kernel
theorem dX12_stepsOf_8 : decode cX12_stepsOf 8 = .ok (.istore_n 3, 1) := by decide +kernel
theorem dX12_stepsOf_9 : decode cX12_stepsOf 9 = .ok (.iload_n 3, 1) := by decide +kernel
theorem dX12_stepsOf_10 : decode cX12_stepsOf 10 = .ok (.bipush 12, 2) := by decide +kernel
theorem dX12_stepsOf_12 : decode cX12_stepsOf 12 = .ok (.if_icmp .eq 16, 3) := by decide +kernel
theorem dX12_stepsOf_15 : decode cX12_stepsOf 15 = .ok (.iinc 2 1, 3) := by decide +kernel
theorem dX12_stepsOf_18 : decode cX12_stepsOf 18 = .ok (.aload_n 0, 1) := by decide +kernel
theorem dX12_stepsOf_19 : decode cX12_stepsOf 19 = .ok (.getfield 67, 3) := by decide +kernel
theorem dX12_stepsOf_22 : decode cX12_stepsOf 22 = .ok (.iload_n 3, 1) := by decide +kernel
theorem dX12_stepsOf_23 : decode cX12_stepsOf 23 = .ok (.iaload, 1) := by decide +kernel
theorem dX12_stepsOf_24 : decode cX12_stepsOf 24 = .ok (.istore_n 3, 1) := by decide +kernel
theorem dX12_stepsOf_25 : decode cX12_stepsOf 25 = .ok (.goto (-16), 3) := by decide +kernel
theorem dX12_stepsOf_28 : decode cX12_stepsOf 28 = .ok (.iload_n 2, 1) := by decide +kernel
theorem dX12_stepsOf_29 : decode cX12_stepsOf 29 = .ok (.ireturn, 1) := by decide +kernel
theorem dX12_comesOf_0 : decode cX12_comesOf 0 = .ok (.iconst 0, 1) := by decide +kernel
theorem dX12_comesOf_1 : decode cX12_comesOf 1 = .ok (.istore_n 3, 1) := by decide +kernel
theorem dX12_comesOf_2 : decode cX12_comesOf 2 = .ok (.aload_n 0, 1) := by decide +kernel
theorem dX12_comesOf_3 : decode cX12_comesOf 3 = .ok (.getfield 67, 3) := by decide +kernel
theorem dX12_comesOf_6 : decode cX12_comesOf 6 = .ok (.iload_n 1, 1) := by decide +kernel
theorem dX12_comesOf_7 : decode cX12_comesOf 7 = .ok (.iaload, 1) := by decide +kernel
theorem dX12_comesOf_8 : decode cX12_comesOf 8 = .ok (.istore 4, 2) := by decide +kernel
theorem dX12_comesOf_10 : decode cX12_comesOf 10 = .ok (.iload 4, 2) := by decide +kernel
theorem dX12_comesOf_12 : decode cX12_comesOf 12 = .ok (.bipush 12, 2) := by decide +kernel
theorem dX12_comesOf_14 : decode cX12_comesOf 14 = .ok (.if_icmp .eq 31, 3) := by decide +kernel
theorem dX12_comesOf_17 : decode cX12_comesOf 17 = .ok (.iload_n 3, 1) := by decide +kernel
theorem dX12_comesOf_18 : decode cX12_comesOf 18 = .ok (.ifCond .ne 9, 3) := by decide +kernel
theorem dX12_comesOf_21 : decode cX12_comesOf 21 = .ok (.iload 4, 2) := by decide +kernel
theorem dX12_comesOf_23 : decode cX12_comesOf 23 = .ok (.iload_n 2, 1) := by decide +kernel
theorem dX12_comesOf_24 : decode cX12_comesOf 24 = .ok (.if_icmp .ne 7, 3) := by decide +kernel
theorem dX12_comesOf_27 : decode cX12_comesOf 27 = .ok (.iconst 1, 1) := by decide +kernel
theorem dX12_comesOf_28 : decode cX12_comesOf 28 = .ok (.goto 4, 3) := by decide +kernel
theorem dX12_comesOf_31 : decode cX12_comesOf 31 = .ok (.iconst 0, 1) := by decide +kernel
theorem dX12_comesOf_32 : decode cX12_comesOf 32 = .ok (.istore_n 3, 1) := by decide +kernel
theorem dX12_comesOf_33 : decode cX12_comesOf 33 = .ok (.aload_n 0, 1) := by decide +kernel
theorem dX12_comesOf_34 : decode cX12_comesOf 34 = .ok (.getfield 67, 3) := by decide +kernel
theorem dX12_comesOf_37 : decode cX12_comesOf 37 = .ok (.iload 4, 2) := by decide +kernel
theorem dX12_comesOf_39 : decode cX12_comesOf 39 = .ok (.iaload, 1) := by decide +kernel
theorem dX12_comesOf_40 : decode cX12_comesOf 40 = .ok (.istore 4, 2) := by decide +kernel
theorem dX12_comesOf_42 : decode cX12_comesOf 42 = .ok (.goto (-32), 3) := by decide +kernel
theorem dX12_comesOf_45 : decode cX12_comesOf 45 = .ok (.iload_n 3, 1) := by decide +kernel
theorem dX12_comesOf_46 : decode cX12_comesOf 46 = .ok (.ireturn, 1) := by decide +kernel
theorem dX12_come_0 : decode cX12_come 0 = .ok (.aload_n 0, 1) := by decide +kernel
theorem dX12_come_1 : decode cX12_come 1 = .ok (.iload_n 1, 1) := by decide +kernel
theorem dX12_come_2 : decode cX12_come 2 = .ok (.invokevirtual 128, 3) := by decide +kernel
theorem dX12_come_5 : decode cX12_come 5 = .ok (.ifCond .eq 12, 3) := by decide +kernel
theorem dX12_come_8 : decode cX12_come 8 = .ok (.iload_n 2, 1) := by decide +kernel
theorem dX12_come_9 : decode cX12_come 9 = .ok (.iconst 0, 1) := by decide +kernel
theorem dX12_come_10 : decode cX12_come 10 = .ok (.iconst 2, 1) := by decide +kernel
theorem dX12_come_11 : decode cX12_come 11 = .ok (.invokestatic 113, 3) := by decide +kernel
theorem dX12_come_14 : decode cX12_come 14 = .ok (.ifCond .ne 5, 3) := by decide +kernel
theorem dX12_come_17 : decode cX12_come 17 = .ok (.iconst (-1), 1) := by decide +kernel
theorem dX12_come_18 : decode cX12_come 18 = .ok (.ireturn, 1) := by decide +kernel
theorem dX12_come_19 : decode cX12_come 19 = .ok (.aload_n 0, 1) := by decide +kernel
theorem dX12_come_20 : decode cX12_come 20 = .ok (.invokevirtual 346, 3) := by decide +kernel
theorem dX12_come_23 : decode cX12_come 23 = .ok (.iload_n 2, 1) := by decide +kernel
theorem dX12_come_24 : decode cX12_come 24 = .ok (.iconst 2, 1) := by decide +kernel
theorem dX12_come_25 : decode cX12_come 25 = .ok (.if_icmp .ne 9, 3) := by decide +kernel
theorem dX12_come_28 : decode cX12_come 28 = .ok (.aload_n 0, 1) := by decide +kernel
theorem dX12_come_29 : decode cX12_come 29 = .ok (.iload_n 1, 1) := by decide +kernel
theorem dX12_come_30 : decode cX12_come 30 = .ok (.invokevirtual 349, 3) := by decide +kernel
theorem dX12_come_33 : decode cX12_come 33 = .ok (.ireturn, 1) := by decide +kernel
theorem dX12_come_34 : decode cX12_come 34 = .ok (.iconst 0, 1) := by decide +kernel
theorem dX12_come_35 : decode cX12_come 35 = .ok (.istore_n 3, 1) := by decide +kernel
theorem dX12_come_36 : decode cX12_come 36 = .ok (.iconst 0, 1) := by decide +kernel
theorem dX12_come_37 : decode cX12_come 37 = .ok (.istore 4, 2) := by decide +kernel
theorem dX12_come_39 : decode cX12_come 39 = .ok (.iload 4, 2) := by decide +kernel
theorem dX12_come_41 : decode cX12_come 41 = .ok (.aload_n 0, 1) := by decide +kernel
theorem dX12_come_42 : decode cX12_come 42 = .ok (.invokevirtual 124, 3) := by decide +kernel
theorem dX12_come_45 : decode cX12_come 45 = .ok (.if_icmp .ge 50, 3) := by decide +kernel
theorem dX12_come_48 : decode cX12_come 48 = .ok (.iload_n 3, 1) := by decide +kernel
theorem dX12_come_49 : decode cX12_come 49 = .ok (.iload_n 2, 1) := by decide +kernel
theorem dX12_come_50 : decode cX12_come 50 = .ok (.ifCond .ne 21, 3) := by decide +kernel
theorem dX12_come_53 : decode cX12_come 53 = .ok (.aload_n 0, 1) := by decide +kernel
theorem dX12_come_54 : decode cX12_come 54 = .ok (.iload 4, 2) := by decide +kernel
theorem dX12_come_56 : decode cX12_come 56 = .ok (.iload_n 1, 1) := by decide +kernel
theorem dX12_come_57 : decode cX12_come 57 = .ok (.invokevirtual 352, 3) := by decide +kernel
theorem dX12_come_60 : decode cX12_come 60 = .ok (.ifCond .eq 7, 3) := by decide +kernel
theorem dX12_come_63 : decode cX12_come 63 = .ok (.iconst 1, 1) := by decide +kernel
theorem dX12_come_64 : decode cX12_come 64 = .ok (.goto 23, 3) := by decide +kernel
theorem dX12_come_67 : decode cX12_come 67 = .ok (.iconst 0, 1) := by decide +kernel
theorem dX12_come_68 : decode cX12_come 68 = .ok (.goto 19, 3) := by decide +kernel
theorem dX12_come_71 : decode cX12_come 71 = .ok (.aload_n 0, 1) := by decide +kernel
theorem dX12_come_72 : decode cX12_come 72 = .ok (.getfield 67, 3) := by decide +kernel
theorem dX12_come_75 : decode cX12_come 75 = .ok (.iload 4, 2) := by decide +kernel
theorem dX12_come_77 : decode cX12_come 77 = .ok (.iaload, 1) := by decide +kernel
theorem dX12_come_78 : decode cX12_come 78 = .ok (.iload_n 1, 1) := by decide +kernel
theorem dX12_come_79 : decode cX12_come 79 = .ok (.if_icmp .ne 7, 3) := by decide +kernel
theorem dX12_come_82 : decode cX12_come 82 = .ok (.iconst 1, 1) := by decide +kernel
theorem dX12_come_83 : decode cX12_come 83 = .ok (.goto 4, 3) := by decide +kernel
theorem dX12_come_86 : decode cX12_come 86 = .ok (.iconst 0, 1) := by decide +kernel
theorem dX12_come_87 : decode cX12_come 87 = .ok (.iadd, 1) := by decide +kernel
theorem dX12_come_88 : decode cX12_come 88 = .ok (.istore_n 3, 1) := by decide +kernel
theorem dX12_come_89 : decode cX12_come 89 = .ok (.iinc 4 1, 3) := by decide +kernel
theorem dX12_come_92 : decode cX12_come 92 = .ok (.goto (-53), 3) := by decide +kernel
theorem dX12_come_95 : decode cX12_come 95 = .ok (.iload_n 3, 1) := by decide +kernel
theorem dX12_come_96 : decode cX12_come 96 = .ok (.ireturn, 1) := by decide +kernel
theorem dX12_net_0 : decode cX12_net 0 = .ok (.aload_n 0, 1) := by decide +kernel
theorem dX12_net_1 : decode cX12_net 1 = .ok (.iload_n 1, 1) := by decide +kernel
theorem dX12_net_2 : decode cX12_net 2 = .ok (.invokevirtual 128, 3) := by decide +kernel
theorem dX12_net_5 : decode cX12_net 5 = .ok (.ifCond .eq 12, 3) := by decide +kernel
theorem dX12_net_8 : decode cX12_net 8 = .ok (.iload_n 2, 1) := by decide +kernel
theorem dX12_net_9 : decode cX12_net 9 = .ok (.iconst 0, 1) := by decide +kernel
theorem dX12_net_10 : decode cX12_net 10 = .ok (.iconst 3, 1) := by decide +kernel
theorem dX12_net_11 : decode cX12_net 11 = .ok (.invokestatic 113, 3) := by decide +kernel
theorem dX12_net_14 : decode cX12_net 14 = .ok (.ifCond .ne 7, 3) := by decide +kernel
theorem dX12_net_17 : decode cX12_net 17 = .ok (.ldc_w 355, 3) := by decide +kernel
theorem dX12_net_20 : decode cX12_net 20 = .ok (.ireturn, 1) := by decide +kernel
theorem dX12_net_21 : decode cX12_net 21 = .ok (.aload_n 0, 1) := by decide +kernel
theorem dX12_net_22 : decode cX12_net 22 = .ok (.invokevirtual 337, 3) := by decide +kernel
theorem dX12_net_25 : decode cX12_net 25 = .ok (.iconst (-1), 1) := by decide +kernel
theorem dX12_net_26 : decode cX12_net 26 = .ok (.istore_n 3, 1) := by decide +kernel
theorem dX12_net_27 : decode cX12_net 27 = .ok (.iconst (-1), 1) := by decide +kernel
theorem dX12_net_28 : decode cX12_net 28 = .ok (.istore 4, 2) := by decide +kernel
theorem dX12_net_30 : decode cX12_net 30 = .ok (.ldc_w 333, 3) := by decide +kernel
theorem dX12_net_33 : decode cX12_net 33 = .ok (.istore 5, 2) := by decide +kernel
theorem dX12_net_35 : decode cX12_net 35 = .ok (.iconst 0, 1) := by decide +kernel
theorem dX12_net_36 : decode cX12_net 36 = .ok (.istore 6, 2) := by decide +kernel
theorem dX12_net_38 : decode cX12_net 38 = .ok (.iload 6, 2) := by decide +kernel
theorem dX12_net_40 : decode cX12_net 40 = .ok (.aload_n 0, 1) := by decide +kernel
theorem dX12_net_41 : decode cX12_net 41 = .ok (.invokevirtual 124, 3) := by decide +kernel
theorem dX12_net_44 : decode cX12_net 44 = .ok (.if_icmp .ge 93, 3) := by decide +kernel
theorem dX12_net_47 : decode cX12_net 47 = .ok (.iload 6, 2) := by decide +kernel
theorem dX12_net_49 : decode cX12_net 49 = .ok (.iconst 1, 1) := by decide +kernel
theorem dX12_net_50 : decode cX12_net 50 = .ok (.iadd, 1) := by decide +kernel
theorem dX12_net_51 : decode cX12_net 51 = .ok (.istore 7, 2) := by decide +kernel
theorem dX12_net_53 : decode cX12_net 53 = .ok (.iload 7, 2) := by decide +kernel
theorem dX12_net_55 : decode cX12_net 55 = .ok (.aload_n 0, 1) := by decide +kernel
theorem dX12_net_56 : decode cX12_net 56 = .ok (.invokevirtual 124, 3) := by decide +kernel
theorem dX12_net_59 : decode cX12_net 59 = .ok (.if_icmp .ge 72, 3) := by decide +kernel
theorem dX12_net_62 : decode cX12_net 62 = .ok (.aload_n 0, 1) := by decide +kernel
theorem dX12_net_63 : decode cX12_net 63 = .ok (.getfield 61, 3) := by decide +kernel
theorem dX12_net_66 : decode cX12_net 66 = .ok (.iload_n 1, 1) := by decide +kernel
theorem dX12_net_67 : decode cX12_net 67 = .ok (.iaload, 1) := by decide +kernel
theorem dX12_net_68 : decode cX12_net 68 = .ok (.iload 6, 2) := by decide +kernel
theorem dX12_net_70 : decode cX12_net 70 = .ok (.ishr, 1) := by decide +kernel
theorem dX12_net_71 : decode cX12_net 71 = .ok (.iconst 1, 1) := by decide +kernel
theorem dX12_net_72 : decode cX12_net 72 = .ok (.iand, 1) := by decide +kernel
theorem dX12_net_73 : decode cX12_net 73 = .ok (.ifCond .eq 52, 3) := by decide +kernel
theorem dX12_net_76 : decode cX12_net 76 = .ok (.aload_n 0, 1) := by decide +kernel
theorem dX12_net_77 : decode cX12_net 77 = .ok (.getfield 61, 3) := by decide +kernel
theorem dX12_net_80 : decode cX12_net 80 = .ok (.iload_n 1, 1) := by decide +kernel
theorem dX12_net_81 : decode cX12_net 81 = .ok (.iaload, 1) := by decide +kernel
theorem dX12_net_82 : decode cX12_net 82 = .ok (.iload 7, 2) := by decide +kernel
theorem dX12_net_84 : decode cX12_net 84 = .ok (.ishr, 1) := by decide +kernel
theorem dX12_net_85 : decode cX12_net 85 = .ok (.iconst 1, 1) := by decide +kernel
theorem dX12_net_86 : decode cX12_net 86 = .ok (.iand, 1) := by decide +kernel
theorem dX12_net_87 : decode cX12_net 87 = .ok (.ifCond .ne 6, 3) := by decide +kernel
theorem dX12_net_90 : decode cX12_net 90 = .ok (.goto 35, 3) := by decide +kernel
theorem dX12_net_93 : decode cX12_net 93 = .ok (.aload_n 0, 1) := by decide +kernel
theorem dX12_net_94 : decode cX12_net 94 = .ok (.iload 6, 2) := by decide +kernel
theorem dX12_net_96 : decode cX12_net 96 = .ok (.iload 7, 2) := by decide +kernel
theorem dX12_net_98 : decode cX12_net 98 = .ok (.iload_n 1, 1) := by decide +kernel
theorem dX12_net_99 : decode cX12_net 99 = .ok (.invokevirtual 329, 3) := by decide +kernel
theorem dX12_net_102 : decode cX12_net 102 = .ok (.istore 8, 2) := by decide +kernel
theorem dX12_net_104 : decode cX12_net 104 = .ok (.iload 8, 2) := by decide +kernel
theorem dX12_net_106 : decode cX12_net 106 = .ok (.iload 5, 2) := by decide +kernel
theorem dX12_net_108 : decode cX12_net 108 = .ok (.if_icmp .lt 6, 3) := by decide +kernel
theorem dX12_net_111 : decode cX12_net 111 = .ok (.goto 14, 3) := by decide +kernel
theorem dX12_net_114 : decode cX12_net 114 = .ok (.iload 6, 2) := by decide +kernel
theorem dX12_net_116 : decode cX12_net 116 = .ok (.istore_n 3, 1) := by decide +kernel
theorem dX12_net_117 : decode cX12_net 117 = .ok (.iload 7, 2) := by decide +kernel
theorem dX12_net_119 : decode cX12_net 119 = .ok (.istore 4, 2) := by decide +kernel
theorem dX12_net_121 : decode cX12_net 121 = .ok (.iload 8, 2) := by decide +kernel
theorem dX12_net_123 : decode cX12_net 123 = .ok (.istore 5, 2) := by decide +kernel
theorem dX12_net_125 : decode cX12_net 125 = .ok (.iinc 7 1, 3) := by decide +kernel
theorem dX12_net_128 : decode cX12_net 128 = .ok (.goto (-75), 3) := by decide +kernel
theorem dX12_net_131 : decode cX12_net 131 = .ok (.iinc 6 1, 3) := by decide +kernel
theorem dX12_net_134 : decode cX12_net 134 = .ok (.goto (-96), 3) := by decide +kernel
theorem dX12_net_137 : decode cX12_net 137 = .ok (.iload_n 3, 1) := by decide +kernel
theorem dX12_net_138 : decode cX12_net 138 = .ok (.iconst (-1), 1) := by decide +kernel
theorem dX12_net_139 : decode cX12_net 139 = .ok (.if_icmp .ne 7, 3) := by decide +kernel
theorem dX12_net_142 : decode cX12_net 142 = .ok (.ldc_w 355, 3) := by decide +kernel
theorem dX12_net_145 : decode cX12_net 145 = .ok (.ireturn, 1) := by decide +kernel
theorem dX12_net_146 : decode cX12_net 146 = .ok (.iload_n 2, 1) := by decide +kernel
theorem dX12_net_147 : decode cX12_net 147 = .ok (.ifCond .ne 7, 3) := by decide +kernel
theorem dX12_net_150 : decode cX12_net 150 = .ok (.iload_n 3, 1) := by decide +kernel
theorem dX12_net_151 : decode cX12_net 151 = .ok (.goto 34, 3) := by decide +kernel
theorem dX12_net_154 : decode cX12_net 154 = .ok (.iload_n 2, 1) := by decide +kernel
theorem dX12_net_155 : decode cX12_net 155 = .ok (.iconst 1, 1) := by decide +kernel
theorem dX12_net_156 : decode cX12_net 156 = .ok (.if_icmp .ne 8, 3) := by decide +kernel
theorem dX12_net_159 : decode cX12_net 159 = .ok (.iload 4, 2) := by decide +kernel
theorem dX12_net_161 : decode cX12_net 161 = .ok (.goto 24, 3) := by decide +kernel
theorem dX12_net_164 : decode cX12_net 164 = .ok (.iload_n 2, 1) := by decide +kernel
theorem dX12_net_165 : decode cX12_net 165 = .ok (.iconst 2, 1) := by decide +kernel
theorem dX12_net_166 : decode cX12_net 166 = .ok (.if_icmp .ne 8, 3) := by decide +kernel
theorem dX12_net_169 : decode cX12_net 169 = .ok (.iload 5, 2) := by decide +kernel
theorem dX12_net_171 : decode cX12_net 171 = .ok (.goto 14, 3) := by decide +kernel
theorem dX12_net_174 : decode cX12_net 174 = .ok (.aload_n 0, 1) := by decide +kernel
theorem dX12_net_175 : decode cX12_net 175 = .ok (.iload_n 1, 1) := by decide +kernel
theorem dX12_net_176 : decode cX12_net 176 = .ok (.sipush 4095, 3) := by decide +kernel
theorem dX12_net_179 : decode cX12_net 179 = .ok (.invokevirtual 334, 3) := by decide +kernel
theorem dX12_net_182 : decode cX12_net 182 = .ok (.iload 5, 2) := by decide +kernel
theorem dX12_net_184 : decode cX12_net 184 = .ok (.isub, 1) := by decide +kernel
theorem dX12_net_185 : decode cX12_net 185 = .ok (.ireturn, 1) := by decide +kernel
theorem dX12_agreeOf_0 : decode cX12_agreeOf 0 = .ok (.iconst 0, 1) := by decide +kernel
theorem dX12_agreeOf_1 : decode cX12_agreeOf 1 = .ok (.istore_n 3, 1) := by decide +kernel
theorem dX12_agreeOf_2 : decode cX12_agreeOf 2 = .ok (.iconst 0, 1) := by decide +kernel
theorem dX12_agreeOf_3 : decode cX12_agreeOf 3 = .ok (.istore 4, 2) := by decide +kernel
theorem dX12_agreeOf_5 : decode cX12_agreeOf 5 = .ok (.iload 4, 2) := by decide +kernel
theorem dX12_agreeOf_7 : decode cX12_agreeOf 7 = .ok (.aload_n 0, 1) := by decide +kernel
theorem dX12_agreeOf_8 : decode cX12_agreeOf 8 = .ok (.getfield 20, 3) := by decide +kernel
theorem dX12_agreeOf_11 : decode cX12_agreeOf 11 = .ok (.sipush 1347, 3) := by decide +kernel
theorem dX12_agreeOf_14 : decode cX12_agreeOf 14 = .ok (.iaload, 1) := by decide +kernel
theorem dX12_agreeOf_15 : decode cX12_agreeOf 15 = .ok (.if_icmp .ge 62, 3) := by decide +kernel
theorem dX12_agreeOf_18 : decode cX12_agreeOf 18 = .ok (.aload_n 0, 1) := by decide +kernel
theorem dX12_agreeOf_19 : decode cX12_agreeOf 19 = .ok (.iload 4, 2) := by decide +kernel
theorem dX12_agreeOf_21 : decode cX12_agreeOf 21 = .ok (.iconst 0, 1) := by decide +kernel
theorem dX12_agreeOf_22 : decode cX12_agreeOf 22 = .ok (.invokevirtual 143, 3) := by decide +kernel
theorem dX12_agreeOf_25 : decode cX12_agreeOf 25 = .ok (.iload_n 1, 1) := by decide +kernel
theorem dX12_agreeOf_26 : decode cX12_agreeOf 26 = .ok (.if_icmp .ne 45, 3) := by decide +kernel
theorem dX12_agreeOf_29 : decode cX12_agreeOf 29 = .ok (.aload_n 0, 1) := by decide +kernel
theorem dX12_agreeOf_30 : decode cX12_agreeOf 30 = .ok (.iload 4, 2) := by decide +kernel
theorem dX12_agreeOf_32 : decode cX12_agreeOf 32 = .ok (.iconst 4, 1) := by decide +kernel
theorem dX12_agreeOf_33 : decode cX12_agreeOf 33 = .ok (.invokevirtual 143, 3) := by decide +kernel
theorem dX12_agreeOf_36 : decode cX12_agreeOf 36 = .ok (.ifCond .ne 35, 3) := by decide +kernel
theorem dX12_agreeOf_39 : decode cX12_agreeOf 39 = .ok (.aload_n 0, 1) := by decide +kernel
theorem dX12_agreeOf_40 : decode cX12_agreeOf 40 = .ok (.iload_n 2, 1) := by decide +kernel
theorem dX12_agreeOf_41 : decode cX12_agreeOf 41 = .ok (.aload_n 0, 1) := by decide +kernel
theorem dX12_agreeOf_42 : decode cX12_agreeOf 42 = .ok (.iload 4, 2) := by decide +kernel
theorem dX12_agreeOf_44 : decode cX12_agreeOf 44 = .ok (.iconst 1, 1) := by decide +kernel
theorem dX12_agreeOf_45 : decode cX12_agreeOf 45 = .ok (.invokevirtual 143, 3) := by decide +kernel
theorem dX12_agreeOf_48 : decode cX12_agreeOf 48 = .ok (.aload_n 0, 1) := by decide +kernel
theorem dX12_agreeOf_49 : decode cX12_agreeOf 49 = .ok (.iload 4, 2) := by decide +kernel
theorem dX12_agreeOf_51 : decode cX12_agreeOf 51 = .ok (.iconst 2, 1) := by decide +kernel
theorem dX12_agreeOf_52 : decode cX12_agreeOf 52 = .ok (.invokevirtual 143, 3) := by decide +kernel
theorem dX12_agreeOf_55 : decode cX12_agreeOf 55 = .ok (.invokevirtual 146, 3) := by decide +kernel
theorem dX12_agreeOf_58 : decode cX12_agreeOf 58 = .ok (.ifCond .eq 13, 3) := by decide +kernel
theorem dX12_agreeOf_61 : decode cX12_agreeOf 61 = .ok (.iload_n 3, 1) := by decide +kernel
theorem dX12_agreeOf_62 : decode cX12_agreeOf 62 = .ok (.aload_n 0, 1) := by decide +kernel
theorem dX12_agreeOf_63 : decode cX12_agreeOf 63 = .ok (.getfield 55, 3) := by decide +kernel
theorem dX12_agreeOf_66 : decode cX12_agreeOf 66 = .ok (.iload 4, 2) := by decide +kernel
theorem dX12_agreeOf_68 : decode cX12_agreeOf 68 = .ok (.iaload, 1) := by decide +kernel
theorem dX12_agreeOf_69 : decode cX12_agreeOf 69 = .ok (.iadd, 1) := by decide +kernel
theorem dX12_agreeOf_70 : decode cX12_agreeOf 70 = .ok (.istore_n 3, 1) := by decide +kernel
theorem dX12_agreeOf_71 : decode cX12_agreeOf 71 = .ok (.iinc 4 1, 3) := by decide +kernel
theorem dX12_agreeOf_74 : decode cX12_agreeOf 74 = .ok (.goto (-69), 3) := by decide +kernel
theorem dX12_agreeOf_77 : decode cX12_agreeOf 77 = .ok (.iload_n 3, 1) := by decide +kernel
theorem dX12_agreeOf_78 : decode cX12_agreeOf 78 = .ok (.ireturn, 1) := by decide +kernel
theorem dX12_agree_0 : decode cX12_agree 0 = .ok (.aload_n 0, 1) := by decide +kernel
theorem dX12_agree_1 : decode cX12_agree 1 = .ok (.iload_n 1, 1) := by decide +kernel
theorem dX12_agree_2 : decode cX12_agree 2 = .ok (.invokevirtual 128, 3) := by decide +kernel
theorem dX12_agree_5 : decode cX12_agree 5 = .ok (.ifCond .eq 16, 3) := by decide +kernel
theorem dX12_agree_8 : decode cX12_agree 8 = .ok (.aload_n 0, 1) := by decide +kernel
theorem dX12_agree_9 : decode cX12_agree 9 = .ok (.iload_n 2, 1) := by decide +kernel
theorem dX12_agree_10 : decode cX12_agree 10 = .ok (.invokevirtual 128, 3) := by decide +kernel
theorem dX12_agree_13 : decode cX12_agree 13 = .ok (.ifCond .eq 8, 3) := by decide +kernel
theorem dX12_agree_16 : decode cX12_agree 16 = .ok (.iload_n 1, 1) := by decide +kernel
theorem dX12_agree_17 : decode cX12_agree 17 = .ok (.iload_n 2, 1) := by decide +kernel
theorem dX12_agree_18 : decode cX12_agree 18 = .ok (.if_icmp .ne 5, 3) := by decide +kernel
theorem dX12_agree_21 : decode cX12_agree 21 = .ok (.iconst (-1), 1) := by decide +kernel
theorem dX12_agree_22 : decode cX12_agree 22 = .ok (.ireturn, 1) := by decide +kernel
theorem dX12_agree_23 : decode cX12_agree 23 = .ok (.aload_n 0, 1) := by decide +kernel
theorem dX12_agree_24 : decode cX12_agree 24 = .ok (.invokevirtual 323, 3) := by decide +kernel
theorem dX12_agree_27 : decode cX12_agree 27 = .ok (.aload_n 0, 1) := by decide +kernel
theorem dX12_agree_28 : decode cX12_agree 28 = .ok (.iload_n 1, 1) := by decide +kernel
theorem dX12_agree_29 : decode cX12_agree 29 = .ok (.iload_n 2, 1) := by decide +kernel
theorem dX12_agree_30 : decode cX12_agree 30 = .ok (.invokevirtual 356, 3) := by decide +kernel
theorem dX12_agree_33 : decode cX12_agree 33 = .ok (.ireturn, 1) := by decide +kernel
theorem dX12_joinsAll_0 : decode cX12_joinsAll 0 = .ok (.aload_n 0, 1) := by decide +kernel
theorem dX12_joinsAll_1 : decode cX12_joinsAll 1 = .ok (.invokevirtual 323, 3) := by decide +kernel
theorem dX12_joinsAll_4 : decode cX12_joinsAll 4 = .ok (.iconst 0, 1) := by decide +kernel
theorem dX12_joinsAll_5 : decode cX12_joinsAll 5 = .ok (.istore_n 2, 1) := by decide +kernel
theorem dX12_joinsAll_6 : decode cX12_joinsAll 6 = .ok (.iload_n 2, 1) := by decide +kernel
theorem dX12_joinsAll_7 : decode cX12_joinsAll 7 = .ok (.aload_n 0, 1) := by decide +kernel
theorem dX12_joinsAll_8 : decode cX12_joinsAll 8 = .ok (.invokevirtual 124, 3) := by decide +kernel
theorem dX12_joinsAll_11 : decode cX12_joinsAll 11 = .ok (.if_icmp .ge 70, 3) := by decide +kernel
theorem dX12_joinsAll_14 : decode cX12_joinsAll 14 = .ok (.iconst 0, 1) := by decide +kernel
theorem dX12_joinsAll_15 : decode cX12_joinsAll 15 = .ok (.istore_n 3, 1) := by decide +kernel
theorem dX12_joinsAll_16 : decode cX12_joinsAll 16 = .ok (.iload_n 3, 1) := by decide +kernel
theorem dX12_joinsAll_17 : decode cX12_joinsAll 17 = .ok (.aload_n 0, 1) := by decide +kernel
theorem dX12_joinsAll_18 : decode cX12_joinsAll 18 = .ok (.invokevirtual 124, 3) := by decide +kernel
theorem dX12_joinsAll_21 : decode cX12_joinsAll 21 = .ok (.if_icmp .ge 54, 3) := by decide +kernel
theorem dX12_joinsAll_24 : decode cX12_joinsAll 24 = .ok (.aload_n 0, 1) := by decide +kernel
theorem dX12_joinsAll_25 : decode cX12_joinsAll 25 = .ok (.getfield 73, 3) := by decide +kernel
theorem dX12_joinsAll_28 : decode cX12_joinsAll 28 = .ok (.bipush 12, 2) := by decide +kernel
theorem dX12_joinsAll_30 : decode cX12_joinsAll 30 = .ok (.iload_n 2, 1) := by decide +kernel
theorem dX12_joinsAll_31 : decode cX12_joinsAll 31 = .ok (.imul, 1) := by decide +kernel
theorem dX12_joinsAll_32 : decode cX12_joinsAll 32 = .ok (.iload_n 3, 1) := by decide +kernel
theorem dX12_joinsAll_33 : decode cX12_joinsAll 33 = .ok (.iadd, 1) := by decide +kernel
theorem dX12_joinsAll_34 : decode cX12_joinsAll 34 = .ok (.iload_n 2, 1) := by decide +kernel
theorem dX12_joinsAll_35 : decode cX12_joinsAll 35 = .ok (.iload_n 3, 1) := by decide +kernel
theorem dX12_joinsAll_36 : decode cX12_joinsAll 36 = .ok (.if_icmp .eq 31, 3) := by decide +kernel
theorem dX12_joinsAll_39 : decode cX12_joinsAll 39 = .ok (.iload_n 2, 1) := by decide +kernel
theorem dX12_joinsAll_40 : decode cX12_joinsAll 40 = .ok (.iload_n 1, 1) := by decide +kernel
theorem dX12_joinsAll_41 : decode cX12_joinsAll 41 = .ok (.if_icmp .eq 26, 3) := by decide +kernel
theorem dX12_joinsAll_44 : decode cX12_joinsAll 44 = .ok (.iload_n 3, 1) := by decide +kernel
theorem dX12_joinsAll_45 : decode cX12_joinsAll 45 = .ok (.iload_n 1, 1) := by decide +kernel
theorem dX12_joinsAll_46 : decode cX12_joinsAll 46 = .ok (.if_icmp .eq 21, 3) := by decide +kernel
theorem dX12_joinsAll_49 : decode cX12_joinsAll 49 = .ok (.aload_n 0, 1) := by decide +kernel
theorem dX12_joinsAll_50 : decode cX12_joinsAll 50 = .ok (.iload_n 2, 1) := by decide +kernel
theorem dX12_joinsAll_51 : decode cX12_joinsAll 51 = .ok (.iload_n 3, 1) := by decide +kernel
theorem dX12_joinsAll_52 : decode cX12_joinsAll 52 = .ok (.invokevirtual 356, 3) := by decide +kernel
theorem dX12_joinsAll_55 : decode cX12_joinsAll 55 = .ok (.aload_n 0, 1) := by decide +kernel
theorem dX12_joinsAll_56 : decode cX12_joinsAll 56 = .ok (.iconst 3, 1) := by decide +kernel
theorem dX12_joinsAll_57 : decode cX12_joinsAll 57 = .ok (.invokevirtual 320, 3) := by decide +kernel
theorem dX12_joinsAll_60 : decode cX12_joinsAll 60 = .ok (.if_icmp .lt 7, 3) := by decide +kernel
theorem dX12_joinsAll_63 : decode cX12_joinsAll 63 = .ok (.iconst 1, 1) := by decide +kernel
theorem dX12_joinsAll_64 : decode cX12_joinsAll 64 = .ok (.goto 4, 3) := by decide +kernel
theorem dX12_joinsAll_67 : decode cX12_joinsAll 67 = .ok (.iconst 0, 1) := by decide +kernel
theorem dX12_joinsAll_68 : decode cX12_joinsAll 68 = .ok (.bastore, 1) := by decide +kernel
theorem dX12_joinsAll_69 : decode cX12_joinsAll 69 = .ok (.iinc 3 1, 3) := by decide +kernel
theorem dX12_joinsAll_72 : decode cX12_joinsAll 72 = .ok (.goto (-56), 3) := by decide +kernel
theorem dX12_joinsAll_75 : decode cX12_joinsAll 75 = .ok (.iinc 2 1, 3) := by decide +kernel
theorem dX12_joinsAll_78 : decode cX12_joinsAll 78 = .ok (.goto (-72), 3) := by decide +kernel
theorem dX12_joinsAll_81 : decode cX12_joinsAll 81 = .ok (.iconst 0, 1) := by decide +kernel
theorem dX12_joinsAll_82 : decode cX12_joinsAll 82 = .ok (.istore_n 2, 1) := by decide +kernel
theorem dX12_joinsAll_83 : decode cX12_joinsAll 83 = .ok (.iload_n 2, 1) := by decide +kernel
theorem dX12_joinsAll_84 : decode cX12_joinsAll 84 = .ok (.aload_n 0, 1) := by decide +kernel
theorem dX12_joinsAll_85 : decode cX12_joinsAll 85 = .ok (.invokevirtual 124, 3) := by decide +kernel
theorem dX12_joinsAll_88 : decode cX12_joinsAll 88 = .ok (.if_icmp .ge 25, 3) := by decide +kernel
theorem dX12_joinsAll_91 : decode cX12_joinsAll 91 = .ok (.aload_n 0, 1) := by decide +kernel
theorem dX12_joinsAll_92 : decode cX12_joinsAll 92 = .ok (.getfield 76, 3) := by decide +kernel
theorem dX12_joinsAll_95 : decode cX12_joinsAll 95 = .ok (.iload_n 2, 1) := by decide +kernel
theorem dX12_joinsAll_96 : decode cX12_joinsAll 96 = .ok (.iload_n 2, 1) := by decide +kernel
theorem dX12_joinsAll_97 : decode cX12_joinsAll 97 = .ok (.iload_n 1, 1) := by decide +kernel
theorem dX12_joinsAll_98 : decode cX12_joinsAll 98 = .ok (.if_icmp .ne 7, 3) := by decide +kernel
theorem dX12_joinsAll_101 : decode cX12_joinsAll 101 = .ok (.iconst (-1), 1) := by decide +kernel
theorem dX12_joinsAll_102 : decode cX12_joinsAll 102 = .ok (.goto 4, 3) := by decide +kernel
theorem dX12_joinsAll_105 : decode cX12_joinsAll 105 = .ok (.iload_n 2, 1) := by decide +kernel
theorem dX12_joinsAll_106 : decode cX12_joinsAll 106 = .ok (.iastore, 1) := by decide +kernel
theorem dX12_joinsAll_107 : decode cX12_joinsAll 107 = .ok (.iinc 2 1, 3) := by decide +kernel
theorem dX12_joinsAll_110 : decode cX12_joinsAll 110 = .ok (.goto (-27), 3) := by decide +kernel
theorem dX12_joinsAll_113 : decode cX12_joinsAll 113 = .ok (.iconst 1, 1) := by decide +kernel
theorem dX12_joinsAll_114 : decode cX12_joinsAll 114 = .ok (.istore_n 2, 1) := by decide +kernel
theorem dX12_joinsAll_115 : decode cX12_joinsAll 115 = .ok (.iload_n 2, 1) := by decide +kernel
theorem dX12_joinsAll_116 : decode cX12_joinsAll 116 = .ok (.ifCond .eq 91, 3) := by decide +kernel
theorem dX12_joinsAll_119 : decode cX12_joinsAll 119 = .ok (.iconst 0, 1) := by decide +kernel
theorem dX12_joinsAll_120 : decode cX12_joinsAll 120 = .ok (.istore_n 2, 1) := by decide +kernel
theorem dX12_joinsAll_121 : decode cX12_joinsAll 121 = .ok (.iconst 0, 1) := by decide +kernel
theorem dX12_joinsAll_122 : decode cX12_joinsAll 122 = .ok (.istore_n 3, 1) := by decide +kernel
theorem dX12_joinsAll_123 : decode cX12_joinsAll 123 = .ok (.iload_n 3, 1) := by decide +kernel
theorem dX12_joinsAll_124 : decode cX12_joinsAll 124 = .ok (.aload_n 0, 1) := by decide +kernel
theorem dX12_joinsAll_125 : decode cX12_joinsAll 125 = .ok (.invokevirtual 124, 3) := by decide +kernel
theorem dX12_joinsAll_128 : decode cX12_joinsAll 128 = .ok (.if_icmp .ge 76, 3) := by decide +kernel
theorem dX12_joinsAll_131 : decode cX12_joinsAll 131 = .ok (.iconst 0, 1) := by decide +kernel
theorem dX12_joinsAll_132 : decode cX12_joinsAll 132 = .ok (.istore 4, 2) := by decide +kernel
theorem dX12_joinsAll_134 : decode cX12_joinsAll 134 = .ok (.iload 4, 2) := by decide +kernel
theorem dX12_joinsAll_136 : decode cX12_joinsAll 136 = .ok (.aload_n 0, 1) := by decide +kernel
theorem dX12_joinsAll_137 : decode cX12_joinsAll 137 = .ok (.invokevirtual 124, 3) := by decide +kernel
theorem dX12_joinsAll_140 : decode cX12_joinsAll 140 = .ok (.if_icmp .ge 58, 3) := by decide +kernel
theorem dX12_joinsAll_143 : decode cX12_joinsAll 143 = .ok (.aload_n 0, 1) := by decide +kernel
theorem dX12_joinsAll_144 : decode cX12_joinsAll 144 = .ok (.getfield 73, 3) := by decide +kernel
theorem dX12_joinsAll_147 : decode cX12_joinsAll 147 = .ok (.bipush 12, 2) := by decide +kernel
theorem dX12_joinsAll_149 : decode cX12_joinsAll 149 = .ok (.iload_n 3, 1) := by decide +kernel
theorem dX12_joinsAll_150 : decode cX12_joinsAll 150 = .ok (.imul, 1) := by decide +kernel
theorem dX12_joinsAll_151 : decode cX12_joinsAll 151 = .ok (.iload 4, 2) := by decide +kernel
theorem dX12_joinsAll_153 : decode cX12_joinsAll 153 = .ok (.iadd, 1) := by decide +kernel
theorem dX12_joinsAll_154 : decode cX12_joinsAll 154 = .ok (.baload, 1) := by decide +kernel
theorem dX12_joinsAll_155 : decode cX12_joinsAll 155 = .ok (.ifCond .eq 37, 3) := by decide +kernel
theorem dX12_joinsAll_158 : decode cX12_joinsAll 158 = .ok (.aload_n 0, 1) := by decide +kernel
theorem dX12_joinsAll_159 : decode cX12_joinsAll 159 = .ok (.getfield 76, 3) := by decide +kernel
theorem dX12_joinsAll_162 : decode cX12_joinsAll 162 = .ok (.iload_n 3, 1) := by decide +kernel
theorem dX12_joinsAll_163 : decode cX12_joinsAll 163 = .ok (.iaload, 1) := by decide +kernel
theorem dX12_joinsAll_164 : decode cX12_joinsAll 164 = .ok (.aload_n 0, 1) := by decide +kernel
theorem dX12_joinsAll_165 : decode cX12_joinsAll 165 = .ok (.getfield 76, 3) := by decide +kernel
theorem dX12_joinsAll_168 : decode cX12_joinsAll 168 = .ok (.iload 4, 2) := by decide +kernel
theorem dX12_joinsAll_170 : decode cX12_joinsAll 170 = .ok (.iaload, 1) := by decide +kernel
theorem dX12_joinsAll_171 : decode cX12_joinsAll 171 = .ok (.if_icmp .lt 6, 3) := by decide +kernel
theorem dX12_joinsAll_174 : decode cX12_joinsAll 174 = .ok (.goto 18, 3) := by decide +kernel
theorem dX12_joinsAll_177 : decode cX12_joinsAll 177 = .ok (.aload_n 0, 1) := by decide +kernel
theorem dX12_joinsAll_178 : decode cX12_joinsAll 178 = .ok (.getfield 76, 3) := by decide +kernel
theorem dX12_joinsAll_181 : decode cX12_joinsAll 181 = .ok (.iload 4, 2) := by decide +kernel
theorem dX12_joinsAll_183 : decode cX12_joinsAll 183 = .ok (.aload_n 0, 1) := by decide +kernel
theorem dX12_joinsAll_184 : decode cX12_joinsAll 184 = .ok (.getfield 76, 3) := by decide +kernel
theorem dX12_joinsAll_187 : decode cX12_joinsAll 187 = .ok (.iload_n 3, 1) := by decide +kernel
theorem dX12_joinsAll_188 : decode cX12_joinsAll 188 = .ok (.iaload, 1) := by decide +kernel
theorem dX12_joinsAll_189 : decode cX12_joinsAll 189 = .ok (.iastore, 1) := by decide +kernel
theorem dX12_joinsAll_190 : decode cX12_joinsAll 190 = .ok (.iconst 1, 1) := by decide +kernel
theorem dX12_joinsAll_191 : decode cX12_joinsAll 191 = .ok (.istore_n 2, 1) := by decide +kernel
theorem dX12_joinsAll_192 : decode cX12_joinsAll 192 = .ok (.iinc 4 1, 3) := by decide +kernel
theorem dX12_joinsAll_195 : decode cX12_joinsAll 195 = .ok (.goto (-61), 3) := by decide +kernel
theorem dX12_joinsAll_198 : decode cX12_joinsAll 198 = .ok (.iinc 3 1, 3) := by decide +kernel
theorem dX12_joinsAll_201 : decode cX12_joinsAll 201 = .ok (.goto (-78), 3) := by decide +kernel
theorem dX12_joinsAll_204 : decode cX12_joinsAll 204 = .ok (.goto (-89), 3) := by decide +kernel
theorem dX12_joinsAll_207 : decode cX12_joinsAll 207 = .ok (.return_, 1) := by decide +kernel
theorem dX12_familiesBut_0 : decode cX12_familiesBut 0 = .ok (.iconst 0, 1) := by decide +kernel
theorem dX12_familiesBut_1 : decode cX12_familiesBut 1 = .ok (.istore_n 2, 1) := by decide +kernel
theorem dX12_familiesBut_2 : decode cX12_familiesBut 2 = .ok (.iconst 0, 1) := by decide +kernel
theorem dX12_familiesBut_3 : decode cX12_familiesBut 3 = .ok (.istore_n 3, 1) := by decide +kernel
theorem dX12_familiesBut_4 : decode cX12_familiesBut 4 = .ok (.iload_n 3, 1) := by decide +kernel
theorem dX12_familiesBut_5 : decode cX12_familiesBut 5 = .ok (.aload_n 0, 1) := by decide +kernel
theorem dX12_familiesBut_6 : decode cX12_familiesBut 6 = .ok (.invokevirtual 124, 3) := by decide +kernel
theorem dX12_familiesBut_9 : decode cX12_familiesBut 9 = .ok (.if_icmp .ge 72, 3) := by decide +kernel
theorem dX12_familiesBut_12 : decode cX12_familiesBut 12 = .ok (.iconst 0, 1) := by decide +kernel
theorem dX12_familiesBut_13 : decode cX12_familiesBut 13 = .ok (.istore 4, 2) := by decide +kernel
theorem dX12_familiesBut_15 : decode cX12_familiesBut 15 = .ok (.iconst 0, 1) := by decide +kernel
theorem dX12_familiesBut_16 : decode cX12_familiesBut 16 = .ok (.istore 5, 2) := by decide +kernel
theorem dX12_familiesBut_18 : decode cX12_familiesBut 18 = .ok (.iload 5, 2) := by decide +kernel
theorem dX12_familiesBut_20 : decode cX12_familiesBut 20 = .ok (.aload_n 0, 1) := by decide +kernel
theorem dX12_familiesBut_21 : decode cX12_familiesBut 21 = .ok (.invokevirtual 124, 3) := by decide +kernel
theorem dX12_familiesBut_24 : decode cX12_familiesBut 24 = .ok (.if_icmp .ge 38, 3) := by decide +kernel
theorem dX12_familiesBut_27 : decode cX12_familiesBut 27 = .ok (.iload 4, 2) := by decide +kernel
theorem dX12_familiesBut_29 : decode cX12_familiesBut 29 = .ok (.ifCond .ne 20, 3) := by decide +kernel
theorem dX12_familiesBut_32 : decode cX12_familiesBut 32 = .ok (.iload 5, 2) := by decide +kernel
theorem dX12_familiesBut_34 : decode cX12_familiesBut 34 = .ok (.iload_n 1, 1) := by decide +kernel
theorem dX12_familiesBut_35 : decode cX12_familiesBut 35 = .ok (.if_icmp .eq 18, 3) := by decide +kernel
theorem dX12_familiesBut_38 : decode cX12_familiesBut 38 = .ok (.aload_n 0, 1) := by decide +kernel
theorem dX12_familiesBut_39 : decode cX12_familiesBut 39 = .ok (.getfield 76, 3) := by decide +kernel
theorem dX12_familiesBut_42 : decode cX12_familiesBut 42 = .ok (.iload 5, 2) := by decide +kernel
theorem dX12_familiesBut_44 : decode cX12_familiesBut 44 = .ok (.iaload, 1) := by decide +kernel
theorem dX12_familiesBut_45 : decode cX12_familiesBut 45 = .ok (.iload_n 3, 1) := by decide +kernel
theorem dX12_familiesBut_46 : decode cX12_familiesBut 46 = .ok (.if_icmp .ne 7, 3) := by decide +kernel
theorem dX12_familiesBut_49 : decode cX12_familiesBut 49 = .ok (.iconst 1, 1) := by decide +kernel
theorem dX12_familiesBut_50 : decode cX12_familiesBut 50 = .ok (.goto 4, 3) := by decide +kernel
theorem dX12_familiesBut_53 : decode cX12_familiesBut 53 = .ok (.iconst 0, 1) := by decide +kernel
theorem dX12_familiesBut_54 : decode cX12_familiesBut 54 = .ok (.istore 4, 2) := by decide +kernel
theorem dX12_familiesBut_56 : decode cX12_familiesBut 56 = .ok (.iinc 5 1, 3) := by decide +kernel
theorem dX12_familiesBut_59 : decode cX12_familiesBut 59 = .ok (.goto (-41), 3) := by decide +kernel
theorem dX12_familiesBut_62 : decode cX12_familiesBut 62 = .ok (.iload_n 2, 1) := by decide +kernel
theorem dX12_familiesBut_63 : decode cX12_familiesBut 63 = .ok (.iload 4, 2) := by decide +kernel
theorem dX12_familiesBut_65 : decode cX12_familiesBut 65 = .ok (.ifCond .eq 7, 3) := by decide +kernel
theorem dX12_familiesBut_68 : decode cX12_familiesBut 68 = .ok (.iconst 1, 1) := by decide +kernel
theorem dX12_familiesBut_69 : decode cX12_familiesBut 69 = .ok (.goto 4, 3) := by decide +kernel
theorem dX12_familiesBut_72 : decode cX12_familiesBut 72 = .ok (.iconst 0, 1) := by decide +kernel
theorem dX12_familiesBut_73 : decode cX12_familiesBut 73 = .ok (.iadd, 1) := by decide +kernel
theorem dX12_familiesBut_74 : decode cX12_familiesBut 74 = .ok (.istore_n 2, 1) := by decide +kernel
theorem dX12_familiesBut_75 : decode cX12_familiesBut 75 = .ok (.iinc 3 1, 3) := by decide +kernel
theorem dX12_familiesBut_78 : decode cX12_familiesBut 78 = .ok (.goto (-74), 3) := by decide +kernel
theorem dX12_familiesBut_81 : decode cX12_familiesBut 81 = .ok (.iload_n 2, 1) := by decide +kernel
theorem dX12_familiesBut_82 : decode cX12_familiesBut 82 = .ok (.ireturn, 1) := by decide +kernel
theorem dX12_families_0 : decode cX12_families 0 = .ok (.aload_n 0, 1) := by decide +kernel
theorem dX12_families_1 : decode cX12_families 1 = .ok (.iconst (-1), 1) := by decide +kernel
theorem dX12_families_2 : decode cX12_families 2 = .ok (.invokevirtual 359, 3) := by decide +kernel
theorem dX12_families_5 : decode cX12_families 5 = .ok (.aload_n 0, 1) := by decide +kernel
theorem dX12_families_6 : decode cX12_families 6 = .ok (.iconst (-1), 1) := by decide +kernel
theorem dX12_families_7 : decode cX12_families 7 = .ok (.invokevirtual 362, 3) := by decide +kernel
theorem dX12_families_10 : decode cX12_families 10 = .ok (.ireturn, 1) := by decide +kernel
theorem dX12_family_0 : decode cX12_family 0 = .ok (.aload_n 0, 1) := by decide +kernel
theorem dX12_family_1 : decode cX12_family 1 = .ok (.iload_n 1, 1) := by decide +kernel
theorem dX12_family_2 : decode cX12_family 2 = .ok (.invokevirtual 128, 3) := by decide +kernel
theorem dX12_family_5 : decode cX12_family 5 = .ok (.ifCond .ne 5, 3) := by decide +kernel
theorem dX12_family_8 : decode cX12_family 8 = .ok (.iconst (-1), 1) := by decide +kernel
theorem dX12_family_9 : decode cX12_family 9 = .ok (.ireturn, 1) := by decide +kernel
theorem dX12_family_10 : decode cX12_family 10 = .ok (.aload_n 0, 1) := by decide +kernel
theorem dX12_family_11 : decode cX12_family 11 = .ok (.iconst (-1), 1) := by decide +kernel
theorem dX12_family_12 : decode cX12_family 12 = .ok (.invokevirtual 359, 3) := by decide +kernel
theorem dX12_family_15 : decode cX12_family 15 = .ok (.aload_n 0, 1) := by decide +kernel
theorem dX12_family_16 : decode cX12_family 16 = .ok (.getfield 76, 3) := by decide +kernel
theorem dX12_family_19 : decode cX12_family 19 = .ok (.iload_n 1, 1) := by decide +kernel
theorem dX12_family_20 : decode cX12_family 20 = .ok (.iaload, 1) := by decide +kernel
theorem dX12_family_21 : decode cX12_family 21 = .ok (.ireturn, 1) := by decide +kernel
theorem dX12_joins_0 : decode cX12_joins 0 = .ok (.aload_n 0, 1) := by decide +kernel
theorem dX12_joins_1 : decode cX12_joins 1 = .ok (.iload_n 1, 1) := by decide +kernel
theorem dX12_joins_2 : decode cX12_joins 2 = .ok (.invokevirtual 128, 3) := by decide +kernel
theorem dX12_joins_5 : decode cX12_joins 5 = .ok (.ifCond .ne 7, 3) := by decide +kernel
theorem dX12_joins_8 : decode cX12_joins 8 = .ok (.ldc_w 355, 3) := by decide +kernel
theorem dX12_joins_11 : decode cX12_joins 11 = .ok (.ireturn, 1) := by decide +kernel
theorem dX12_joins_12 : decode cX12_joins 12 = .ok (.aload_n 0, 1) := by decide +kernel
theorem dX12_joins_13 : decode cX12_joins 13 = .ok (.iload_n 1, 1) := by decide +kernel
theorem dX12_joins_14 : decode cX12_joins 14 = .ok (.invokevirtual 359, 3) := by decide +kernel
theorem dX12_joins_17 : decode cX12_joins 17 = .ok (.aload_n 0, 1) := by decide +kernel
theorem dX12_joins_18 : decode cX12_joins 18 = .ok (.iload_n 1, 1) := by decide +kernel
theorem dX12_joins_19 : decode cX12_joins 19 = .ok (.invokevirtual 362, 3) := by decide +kernel
theorem dX12_joins_22 : decode cX12_joins 22 = .ok (.istore_n 2, 1) := by decide +kernel
theorem dX12_joins_23 : decode cX12_joins 23 = .ok (.aload_n 0, 1) := by decide +kernel
theorem dX12_joins_24 : decode cX12_joins 24 = .ok (.iconst (-1), 1) := by decide +kernel
theorem dX12_joins_25 : decode cX12_joins 25 = .ok (.invokevirtual 359, 3) := by decide +kernel
theorem dX12_joins_28 : decode cX12_joins 28 = .ok (.iload_n 2, 1) := by decide +kernel
theorem dX12_joins_29 : decode cX12_joins 29 = .ok (.aload_n 0, 1) := by decide +kernel
theorem dX12_joins_30 : decode cX12_joins 30 = .ok (.iload_n 1, 1) := by decide +kernel
theorem dX12_joins_31 : decode cX12_joins 31 = .ok (.invokevirtual 362, 3) := by decide +kernel
theorem dX12_joins_34 : decode cX12_joins 34 = .ok (.isub, 1) := by decide +kernel
theorem dX12_joins_35 : decode cX12_joins 35 = .ok (.ireturn, 1) := by decide +kernel
theorem dX12_be_0 : decode cX12_be 0 = .ok (.iconst 0, 1) := by decide +kernel
theorem dX12_be_1 : decode cX12_be 1 = .ok (.istore_n 3, 1) := by decide +kernel
theorem dX12_be_2 : decode cX12_be 2 = .ok (.iload_n 3, 1) := by decide +kernel
theorem dX12_be_3 : decode cX12_be 3 = .ok (.sipush 380, 3) := by decide +kernel
theorem dX12_be_6 : decode cX12_be 6 = .ok (.if_icmp .ge 21, 3) := by decide +kernel
theorem dX12_be_9 : decode cX12_be 9 = .ok (.aload_n 0, 1) := by decide +kernel
theorem dX12_be_10 : decode cX12_be 10 = .ok (.iload_n 3, 1) := by decide +kernel
theorem dX12_be_11 : decode cX12_be 11 = .ok (.iload_n 3, 1) := by decide +kernel
theorem dX12_be_12 : decode cX12_be 12 = .ok (.ifCond .ne 7, 3) := by decide +kernel
theorem dX12_be_15 : decode cX12_be 15 = .ok (.lload_n 1, 1) := by decide +kernel
theorem dX12_be_16 : decode cX12_be 16 = .ok (.goto 4, 3) := by decide +kernel
theorem dX12_be_19 : decode cX12_be 19 = .ok (.lconst 0, 1) := by decide +kernel
theorem dX12_be_20 : decode cX12_be 20 = .ok (.lastore, 1) := by decide +kernel
theorem dX12_be_21 : decode cX12_be 21 = .ok (.iinc 3 1, 3) := by decide +kernel
theorem dX12_be_24 : decode cX12_be 24 = .ok (.goto (-22), 3) := by decide +kernel
theorem dX12_be_27 : decode cX12_be 27 = .ok (.return_, 1) := by decide +kernel
theorem dX12_makes_0 : decode cX12_makes 0 = .ok (.iconst 0, 1) := by decide +kernel
theorem dX12_makes_1 : decode cX12_makes 1 = .ok (.istore_n 3, 1) := by decide +kernel
theorem dX12_makes_2 : decode cX12_makes 2 = .ok (.iload_n 3, 1) := by decide +kernel
theorem dX12_makes_3 : decode cX12_makes 3 = .ok (.iload_n 2, 1) := by decide +kernel
theorem dX12_makes_4 : decode cX12_makes 4 = .ok (.if_icmp .ge 59, 3) := by decide +kernel
theorem dX12_makes_7 : decode cX12_makes 7 = .ok (.lconst 0, 1) := by decide +kernel
theorem dX12_makes_8 : decode cX12_makes 8 = .ok (.lstore 4, 2) := by decide +kernel
theorem dX12_makes_10 : decode cX12_makes 10 = .ok (.iconst 0, 1) := by decide +kernel
theorem dX12_makes_11 : decode cX12_makes 11 = .ok (.istore 6, 2) := by decide +kernel
theorem dX12_makes_13 : decode cX12_makes 13 = .ok (.iload 6, 2) := by decide +kernel
theorem dX12_makes_15 : decode cX12_makes 15 = .ok (.sipush 380, 3) := by decide +kernel
theorem dX12_makes_18 : decode cX12_makes 18 = .ok (.if_icmp .ge 39, 3) := by decide +kernel
theorem dX12_makes_21 : decode cX12_makes 21 = .ok (.aload_n 0, 1) := by decide +kernel
theorem dX12_makes_22 : decode cX12_makes 22 = .ok (.iload 6, 2) := by decide +kernel
theorem dX12_makes_24 : decode cX12_makes 24 = .ok (.laload, 1) := by decide +kernel
theorem dX12_makes_25 : decode cX12_makes 25 = .ok (.iload_n 1, 1) := by decide +kernel
theorem dX12_makes_26 : decode cX12_makes 26 = .ok (.i2l, 1) := by decide +kernel
theorem dX12_makes_27 : decode cX12_makes 27 = .ok (.lmul, 1) := by decide +kernel
theorem dX12_makes_28 : decode cX12_makes 28 = .ok (.lload 4, 2) := by decide +kernel
theorem dX12_makes_30 : decode cX12_makes 30 = .ok (.ladd, 1) := by decide +kernel
theorem dX12_makes_31 : decode cX12_makes 31 = .ok (.lstore 7, 2) := by decide +kernel
theorem dX12_makes_33 : decode cX12_makes 33 = .ok (.aload_n 0, 1) := by decide +kernel
theorem dX12_makes_34 : decode cX12_makes 34 = .ok (.iload 6, 2) := by decide +kernel
theorem dX12_makes_36 : decode cX12_makes 36 = .ok (.lload 7, 2) := by decide +kernel
theorem dX12_makes_38 : decode cX12_makes 38 = .ok (.ldc2_w 365, 3) := by decide +kernel
theorem dX12_makes_41 : decode cX12_makes 41 = .ok (.lrem, 1) := by decide +kernel
theorem dX12_makes_42 : decode cX12_makes 42 = .ok (.lastore, 1) := by decide +kernel
theorem dX12_makes_43 : decode cX12_makes 43 = .ok (.lload 7, 2) := by decide +kernel
theorem dX12_makes_45 : decode cX12_makes 45 = .ok (.ldc2_w 365, 3) := by decide +kernel
theorem dX12_makes_48 : decode cX12_makes 48 = .ok (.ldiv, 1) := by decide +kernel
theorem dX12_makes_49 : decode cX12_makes 49 = .ok (.lstore 4, 2) := by decide +kernel
theorem dX12_makes_51 : decode cX12_makes 51 = .ok (.iinc 6 1, 3) := by decide +kernel
theorem dX12_makes_54 : decode cX12_makes 54 = .ok (.goto (-41), 3) := by decide +kernel
theorem dX12_makes_57 : decode cX12_makes 57 = .ok (.iinc 3 1, 3) := by decide +kernel
theorem dX12_makes_60 : decode cX12_makes 60 = .ok (.goto (-58), 3) := by decide +kernel
theorem dX12_makes_63 : decode cX12_makes 63 = .ok (.return_, 1) := by decide +kernel
theorem dX12_adds_0 : decode cX12_adds 0 = .ok (.lconst 0, 1) := by decide +kernel
theorem dX12_adds_1 : decode cX12_adds 1 = .ok (.lstore_n 2, 1) := by decide +kernel
theorem dX12_adds_2 : decode cX12_adds 2 = .ok (.iconst 0, 1) := by decide +kernel
theorem dX12_adds_3 : decode cX12_adds 3 = .ok (.istore 4, 2) := by decide +kernel
theorem dX12_adds_5 : decode cX12_adds 5 = .ok (.iload 4, 2) := by decide +kernel
theorem dX12_adds_7 : decode cX12_adds 7 = .ok (.sipush 380, 3) := by decide +kernel
theorem dX12_adds_10 : decode cX12_adds 10 = .ok (.if_icmp .ge 39, 3) := by decide +kernel
theorem dX12_adds_13 : decode cX12_adds 13 = .ok (.aload_n 0, 1) := by decide +kernel
theorem dX12_adds_14 : decode cX12_adds 14 = .ok (.iload 4, 2) := by decide +kernel
theorem dX12_adds_16 : decode cX12_adds 16 = .ok (.laload, 1) := by decide +kernel
theorem dX12_adds_17 : decode cX12_adds 17 = .ok (.aload_n 1, 1) := by decide +kernel
theorem dX12_adds_18 : decode cX12_adds 18 = .ok (.iload 4, 2) := by decide +kernel
theorem dX12_adds_20 : decode cX12_adds 20 = .ok (.laload, 1) := by decide +kernel
theorem dX12_adds_21 : decode cX12_adds 21 = .ok (.ladd, 1) := by decide +kernel
theorem dX12_adds_22 : decode cX12_adds 22 = .ok (.lload_n 2, 1) := by decide +kernel
theorem dX12_adds_23 : decode cX12_adds 23 = .ok (.ladd, 1) := by decide +kernel
theorem dX12_adds_24 : decode cX12_adds 24 = .ok (.lstore 5, 2) := by decide +kernel
theorem dX12_adds_26 : decode cX12_adds 26 = .ok (.aload_n 0, 1) := by decide +kernel
theorem dX12_adds_27 : decode cX12_adds 27 = .ok (.iload 4, 2) := by decide +kernel
theorem dX12_adds_29 : decode cX12_adds 29 = .ok (.lload 5, 2) := by decide +kernel
theorem dX12_adds_31 : decode cX12_adds 31 = .ok (.ldc2_w 365, 3) := by decide +kernel
theorem dX12_adds_34 : decode cX12_adds 34 = .ok (.lrem, 1) := by decide +kernel
theorem dX12_adds_35 : decode cX12_adds 35 = .ok (.lastore, 1) := by decide +kernel
theorem dX12_adds_36 : decode cX12_adds 36 = .ok (.lload 5, 2) := by decide +kernel
theorem dX12_adds_38 : decode cX12_adds 38 = .ok (.ldc2_w 365, 3) := by decide +kernel
theorem dX12_adds_41 : decode cX12_adds 41 = .ok (.ldiv, 1) := by decide +kernel
theorem dX12_adds_42 : decode cX12_adds 42 = .ok (.lstore_n 2, 1) := by decide +kernel
theorem dX12_adds_43 : decode cX12_adds 43 = .ok (.iinc 4 1, 3) := by decide +kernel
theorem dX12_adds_46 : decode cX12_adds 46 = .ok (.goto (-41), 3) := by decide +kernel
theorem dX12_adds_49 : decode cX12_adds 49 = .ok (.return_, 1) := by decide +kernel
theorem dX12_order_0 : decode cX12_order 0 = .ok (.sipush 379, 3) := by decide +kernel
theorem dX12_order_3 : decode cX12_order 3 = .ok (.istore_n 2, 1) := by decide +kernel
theorem dX12_order_4 : decode cX12_order 4 = .ok (.iload_n 2, 1) := by decide +kernel
theorem dX12_order_5 : decode cX12_order 5 = .ok (.ifCond .lt 35, 3) := by decide +kernel
theorem dX12_order_8 : decode cX12_order 8 = .ok (.aload_n 0, 1) := by decide +kernel
theorem dX12_order_9 : decode cX12_order 9 = .ok (.iload_n 2, 1) := by decide +kernel
theorem dX12_order_10 : decode cX12_order 10 = .ok (.laload, 1) := by decide +kernel
theorem dX12_order_11 : decode cX12_order 11 = .ok (.aload_n 1, 1) := by decide +kernel
theorem dX12_order_12 : decode cX12_order 12 = .ok (.iload_n 2, 1) := by decide +kernel
theorem dX12_order_13 : decode cX12_order 13 = .ok (.laload, 1) := by decide +kernel
theorem dX12_order_14 : decode cX12_order 14 = .ok (.lcmp, 1) := by decide +kernel
theorem dX12_order_15 : decode cX12_order 15 = .ok (.ifCond .eq 19, 3) := by decide +kernel
theorem dX12_order_18 : decode cX12_order 18 = .ok (.aload_n 0, 1) := by decide +kernel
theorem dX12_order_19 : decode cX12_order 19 = .ok (.iload_n 2, 1) := by decide +kernel
theorem dX12_order_20 : decode cX12_order 20 = .ok (.laload, 1) := by decide +kernel
theorem dX12_order_21 : decode cX12_order 21 = .ok (.aload_n 1, 1) := by decide +kernel
theorem dX12_order_22 : decode cX12_order 22 = .ok (.iload_n 2, 1) := by decide +kernel
theorem dX12_order_23 : decode cX12_order 23 = .ok (.laload, 1) := by decide +kernel
theorem dX12_order_24 : decode cX12_order 24 = .ok (.lcmp, 1) := by decide +kernel
theorem dX12_order_25 : decode cX12_order 25 = .ok (.ifCond .ge 7, 3) := by decide +kernel
theorem dX12_order_28 : decode cX12_order 28 = .ok (.iconst (-1), 1) := by decide +kernel
theorem dX12_order_29 : decode cX12_order 29 = .ok (.goto 4, 3) := by decide +kernel
theorem dX12_order_32 : decode cX12_order 32 = .ok (.iconst 1, 1) := by decide +kernel
theorem dX12_order_33 : decode cX12_order 33 = .ok (.ireturn, 1) := by decide +kernel
theorem dX12_order_34 : decode cX12_order 34 = .ok (.iinc 2 (-1), 3) := by decide +kernel
theorem dX12_order_37 : decode cX12_order 37 = .ok (.goto (-33), 3) := by decide +kernel
theorem dX12_order_40 : decode cX12_order 40 = .ok (.iconst 0, 1) := by decide +kernel
theorem dX12_order_41 : decode cX12_order 41 = .ok (.ireturn, 1) := by decide +kernel
theorem dX12_quotient_0 : decode cX12_quotient 0 = .ok (.iconst 0, 1) := by decide +kernel
theorem dX12_quotient_1 : decode cX12_quotient 1 = .ok (.istore_n 1, 1) := by decide +kernel
theorem dX12_quotient_2 : decode cX12_quotient 2 = .ok (.ldc 181, 2) := by decide +kernel
theorem dX12_quotient_4 : decode cX12_quotient 4 = .ok (.istore_n 2, 1) := by decide +kernel
theorem dX12_quotient_5 : decode cX12_quotient 5 = .ok (.iload_n 1, 1) := by decide +kernel
theorem dX12_quotient_6 : decode cX12_quotient 6 = .ok (.iload_n 2, 1) := by decide +kernel
theorem dX12_quotient_7 : decode cX12_quotient 7 = .ok (.if_icmp .ge 77, 3) := by decide +kernel
theorem dX12_quotient_10 : decode cX12_quotient 10 = .ok (.iload_n 1, 1) := by decide +kernel
theorem dX12_quotient_11 : decode cX12_quotient 11 = .ok (.iload_n 2, 1) := by decide +kernel
theorem dX12_quotient_12 : decode cX12_quotient 12 = .ok (.iadd, 1) := by decide +kernel
theorem dX12_quotient_13 : decode cX12_quotient 13 = .ok (.iconst 1, 1) := by decide +kernel
theorem dX12_quotient_14 : decode cX12_quotient 14 = .ok (.iadd, 1) := by decide +kernel
theorem dX12_quotient_15 : decode cX12_quotient 15 = .ok (.iconst 2, 1) := by decide +kernel
theorem dX12_quotient_16 : decode cX12_quotient 16 = .ok (.idiv, 1) := by decide +kernel
theorem dX12_quotient_17 : decode cX12_quotient 17 = .ok (.istore_n 3, 1) := by decide +kernel
theorem dX12_quotient_18 : decode cX12_quotient 18 = .ok (.iconst 0, 1) := by decide +kernel
theorem dX12_quotient_19 : decode cX12_quotient 19 = .ok (.istore 4, 2) := by decide +kernel
theorem dX12_quotient_21 : decode cX12_quotient 21 = .ok (.iload 4, 2) := by decide +kernel
theorem dX12_quotient_23 : decode cX12_quotient 23 = .ok (.sipush 380, 3) := by decide +kernel
theorem dX12_quotient_26 : decode cX12_quotient 26 = .ok (.if_icmp .ge 23, 3) := by decide +kernel
theorem dX12_quotient_29 : decode cX12_quotient 29 = .ok (.aload_n 0, 1) := by decide +kernel
theorem dX12_quotient_30 : decode cX12_quotient 30 = .ok (.getfield 86, 3) := by decide +kernel
theorem dX12_quotient_33 : decode cX12_quotient 33 = .ok (.iload 4, 2) := by decide +kernel
theorem dX12_quotient_35 : decode cX12_quotient 35 = .ok (.aload_n 0, 1) := by decide +kernel
theorem dX12_quotient_36 : decode cX12_quotient 36 = .ok (.getfield 83, 3) := by decide +kernel
theorem dX12_quotient_39 : decode cX12_quotient 39 = .ok (.iload 4, 2) := by decide +kernel
theorem dX12_quotient_41 : decode cX12_quotient 41 = .ok (.laload, 1) := by decide +kernel
theorem dX12_quotient_42 : decode cX12_quotient 42 = .ok (.lastore, 1) := by decide +kernel
theorem dX12_quotient_43 : decode cX12_quotient 43 = .ok (.iinc 4 1, 3) := by decide +kernel
theorem dX12_quotient_46 : decode cX12_quotient 46 = .ok (.goto (-25), 3) := by decide +kernel
theorem dX12_quotient_49 : decode cX12_quotient 49 = .ok (.aload_n 0, 1) := by decide +kernel
theorem dX12_quotient_50 : decode cX12_quotient 50 = .ok (.getfield 86, 3) := by decide +kernel
theorem dX12_quotient_53 : decode cX12_quotient 53 = .ok (.iload_n 3, 1) := by decide +kernel
theorem dX12_quotient_54 : decode cX12_quotient 54 = .ok (.iconst 1, 1) := by decide +kernel
theorem dX12_quotient_55 : decode cX12_quotient 55 = .ok (.invokestatic 367, 3) := by decide +kernel
theorem dX12_quotient_58 : decode cX12_quotient 58 = .ok (.aload_n 0, 1) := by decide +kernel
theorem dX12_quotient_59 : decode cX12_quotient 59 = .ok (.getfield 86, 3) := by decide +kernel
theorem dX12_quotient_62 : decode cX12_quotient 62 = .ok (.aload_n 0, 1) := by decide +kernel
theorem dX12_quotient_63 : decode cX12_quotient 63 = .ok (.getfield 79, 3) := by decide +kernel
theorem dX12_quotient_66 : decode cX12_quotient 66 = .ok (.invokestatic 371, 3) := by decide +kernel
theorem dX12_quotient_69 : decode cX12_quotient 69 = .ok (.ifCond .gt 8, 3) := by decide +kernel
theorem dX12_quotient_72 : decode cX12_quotient 72 = .ok (.iload_n 3, 1) := by decide +kernel
theorem dX12_quotient_73 : decode cX12_quotient 73 = .ok (.istore_n 1, 1) := by decide +kernel
theorem dX12_quotient_74 : decode cX12_quotient 74 = .ok (.goto 7, 3) := by decide +kernel
theorem dX12_quotient_77 : decode cX12_quotient 77 = .ok (.iload_n 3, 1) := by decide +kernel
theorem dX12_quotient_78 : decode cX12_quotient 78 = .ok (.iconst 1, 1) := by decide +kernel
theorem dX12_quotient_79 : decode cX12_quotient 79 = .ok (.isub, 1) := by decide +kernel
theorem dX12_quotient_80 : decode cX12_quotient 80 = .ok (.istore_n 2, 1) := by decide +kernel
theorem dX12_quotient_81 : decode cX12_quotient 81 = .ok (.goto (-76), 3) := by decide +kernel
theorem dX12_quotient_84 : decode cX12_quotient 84 = .ok (.iload_n 1, 1) := by decide +kernel
theorem dX12_quotient_85 : decode cX12_quotient 85 = .ok (.ireturn, 1) := by decide +kernel
theorem dX12_formsOf_0 : decode cX12_formsOf 0 = .ok (.bipush 6, 2) := by decide +kernel
theorem dX12_formsOf_2 : decode cX12_formsOf 2 = .ok (.istore_n 2, 1) := by decide +kernel
theorem dX12_formsOf_3 : decode cX12_formsOf 3 = .ok (.iconst 0, 1) := by decide +kernel
theorem dX12_formsOf_4 : decode cX12_formsOf 4 = .ok (.istore_n 3, 1) := by decide +kernel
theorem dX12_formsOf_5 : decode cX12_formsOf 5 = .ok (.iload_n 3, 1) := by decide +kernel
theorem dX12_formsOf_6 : decode cX12_formsOf 6 = .ok (.bipush 6, 2) := by decide +kernel
theorem dX12_formsOf_8 : decode cX12_formsOf 8 = .ok (.if_icmp .ge 20, 3) := by decide +kernel
theorem dX12_formsOf_11 : decode cX12_formsOf 11 = .ok (.iload_n 2, 1) := by decide +kernel
theorem dX12_formsOf_12 : decode cX12_formsOf 12 = .ok (.aload_n 0, 1) := by decide +kernel
theorem dX12_formsOf_13 : decode cX12_formsOf 13 = .ok (.iload_n 1, 1) := by decide +kernel
theorem dX12_formsOf_14 : decode cX12_formsOf 14 = .ok (.iconst 2, 1) := by decide +kernel
theorem dX12_formsOf_15 : decode cX12_formsOf 15 = .ok (.iload_n 3, 1) := by decide +kernel
theorem dX12_formsOf_16 : decode cX12_formsOf 16 = .ok (.iadd, 1) := by decide +kernel
theorem dX12_formsOf_17 : decode cX12_formsOf 17 = .ok (.invokevirtual 375, 3) := by decide +kernel
theorem dX12_formsOf_20 : decode cX12_formsOf 20 = .ok (.iadd, 1) := by decide +kernel
theorem dX12_formsOf_21 : decode cX12_formsOf 21 = .ok (.istore_n 2, 1) := by decide +kernel
theorem dX12_formsOf_22 : decode cX12_formsOf 22 = .ok (.iinc 3 1, 3) := by decide +kernel
theorem dX12_formsOf_25 : decode cX12_formsOf 25 = .ok (.goto (-20), 3) := by decide +kernel
theorem dX12_formsOf_28 : decode cX12_formsOf 28 = .ok (.iload_n 2, 1) := by decide +kernel
theorem dX12_formsOf_29 : decode cX12_formsOf 29 = .ok (.ireturn, 1) := by decide +kernel
theorem dX12_likens_0 : decode cX12_likens 0 = .ok (.aload_n 0, 1) := by decide +kernel
theorem dX12_likens_1 : decode cX12_likens 1 = .ok (.getfield 79, 3) := by decide +kernel
theorem dX12_likens_4 : decode cX12_likens 4 = .ok (.lconst 1, 1) := by decide +kernel
theorem dX12_likens_5 : decode cX12_likens 5 = .ok (.invokestatic 378, 3) := by decide +kernel
theorem dX12_likens_8 : decode cX12_likens 8 = .ok (.aload_n 0, 1) := by decide +kernel
theorem dX12_likens_9 : decode cX12_likens 9 = .ok (.getfield 83, 3) := by decide +kernel
theorem dX12_likens_12 : decode cX12_likens 12 = .ok (.lconst 1, 1) := by decide +kernel
theorem dX12_likens_13 : decode cX12_likens 13 = .ok (.invokestatic 378, 3) := by decide +kernel
theorem dX12_likens_16 : decode cX12_likens 16 = .ok (.iconst 0, 1) := by decide +kernel
theorem dX12_likens_17 : decode cX12_likens 17 = .ok (.istore 4, 2) := by decide +kernel
theorem dX12_likens_19 : decode cX12_likens 19 = .ok (.iload 4, 2) := by decide +kernel
theorem dX12_likens_21 : decode cX12_likens 21 = .ok (.bipush 6, 2) := by decide +kernel
theorem dX12_likens_23 : decode cX12_likens 23 = .ok (.if_icmp .ge 95, 3) := by decide +kernel
theorem dX12_likens_26 : decode cX12_likens 26 = .ok (.aload_n 0, 1) := by decide +kernel
theorem dX12_likens_27 : decode cX12_likens 27 = .ok (.getfield 20, 3) := by decide +kernel
theorem dX12_likens_30 : decode cX12_likens 30 = .ok (.sipush 292, 3) := by decide +kernel
theorem dX12_likens_33 : decode cX12_likens 33 = .ok (.bipush 6, 2) := by decide +kernel
theorem dX12_likens_35 : decode cX12_likens 35 = .ok (.iload_n 1, 1) := by decide +kernel
theorem dX12_likens_36 : decode cX12_likens 36 = .ok (.imul, 1) := by decide +kernel
theorem dX12_likens_37 : decode cX12_likens 37 = .ok (.iadd, 1) := by decide +kernel
theorem dX12_likens_38 : decode cX12_likens 38 = .ok (.iload 4, 2) := by decide +kernel
theorem dX12_likens_40 : decode cX12_likens 40 = .ok (.iadd, 1) := by decide +kernel
theorem dX12_likens_41 : decode cX12_likens 41 = .ok (.iaload, 1) := by decide +kernel
theorem dX12_likens_42 : decode cX12_likens 42 = .ok (.istore 5, 2) := by decide +kernel
theorem dX12_likens_44 : decode cX12_likens 44 = .ok (.aload_n 0, 1) := by decide +kernel
theorem dX12_likens_45 : decode cX12_likens 45 = .ok (.getfield 79, 3) := by decide +kernel
theorem dX12_likens_48 : decode cX12_likens 48 = .ok (.aload_n 0, 1) := by decide +kernel
theorem dX12_likens_49 : decode cX12_likens 49 = .ok (.iload_n 2, 1) := by decide +kernel
theorem dX12_likens_50 : decode cX12_likens 50 = .ok (.iconst 2, 1) := by decide +kernel
theorem dX12_likens_51 : decode cX12_likens 51 = .ok (.iload 4, 2) := by decide +kernel
theorem dX12_likens_53 : decode cX12_likens 53 = .ok (.iadd, 1) := by decide +kernel
theorem dX12_likens_54 : decode cX12_likens 54 = .ok (.invokevirtual 375, 3) := by decide +kernel
theorem dX12_likens_57 : decode cX12_likens 57 = .ok (.iconst 1, 1) := by decide +kernel
theorem dX12_likens_58 : decode cX12_likens 58 = .ok (.iadd, 1) := by decide +kernel
theorem dX12_likens_59 : decode cX12_likens 59 = .ok (.iload 5, 2) := by decide +kernel
theorem dX12_likens_61 : decode cX12_likens 61 = .ok (.invokestatic 367, 3) := by decide +kernel
theorem dX12_likens_64 : decode cX12_likens 64 = .ok (.aload_n 0, 1) := by decide +kernel
theorem dX12_likens_65 : decode cX12_likens 65 = .ok (.getfield 79, 3) := by decide +kernel
theorem dX12_likens_68 : decode cX12_likens 68 = .ok (.aload_n 0, 1) := by decide +kernel
theorem dX12_likens_69 : decode cX12_likens 69 = .ok (.iload_n 3, 1) := by decide +kernel
theorem dX12_likens_70 : decode cX12_likens 70 = .ok (.invokevirtual 382, 3) := by decide +kernel
theorem dX12_likens_73 : decode cX12_likens 73 = .ok (.iload 5, 2) := by decide +kernel
theorem dX12_likens_75 : decode cX12_likens 75 = .ok (.invokestatic 367, 3) := by decide +kernel
theorem dX12_likens_78 : decode cX12_likens 78 = .ok (.aload_n 0, 1) := by decide +kernel
theorem dX12_likens_79 : decode cX12_likens 79 = .ok (.getfield 83, 3) := by decide +kernel
theorem dX12_likens_82 : decode cX12_likens 82 = .ok (.aload_n 0, 1) := by decide +kernel
theorem dX12_likens_83 : decode cX12_likens 83 = .ok (.iload_n 3, 1) := by decide +kernel
theorem dX12_likens_84 : decode cX12_likens 84 = .ok (.iconst 2, 1) := by decide +kernel
theorem dX12_likens_85 : decode cX12_likens 85 = .ok (.iload 4, 2) := by decide +kernel
theorem dX12_likens_87 : decode cX12_likens 87 = .ok (.iadd, 1) := by decide +kernel
theorem dX12_likens_88 : decode cX12_likens 88 = .ok (.invokevirtual 375, 3) := by decide +kernel
theorem dX12_likens_91 : decode cX12_likens 91 = .ok (.iconst 1, 1) := by decide +kernel
theorem dX12_likens_92 : decode cX12_likens 92 = .ok (.iadd, 1) := by decide +kernel
theorem dX12_likens_93 : decode cX12_likens 93 = .ok (.iload 5, 2) := by decide +kernel
theorem dX12_likens_95 : decode cX12_likens 95 = .ok (.invokestatic 367, 3) := by decide +kernel
theorem dX12_likens_98 : decode cX12_likens 98 = .ok (.aload_n 0, 1) := by decide +kernel
theorem dX12_likens_99 : decode cX12_likens 99 = .ok (.getfield 83, 3) := by decide +kernel
theorem dX12_likens_102 : decode cX12_likens 102 = .ok (.aload_n 0, 1) := by decide +kernel
theorem dX12_likens_103 : decode cX12_likens 103 = .ok (.iload_n 2, 1) := by decide +kernel
theorem dX12_likens_104 : decode cX12_likens 104 = .ok (.invokevirtual 382, 3) := by decide +kernel
theorem dX12_likens_107 : decode cX12_likens 107 = .ok (.iload 5, 2) := by decide +kernel
theorem dX12_likens_109 : decode cX12_likens 109 = .ok (.invokestatic 367, 3) := by decide +kernel
theorem dX12_likens_112 : decode cX12_likens 112 = .ok (.iinc 4 1, 3) := by decide +kernel
theorem dX12_likens_115 : decode cX12_likens 115 = .ok (.goto (-96), 3) := by decide +kernel
theorem dX12_likens_118 : decode cX12_likens 118 = .ok (.return_, 1) := by decide +kernel
theorem dX12_times_0 : decode cX12_times 0 = .ok (.iload_n 1, 1) := by decide +kernel
theorem dX12_times_1 : decode cX12_times 1 = .ok (.iconst 0, 1) := by decide +kernel
theorem dX12_times_2 : decode cX12_times 2 = .ok (.bipush 7, 2) := by decide +kernel
theorem dX12_times_4 : decode cX12_times 4 = .ok (.invokestatic 113, 3) := by decide +kernel
theorem dX12_times_7 : decode cX12_times 7 = .ok (.ifCond .eq 19, 3) := by decide +kernel
theorem dX12_times_10 : decode cX12_times 10 = .ok (.aload_n 0, 1) := by decide +kernel
theorem dX12_times_11 : decode cX12_times 11 = .ok (.iload_n 2, 1) := by decide +kernel
theorem dX12_times_12 : decode cX12_times 12 = .ok (.invokevirtual 140, 3) := by decide +kernel
theorem dX12_times_15 : decode cX12_times 15 = .ok (.ifCond .eq 11, 3) := by decide +kernel
theorem dX12_times_18 : decode cX12_times 18 = .ok (.aload_n 0, 1) := by decide +kernel
theorem dX12_times_19 : decode cX12_times 19 = .ok (.iload_n 3, 1) := by decide +kernel
theorem dX12_times_20 : decode cX12_times 20 = .ok (.invokevirtual 140, 3) := by decide +kernel
theorem dX12_times_23 : decode cX12_times 23 = .ok (.ifCond .ne 5, 3) := by decide +kernel
theorem dX12_times_26 : decode cX12_times 26 = .ok (.iconst (-1), 1) := by decide +kernel
theorem dX12_times_27 : decode cX12_times 27 = .ok (.ireturn, 1) := by decide +kernel
theorem dX12_times_28 : decode cX12_times 28 = .ok (.aload_n 0, 1) := by decide +kernel
theorem dX12_times_29 : decode cX12_times 29 = .ok (.iload_n 1, 1) := by decide +kernel
theorem dX12_times_30 : decode cX12_times 30 = .ok (.iload_n 2, 1) := by decide +kernel
theorem dX12_times_31 : decode cX12_times 31 = .ok (.iload_n 3, 1) := by decide +kernel
theorem dX12_times_32 : decode cX12_times 32 = .ok (.invokevirtual 385, 3) := by decide +kernel
theorem dX12_times_35 : decode cX12_times 35 = .ok (.aload_n 0, 1) := by decide +kernel
theorem dX12_times_36 : decode cX12_times 36 = .ok (.invokevirtual 389, 3) := by decide +kernel
theorem dX12_times_39 : decode cX12_times 39 = .ok (.ireturn, 1) := by decide +kernel
theorem dX12_written_0 : decode cX12_written 0 = .ok (.iload_n 1, 1) := by decide +kernel
theorem dX12_written_1 : decode cX12_written 1 = .ok (.iconst 0, 1) := by decide +kernel
theorem dX12_written_2 : decode cX12_written 2 = .ok (.bipush 7, 2) := by decide +kernel
theorem dX12_written_4 : decode cX12_written 4 = .ok (.invokestatic 113, 3) := by decide +kernel
theorem dX12_written_7 : decode cX12_written 7 = .ok (.ifCond .eq 14, 3) := by decide +kernel
theorem dX12_written_10 : decode cX12_written 10 = .ok (.aload_n 0, 1) := by decide +kernel
theorem dX12_written_11 : decode cX12_written 11 = .ok (.getfield 20, 3) := by decide +kernel
theorem dX12_written_14 : decode cX12_written 14 = .ok (.sipush 1346, 3) := by decide +kernel
theorem dX12_written_17 : decode cX12_written 17 = .ok (.iaload, 1) := by decide +kernel
theorem dX12_written_18 : decode cX12_written 18 = .ok (.ifCond .ne 5, 3) := by decide +kernel
theorem dX12_written_21 : decode cX12_written 21 = .ok (.iconst (-1), 1) := by decide +kernel
theorem dX12_written_22 : decode cX12_written 22 = .ok (.ireturn, 1) := by decide +kernel
theorem dX12_written_23 : decode cX12_written 23 = .ok (.iconst 0, 1) := by decide +kernel
theorem dX12_written_24 : decode cX12_written 24 = .ok (.istore_n 2, 1) := by decide +kernel
theorem dX12_written_25 : decode cX12_written 25 = .ok (.iconst 1, 1) := by decide +kernel
theorem dX12_written_26 : decode cX12_written 26 = .ok (.istore_n 3, 1) := by decide +kernel
theorem dX12_written_27 : decode cX12_written 27 = .ok (.iload_n 3, 1) := by decide +kernel
theorem dX12_written_28 : decode cX12_written 28 = .ok (.aload_n 0, 1) := by decide +kernel
theorem dX12_written_29 : decode cX12_written 29 = .ok (.getfield 20, 3) := by decide +kernel
theorem dX12_written_32 : decode cX12_written 32 = .ok (.sipush 1346, 3) := by decide +kernel
theorem dX12_written_35 : decode cX12_written 35 = .ok (.iaload, 1) := by decide +kernel
theorem dX12_written_36 : decode cX12_written 36 = .ok (.if_icmp .ge 32, 3) := by decide +kernel
theorem dX12_written_39 : decode cX12_written 39 = .ok (.aload_n 0, 1) := by decide +kernel
theorem dX12_written_40 : decode cX12_written 40 = .ok (.iload_n 1, 1) := by decide +kernel
theorem dX12_written_41 : decode cX12_written 41 = .ok (.iload_n 3, 1) := by decide +kernel
theorem dX12_written_42 : decode cX12_written 42 = .ok (.iload_n 2, 1) := by decide +kernel
theorem dX12_written_43 : decode cX12_written 43 = .ok (.invokevirtual 385, 3) := by decide +kernel
theorem dX12_written_46 : decode cX12_written 46 = .ok (.aload_n 0, 1) := by decide +kernel
theorem dX12_written_47 : decode cX12_written 47 = .ok (.getfield 79, 3) := by decide +kernel
theorem dX12_written_50 : decode cX12_written 50 = .ok (.aload_n 0, 1) := by decide +kernel
theorem dX12_written_51 : decode cX12_written 51 = .ok (.getfield 83, 3) := by decide +kernel
theorem dX12_written_54 : decode cX12_written 54 = .ok (.invokestatic 371, 3) := by decide +kernel
theorem dX12_written_57 : decode cX12_written 57 = .ok (.ifCond .le 5, 3) := by decide +kernel
theorem dX12_written_60 : decode cX12_written 60 = .ok (.iload_n 3, 1) := by decide +kernel
theorem dX12_written_61 : decode cX12_written 61 = .ok (.istore_n 2, 1) := by decide +kernel
theorem dX12_written_62 : decode cX12_written 62 = .ok (.iinc 3 1, 3) := by decide +kernel
theorem dX12_written_65 : decode cX12_written 65 = .ok (.goto (-38), 3) := by decide +kernel
theorem dX12_written_68 : decode cX12_written 68 = .ok (.iload_n 2, 1) := by decide +kernel
theorem dX12_written_69 : decode cX12_written 69 = .ok (.ireturn, 1) := by decide +kernel
theorem dX12_isIn_0 : decode cX12_isIn 0 = .ok (.iconst 0, 1) := by decide +kernel
theorem dX12_isIn_1 : decode cX12_isIn 1 = .ok (.istore_n 3, 1) := by decide +kernel
theorem dX12_isIn_2 : decode cX12_isIn 2 = .ok (.iconst 0, 1) := by decide +kernel
theorem dX12_isIn_3 : decode cX12_isIn 3 = .ok (.istore 4, 2) := by decide +kernel
theorem dX12_isIn_5 : decode cX12_isIn 5 = .ok (.iload 4, 2) := by decide +kernel
theorem dX12_isIn_7 : decode cX12_isIn 7 = .ok (.aload_n 0, 1) := by decide +kernel
theorem dX12_isIn_8 : decode cX12_isIn 8 = .ok (.getfield 20, 3) := by decide +kernel
theorem dX12_isIn_11 : decode cX12_isIn 11 = .ok (.sipush 1347, 3) := by decide +kernel
theorem dX12_isIn_14 : decode cX12_isIn 14 = .ok (.iaload, 1) := by decide +kernel
theorem dX12_isIn_15 : decode cX12_isIn 15 = .ok (.if_icmp .ge 41, 3) := by decide +kernel
theorem dX12_isIn_18 : decode cX12_isIn 18 = .ok (.iload_n 3, 1) := by decide +kernel
theorem dX12_isIn_19 : decode cX12_isIn 19 = .ok (.ifCond .ne 25, 3) := by decide +kernel
theorem dX12_isIn_22 : decode cX12_isIn 22 = .ok (.aload_n 0, 1) := by decide +kernel
theorem dX12_isIn_23 : decode cX12_isIn 23 = .ok (.iload 4, 2) := by decide +kernel
theorem dX12_isIn_25 : decode cX12_isIn 25 = .ok (.iconst 0, 1) := by decide +kernel
theorem dX12_isIn_26 : decode cX12_isIn 26 = .ok (.invokevirtual 143, 3) := by decide +kernel
theorem dX12_isIn_29 : decode cX12_isIn 29 = .ok (.iload_n 1, 1) := by decide +kernel
theorem dX12_isIn_30 : decode cX12_isIn 30 = .ok (.if_icmp .ne 18, 3) := by decide +kernel
theorem dX12_isIn_33 : decode cX12_isIn 33 = .ok (.aload_n 0, 1) := by decide +kernel
theorem dX12_isIn_34 : decode cX12_isIn 34 = .ok (.iload 4, 2) := by decide +kernel
theorem dX12_isIn_36 : decode cX12_isIn 36 = .ok (.iconst 3, 1) := by decide +kernel
theorem dX12_isIn_37 : decode cX12_isIn 37 = .ok (.invokevirtual 143, 3) := by decide +kernel
theorem dX12_isIn_40 : decode cX12_isIn 40 = .ok (.iload_n 2, 1) := by decide +kernel
theorem dX12_isIn_41 : decode cX12_isIn 41 = .ok (.if_icmp .ne 7, 3) := by decide +kernel
theorem dX12_isIn_44 : decode cX12_isIn 44 = .ok (.iconst 1, 1) := by decide +kernel
theorem dX12_isIn_45 : decode cX12_isIn 45 = .ok (.goto 4, 3) := by decide +kernel
theorem dX12_isIn_48 : decode cX12_isIn 48 = .ok (.iconst 0, 1) := by decide +kernel
theorem dX12_isIn_49 : decode cX12_isIn 49 = .ok (.istore_n 3, 1) := by decide +kernel
theorem dX12_isIn_50 : decode cX12_isIn 50 = .ok (.iinc 4 1, 3) := by decide +kernel
theorem dX12_isIn_53 : decode cX12_isIn 53 = .ok (.goto (-48), 3) := by decide +kernel
theorem dX12_isIn_56 : decode cX12_isIn 56 = .ok (.iload_n 3, 1) := by decide +kernel
theorem dX12_isIn_57 : decode cX12_isIn 57 = .ok (.ireturn, 1) := by decide +kernel
theorem dX12_towns_0 : decode cX12_towns 0 = .ok (.aload_n 0, 1) := by decide +kernel
theorem dX12_towns_1 : decode cX12_towns 1 = .ok (.iload_n 1, 1) := by decide +kernel
theorem dX12_towns_2 : decode cX12_towns 2 = .ok (.invokevirtual 140, 3) := by decide +kernel
theorem dX12_towns_5 : decode cX12_towns 5 = .ok (.ifCond .ne 5, 3) := by decide +kernel
theorem dX12_towns_8 : decode cX12_towns 8 = .ok (.iconst (-1), 1) := by decide +kernel
theorem dX12_towns_9 : decode cX12_towns 9 = .ok (.ireturn, 1) := by decide +kernel
theorem dX12_towns_10 : decode cX12_towns 10 = .ok (.iconst 0, 1) := by decide +kernel
theorem dX12_towns_11 : decode cX12_towns 11 = .ok (.istore_n 2, 1) := by decide +kernel
theorem dX12_towns_12 : decode cX12_towns 12 = .ok (.iconst 0, 1) := by decide +kernel
theorem dX12_towns_13 : decode cX12_towns 13 = .ok (.istore_n 3, 1) := by decide +kernel
theorem dX12_towns_14 : decode cX12_towns 14 = .ok (.iload_n 3, 1) := by decide +kernel
theorem dX12_towns_15 : decode cX12_towns 15 = .ok (.bipush 32, 2) := by decide +kernel
theorem dX12_towns_17 : decode cX12_towns 17 = .ok (.if_icmp .ge 117, 3) := by decide +kernel
theorem dX12_towns_20 : decode cX12_towns 20 = .ok (.iconst 0, 1) := by decide +kernel
theorem dX12_towns_21 : decode cX12_towns 21 = .ok (.istore 4, 2) := by decide +kernel
theorem dX12_towns_23 : decode cX12_towns 23 = .ok (.iconst 0, 1) := by decide +kernel
theorem dX12_towns_24 : decode cX12_towns 24 = .ok (.istore 5, 2) := by decide +kernel
theorem dX12_towns_26 : decode cX12_towns 26 = .ok (.iload 5, 2) := by decide +kernel
theorem dX12_towns_28 : decode cX12_towns 28 = .ok (.aload_n 0, 1) := by decide +kernel
theorem dX12_towns_29 : decode cX12_towns 29 = .ok (.getfield 20, 3) := by decide +kernel
theorem dX12_towns_32 : decode cX12_towns 32 = .ok (.sipush 1345, 3) := by decide +kernel
theorem dX12_towns_35 : decode cX12_towns 35 = .ok (.iaload, 1) := by decide +kernel
theorem dX12_towns_36 : decode cX12_towns 36 = .ok (.if_icmp .ge 79, 3) := by decide +kernel
theorem dX12_towns_39 : decode cX12_towns 39 = .ok (.iload 4, 2) := by decide +kernel
theorem dX12_towns_41 : decode cX12_towns 41 = .ok (.ifCond .ne 61, 3) := by decide +kernel
theorem dX12_towns_44 : decode cX12_towns 44 = .ok (.aload_n 0, 1) := by decide +kernel
theorem dX12_towns_45 : decode cX12_towns 45 = .ok (.iload 5, 2) := by decide +kernel
theorem dX12_towns_47 : decode cX12_towns 47 = .ok (.iconst 1, 1) := by decide +kernel
theorem dX12_towns_48 : decode cX12_towns 48 = .ok (.invokevirtual 311, 3) := by decide +kernel
theorem dX12_towns_51 : decode cX12_towns 51 = .ok (.iload_n 3, 1) := by decide +kernel
theorem dX12_towns_52 : decode cX12_towns 52 = .ok (.if_icmp .ne 54, 3) := by decide +kernel
theorem dX12_towns_55 : decode cX12_towns 55 = .ok (.aload_n 0, 1) := by decide +kernel
theorem dX12_towns_56 : decode cX12_towns 56 = .ok (.iload 5, 2) := by decide +kernel
theorem dX12_towns_58 : decode cX12_towns 58 = .ok (.iconst 2, 1) := by decide +kernel
theorem dX12_towns_59 : decode cX12_towns 59 = .ok (.invokevirtual 311, 3) := by decide +kernel
theorem dX12_towns_62 : decode cX12_towns 62 = .ok (.aload_n 0, 1) := by decide +kernel
theorem dX12_towns_63 : decode cX12_towns 63 = .ok (.iload_n 1, 1) := by decide +kernel
theorem dX12_towns_64 : decode cX12_towns 64 = .ok (.iconst 1, 1) := by decide +kernel
theorem dX12_towns_65 : decode cX12_towns 65 = .ok (.invokevirtual 375, 3) := by decide +kernel
theorem dX12_towns_68 : decode cX12_towns 68 = .ok (.if_icmp .gt 38, 3) := by decide +kernel
theorem dX12_towns_71 : decode cX12_towns 71 = .ok (.aload_n 0, 1) := by decide +kernel
theorem dX12_towns_72 : decode cX12_towns 72 = .ok (.iload 5, 2) := by decide +kernel
theorem dX12_towns_74 : decode cX12_towns 74 = .ok (.iconst 3, 1) := by decide +kernel
theorem dX12_towns_75 : decode cX12_towns 75 = .ok (.invokevirtual 311, 3) := by decide +kernel
theorem dX12_towns_78 : decode cX12_towns 78 = .ok (.aload_n 0, 1) := by decide +kernel
theorem dX12_towns_79 : decode cX12_towns 79 = .ok (.iload_n 1, 1) := by decide +kernel
theorem dX12_towns_80 : decode cX12_towns 80 = .ok (.iconst 0, 1) := by decide +kernel
theorem dX12_towns_81 : decode cX12_towns 81 = .ok (.invokevirtual 375, 3) := by decide +kernel
theorem dX12_towns_84 : decode cX12_towns 84 = .ok (.if_icmp .lt 22, 3) := by decide +kernel
theorem dX12_towns_87 : decode cX12_towns 87 = .ok (.aload_n 0, 1) := by decide +kernel
theorem dX12_towns_88 : decode cX12_towns 88 = .ok (.aload_n 0, 1) := by decide +kernel
theorem dX12_towns_89 : decode cX12_towns 89 = .ok (.iload 5, 2) := by decide +kernel
theorem dX12_towns_91 : decode cX12_towns 91 = .ok (.iconst 0, 1) := by decide +kernel
theorem dX12_towns_92 : decode cX12_towns 92 = .ok (.invokevirtual 311, 3) := by decide +kernel
theorem dX12_towns_95 : decode cX12_towns 95 = .ok (.iload_n 1, 1) := by decide +kernel
theorem dX12_towns_96 : decode cX12_towns 96 = .ok (.invokevirtual 392, 3) := by decide +kernel
theorem dX12_towns_99 : decode cX12_towns 99 = .ok (.ifCond .eq 7, 3) := by decide +kernel
theorem dX12_towns_102 : decode cX12_towns 102 = .ok (.iconst 1, 1) := by decide +kernel
theorem dX12_towns_103 : decode cX12_towns 103 = .ok (.goto 4, 3) := by decide +kernel
theorem dX12_towns_106 : decode cX12_towns 106 = .ok (.iconst 0, 1) := by decide +kernel
theorem dX12_towns_107 : decode cX12_towns 107 = .ok (.istore 4, 2) := by decide +kernel
theorem dX12_towns_109 : decode cX12_towns 109 = .ok (.iinc 5 1, 3) := by decide +kernel
theorem dX12_towns_112 : decode cX12_towns 112 = .ok (.goto (-86), 3) := by decide +kernel
theorem dX12_towns_115 : decode cX12_towns 115 = .ok (.iload_n 2, 1) := by decide +kernel
theorem dX12_towns_116 : decode cX12_towns 116 = .ok (.iload 4, 2) := by decide +kernel
theorem dX12_towns_118 : decode cX12_towns 118 = .ok (.ifCond .eq 7, 3) := by decide +kernel
theorem dX12_towns_121 : decode cX12_towns 121 = .ok (.iconst 1, 1) := by decide +kernel
theorem dX12_towns_122 : decode cX12_towns 122 = .ok (.goto 4, 3) := by decide +kernel
theorem dX12_towns_125 : decode cX12_towns 125 = .ok (.iconst 0, 1) := by decide +kernel
theorem dX12_towns_126 : decode cX12_towns 126 = .ok (.iadd, 1) := by decide +kernel
theorem dX12_towns_127 : decode cX12_towns 127 = .ok (.istore_n 2, 1) := by decide +kernel
theorem dX12_towns_128 : decode cX12_towns 128 = .ok (.iinc 3 1, 3) := by decide +kernel
theorem dX12_towns_131 : decode cX12_towns 131 = .ok (.goto (-117), 3) := by decide +kernel
theorem dX12_towns_134 : decode cX12_towns 134 = .ok (.iload_n 2, 1) := by decide +kernel
theorem dX12_towns_135 : decode cX12_towns 135 = .ok (.ireturn, 1) := by decide +kernel
theorem dX12_fromOf_0 : decode cX12_fromOf 0 = .ok (.sipush 401, 3) := by decide +kernel
theorem dX12_fromOf_3 : decode cX12_fromOf 3 = .ok (.istore_n 2, 1) := by decide +kernel
theorem dX12_fromOf_4 : decode cX12_fromOf 4 = .ok (.iconst 0, 1) := by decide +kernel
theorem dX12_fromOf_5 : decode cX12_fromOf 5 = .ok (.istore_n 3, 1) := by decide +kernel
theorem dX12_fromOf_6 : decode cX12_fromOf 6 = .ok (.iload_n 3, 1) := by decide +kernel
theorem dX12_fromOf_7 : decode cX12_fromOf 7 = .ok (.aload_n 0, 1) := by decide +kernel
theorem dX12_fromOf_8 : decode cX12_fromOf 8 = .ok (.getfield 20, 3) := by decide +kernel
theorem dX12_fromOf_11 : decode cX12_fromOf 11 = .ok (.sipush 1345, 3) := by decide +kernel
theorem dX12_fromOf_14 : decode cX12_fromOf 14 = .ok (.iaload, 1) := by decide +kernel
theorem dX12_fromOf_15 : decode cX12_fromOf 15 = .ok (.if_icmp .ge 36, 3) := by decide +kernel
theorem dX12_fromOf_18 : decode cX12_fromOf 18 = .ok (.aload_n 0, 1) := by decide +kernel
theorem dX12_fromOf_19 : decode cX12_fromOf 19 = .ok (.iload_n 3, 1) := by decide +kernel
theorem dX12_fromOf_20 : decode cX12_fromOf 20 = .ok (.iconst 0, 1) := by decide +kernel
theorem dX12_fromOf_21 : decode cX12_fromOf 21 = .ok (.invokevirtual 311, 3) := by decide +kernel
theorem dX12_fromOf_24 : decode cX12_fromOf 24 = .ok (.iload_n 1, 1) := by decide +kernel
theorem dX12_fromOf_25 : decode cX12_fromOf 25 = .ok (.if_icmp .ne 20, 3) := by decide +kernel
theorem dX12_fromOf_28 : decode cX12_fromOf 28 = .ok (.aload_n 0, 1) := by decide +kernel
theorem dX12_fromOf_29 : decode cX12_fromOf 29 = .ok (.iload_n 3, 1) := by decide +kernel
theorem dX12_fromOf_30 : decode cX12_fromOf 30 = .ok (.iconst 2, 1) := by decide +kernel
theorem dX12_fromOf_31 : decode cX12_fromOf 31 = .ok (.invokevirtual 311, 3) := by decide +kernel
theorem dX12_fromOf_34 : decode cX12_fromOf 34 = .ok (.iload_n 2, 1) := by decide +kernel
theorem dX12_fromOf_35 : decode cX12_fromOf 35 = .ok (.if_icmp .ge 10, 3) := by decide +kernel
theorem dX12_fromOf_38 : decode cX12_fromOf 38 = .ok (.aload_n 0, 1) := by decide +kernel
theorem dX12_fromOf_39 : decode cX12_fromOf 39 = .ok (.iload_n 3, 1) := by decide +kernel
theorem dX12_fromOf_40 : decode cX12_fromOf 40 = .ok (.iconst 2, 1) := by decide +kernel
theorem dX12_fromOf_41 : decode cX12_fromOf 41 = .ok (.invokevirtual 311, 3) := by decide +kernel
theorem dX12_fromOf_44 : decode cX12_fromOf 44 = .ok (.istore_n 2, 1) := by decide +kernel
theorem dX12_fromOf_45 : decode cX12_fromOf 45 = .ok (.iinc 3 1, 3) := by decide +kernel
theorem dX12_fromOf_48 : decode cX12_fromOf 48 = .ok (.goto (-42), 3) := by decide +kernel
theorem dX12_fromOf_51 : decode cX12_fromOf 51 = .ok (.iload_n 2, 1) := by decide +kernel
theorem dX12_fromOf_52 : decode cX12_fromOf 52 = .ok (.sipush 401, 3) := by decide +kernel
theorem dX12_fromOf_55 : decode cX12_fromOf 55 = .ok (.if_icmp .ne 7, 3) := by decide +kernel
theorem dX12_fromOf_58 : decode cX12_fromOf 58 = .ok (.iconst 0, 1) := by decide +kernel
theorem dX12_fromOf_59 : decode cX12_fromOf 59 = .ok (.goto 4, 3) := by decide +kernel
theorem dX12_fromOf_62 : decode cX12_fromOf 62 = .ok (.iload_n 2, 1) := by decide +kernel
theorem dX12_fromOf_63 : decode cX12_fromOf 63 = .ok (.istore_n 3, 1) := by decide +kernel
theorem dX12_fromOf_64 : decode cX12_fromOf 64 = .ok (.iconst 0, 1) := by decide +kernel
theorem dX12_fromOf_65 : decode cX12_fromOf 65 = .ok (.istore 4, 2) := by decide +kernel
theorem dX12_fromOf_67 : decode cX12_fromOf 67 = .ok (.iload 4, 2) := by decide +kernel
theorem dX12_fromOf_69 : decode cX12_fromOf 69 = .ok (.aload_n 0, 1) := by decide +kernel
theorem dX12_fromOf_70 : decode cX12_fromOf 70 = .ok (.getfield 20, 3) := by decide +kernel
theorem dX12_fromOf_73 : decode cX12_fromOf 73 = .ok (.sipush 1346, 3) := by decide +kernel
theorem dX12_fromOf_76 : decode cX12_fromOf 76 = .ok (.iaload, 1) := by decide +kernel
theorem dX12_fromOf_77 : decode cX12_fromOf 77 = .ok (.if_icmp .ge 38, 3) := by decide +kernel
theorem dX12_fromOf_80 : decode cX12_fromOf 80 = .ok (.aload_n 0, 1) := by decide +kernel
theorem dX12_fromOf_81 : decode cX12_fromOf 81 = .ok (.iload_n 1, 1) := by decide +kernel
theorem dX12_fromOf_82 : decode cX12_fromOf 82 = .ok (.iload 4, 2) := by decide +kernel
theorem dX12_fromOf_84 : decode cX12_fromOf 84 = .ok (.invokevirtual 392, 3) := by decide +kernel
theorem dX12_fromOf_87 : decode cX12_fromOf 87 = .ok (.ifCond .eq 22, 3) := by decide +kernel
theorem dX12_fromOf_90 : decode cX12_fromOf 90 = .ok (.aload_n 0, 1) := by decide +kernel
theorem dX12_fromOf_91 : decode cX12_fromOf 91 = .ok (.iload 4, 2) := by decide +kernel
theorem dX12_fromOf_93 : decode cX12_fromOf 93 = .ok (.iconst 0, 1) := by decide +kernel
theorem dX12_fromOf_94 : decode cX12_fromOf 94 = .ok (.invokevirtual 375, 3) := by decide +kernel
theorem dX12_fromOf_97 : decode cX12_fromOf 97 = .ok (.iload_n 3, 1) := by decide +kernel
theorem dX12_fromOf_98 : decode cX12_fromOf 98 = .ok (.if_icmp .le 11, 3) := by decide +kernel
theorem dX12_fromOf_101 : decode cX12_fromOf 101 = .ok (.aload_n 0, 1) := by decide +kernel
theorem dX12_fromOf_102 : decode cX12_fromOf 102 = .ok (.iload 4, 2) := by decide +kernel
theorem dX12_fromOf_104 : decode cX12_fromOf 104 = .ok (.iconst 0, 1) := by decide +kernel
theorem dX12_fromOf_105 : decode cX12_fromOf 105 = .ok (.invokevirtual 375, 3) := by decide +kernel
theorem dX12_fromOf_108 : decode cX12_fromOf 108 = .ok (.istore_n 3, 1) := by decide +kernel
theorem dX12_fromOf_109 : decode cX12_fromOf 109 = .ok (.iinc 4 1, 3) := by decide +kernel
theorem dX12_fromOf_112 : decode cX12_fromOf 112 = .ok (.goto (-45), 3) := by decide +kernel
theorem dX12_fromOf_115 : decode cX12_fromOf 115 = .ok (.iload_n 3, 1) := by decide +kernel
theorem dX12_fromOf_116 : decode cX12_fromOf 116 = .ok (.ireturn, 1) := by decide +kernel
theorem dX12_toOf_0 : decode cX12_toOf 0 = .ok (.iconst (-1), 1) := by decide +kernel
theorem dX12_toOf_1 : decode cX12_toOf 1 = .ok (.istore_n 2, 1) := by decide +kernel
theorem dX12_toOf_2 : decode cX12_toOf 2 = .ok (.iconst 0, 1) := by decide +kernel
theorem dX12_toOf_3 : decode cX12_toOf 3 = .ok (.istore_n 3, 1) := by decide +kernel
theorem dX12_toOf_4 : decode cX12_toOf 4 = .ok (.iload_n 3, 1) := by decide +kernel
theorem dX12_toOf_5 : decode cX12_toOf 5 = .ok (.aload_n 0, 1) := by decide +kernel
theorem dX12_toOf_6 : decode cX12_toOf 6 = .ok (.getfield 20, 3) := by decide +kernel
theorem dX12_toOf_9 : decode cX12_toOf 9 = .ok (.sipush 1345, 3) := by decide +kernel
theorem dX12_toOf_12 : decode cX12_toOf 12 = .ok (.iaload, 1) := by decide +kernel
theorem dX12_toOf_13 : decode cX12_toOf 13 = .ok (.if_icmp .ge 36, 3) := by decide +kernel
theorem dX12_toOf_16 : decode cX12_toOf 16 = .ok (.aload_n 0, 1) := by decide +kernel
theorem dX12_toOf_17 : decode cX12_toOf 17 = .ok (.iload_n 3, 1) := by decide +kernel
theorem dX12_toOf_18 : decode cX12_toOf 18 = .ok (.iconst 0, 1) := by decide +kernel
theorem dX12_toOf_19 : decode cX12_toOf 19 = .ok (.invokevirtual 311, 3) := by decide +kernel
theorem dX12_toOf_22 : decode cX12_toOf 22 = .ok (.iload_n 1, 1) := by decide +kernel
theorem dX12_toOf_23 : decode cX12_toOf 23 = .ok (.if_icmp .ne 20, 3) := by decide +kernel
theorem dX12_toOf_26 : decode cX12_toOf 26 = .ok (.aload_n 0, 1) := by decide +kernel
theorem dX12_toOf_27 : decode cX12_toOf 27 = .ok (.iload_n 3, 1) := by decide +kernel
theorem dX12_toOf_28 : decode cX12_toOf 28 = .ok (.iconst 3, 1) := by decide +kernel
theorem dX12_toOf_29 : decode cX12_toOf 29 = .ok (.invokevirtual 311, 3) := by decide +kernel
theorem dX12_toOf_32 : decode cX12_toOf 32 = .ok (.iload_n 2, 1) := by decide +kernel
theorem dX12_toOf_33 : decode cX12_toOf 33 = .ok (.if_icmp .le 10, 3) := by decide +kernel
theorem dX12_toOf_36 : decode cX12_toOf 36 = .ok (.aload_n 0, 1) := by decide +kernel
theorem dX12_toOf_37 : decode cX12_toOf 37 = .ok (.iload_n 3, 1) := by decide +kernel
theorem dX12_toOf_38 : decode cX12_toOf 38 = .ok (.iconst 3, 1) := by decide +kernel
theorem dX12_toOf_39 : decode cX12_toOf 39 = .ok (.invokevirtual 311, 3) := by decide +kernel
theorem dX12_toOf_42 : decode cX12_toOf 42 = .ok (.istore_n 2, 1) := by decide +kernel
theorem dX12_toOf_43 : decode cX12_toOf 43 = .ok (.iinc 3 1, 3) := by decide +kernel
theorem dX12_toOf_46 : decode cX12_toOf 46 = .ok (.goto (-42), 3) := by decide +kernel
theorem dX12_toOf_49 : decode cX12_toOf 49 = .ok (.iload_n 2, 1) := by decide +kernel
theorem dX12_toOf_50 : decode cX12_toOf 50 = .ok (.iconst (-1), 1) := by decide +kernel
theorem dX12_toOf_51 : decode cX12_toOf 51 = .ok (.if_icmp .ne 9, 3) := by decide +kernel
theorem dX12_toOf_54 : decode cX12_toOf 54 = .ok (.sipush 400, 3) := by decide +kernel
theorem dX12_toOf_57 : decode cX12_toOf 57 = .ok (.goto 4, 3) := by decide +kernel
theorem dX12_toOf_60 : decode cX12_toOf 60 = .ok (.iload_n 2, 1) := by decide +kernel
theorem dX12_toOf_61 : decode cX12_toOf 61 = .ok (.istore_n 3, 1) := by decide +kernel
theorem dX12_toOf_62 : decode cX12_toOf 62 = .ok (.iconst 0, 1) := by decide +kernel
theorem dX12_toOf_63 : decode cX12_toOf 63 = .ok (.istore 4, 2) := by decide +kernel
theorem dX12_toOf_65 : decode cX12_toOf 65 = .ok (.iload 4, 2) := by decide +kernel
theorem dX12_toOf_67 : decode cX12_toOf 67 = .ok (.aload_n 0, 1) := by decide +kernel
theorem dX12_toOf_68 : decode cX12_toOf 68 = .ok (.getfield 20, 3) := by decide +kernel
theorem dX12_toOf_71 : decode cX12_toOf 71 = .ok (.sipush 1346, 3) := by decide +kernel
theorem dX12_toOf_74 : decode cX12_toOf 74 = .ok (.iaload, 1) := by decide +kernel
theorem dX12_toOf_75 : decode cX12_toOf 75 = .ok (.if_icmp .ge 38, 3) := by decide +kernel
theorem dX12_toOf_78 : decode cX12_toOf 78 = .ok (.aload_n 0, 1) := by decide +kernel
theorem dX12_toOf_79 : decode cX12_toOf 79 = .ok (.iload_n 1, 1) := by decide +kernel
theorem dX12_toOf_80 : decode cX12_toOf 80 = .ok (.iload 4, 2) := by decide +kernel
theorem dX12_toOf_82 : decode cX12_toOf 82 = .ok (.invokevirtual 392, 3) := by decide +kernel
theorem dX12_toOf_85 : decode cX12_toOf 85 = .ok (.ifCond .eq 22, 3) := by decide +kernel
theorem dX12_toOf_88 : decode cX12_toOf 88 = .ok (.aload_n 0, 1) := by decide +kernel
theorem dX12_toOf_89 : decode cX12_toOf 89 = .ok (.iload 4, 2) := by decide +kernel
theorem dX12_toOf_91 : decode cX12_toOf 91 = .ok (.iconst 1, 1) := by decide +kernel
theorem dX12_toOf_92 : decode cX12_toOf 92 = .ok (.invokevirtual 375, 3) := by decide +kernel
theorem dX12_toOf_95 : decode cX12_toOf 95 = .ok (.iload_n 3, 1) := by decide +kernel
theorem dX12_toOf_96 : decode cX12_toOf 96 = .ok (.if_icmp .ge 11, 3) := by decide +kernel
theorem dX12_toOf_99 : decode cX12_toOf 99 = .ok (.aload_n 0, 1) := by decide +kernel
theorem dX12_toOf_100 : decode cX12_toOf 100 = .ok (.iload 4, 2) := by decide +kernel
theorem dX12_toOf_102 : decode cX12_toOf 102 = .ok (.iconst 1, 1) := by decide +kernel
theorem dX12_toOf_103 : decode cX12_toOf 103 = .ok (.invokevirtual 375, 3) := by decide +kernel
theorem dX12_toOf_106 : decode cX12_toOf 106 = .ok (.istore_n 3, 1) := by decide +kernel
theorem dX12_toOf_107 : decode cX12_toOf 107 = .ok (.iinc 4 1, 3) := by decide +kernel
theorem dX12_toOf_110 : decode cX12_toOf 110 = .ok (.goto (-45), 3) := by decide +kernel
theorem dX12_toOf_113 : decode cX12_toOf 113 = .ok (.iload_n 3, 1) := by decide +kernel
theorem dX12_toOf_114 : decode cX12_toOf 114 = .ok (.ireturn, 1) := by decide +kernel
theorem dX12_dates_0 : decode cX12_dates 0 = .ok (.aload_n 0, 1) := by decide +kernel
theorem dX12_dates_1 : decode cX12_dates 1 = .ok (.iload_n 1, 1) := by decide +kernel
theorem dX12_dates_2 : decode cX12_dates 2 = .ok (.invokevirtual 128, 3) := by decide +kernel
theorem dX12_dates_5 : decode cX12_dates 5 = .ok (.ifCond .eq 12, 3) := by decide +kernel
theorem dX12_dates_8 : decode cX12_dates 8 = .ok (.iload_n 2, 1) := by decide +kernel
theorem dX12_dates_9 : decode cX12_dates 9 = .ok (.iconst 0, 1) := by decide +kernel
theorem dX12_dates_10 : decode cX12_dates 10 = .ok (.iconst 3, 1) := by decide +kernel
theorem dX12_dates_11 : decode cX12_dates 11 = .ok (.invokestatic 113, 3) := by decide +kernel
theorem dX12_dates_14 : decode cX12_dates 14 = .ok (.ifCond .ne 5, 3) := by decide +kernel
theorem dX12_dates_17 : decode cX12_dates 17 = .ok (.iconst (-1), 1) := by decide +kernel
theorem dX12_dates_18 : decode cX12_dates 18 = .ok (.ireturn, 1) := by decide +kernel
theorem dX12_dates_19 : decode cX12_dates 19 = .ok (.iload_n 2, 1) := by decide +kernel
theorem dX12_dates_20 : decode cX12_dates 20 = .ok (.iconst 2, 1) := by decide +kernel
theorem dX12_dates_21 : decode cX12_dates 21 = .ok (.if_icmp .ge 21, 3) := by decide +kernel
theorem dX12_dates_24 : decode cX12_dates 24 = .ok (.iload_n 2, 1) := by decide +kernel
theorem dX12_dates_25 : decode cX12_dates 25 = .ok (.ifCond .ne 11, 3) := by decide +kernel
theorem dX12_dates_28 : decode cX12_dates 28 = .ok (.aload_n 0, 1) := by decide +kernel
theorem dX12_dates_29 : decode cX12_dates 29 = .ok (.iload_n 1, 1) := by decide +kernel
theorem dX12_dates_30 : decode cX12_dates 30 = .ok (.invokevirtual 395, 3) := by decide +kernel
theorem dX12_dates_33 : decode cX12_dates 33 = .ok (.goto 8, 3) := by decide +kernel
theorem dX12_dates_36 : decode cX12_dates 36 = .ok (.aload_n 0, 1) := by decide +kernel
theorem dX12_dates_37 : decode cX12_dates 37 = .ok (.iload_n 1, 1) := by decide +kernel
theorem dX12_dates_38 : decode cX12_dates 38 = .ok (.invokevirtual 398, 3) := by decide +kernel
theorem dX12_dates_41 : decode cX12_dates 41 = .ok (.ireturn, 1) := by decide +kernel
theorem dX12_dates_42 : decode cX12_dates 42 = .ok (.aload_n 0, 1) := by decide +kernel
theorem dX12_dates_43 : decode cX12_dates 43 = .ok (.invokevirtual 346, 3) := by decide +kernel
theorem dX12_dates_46 : decode cX12_dates 46 = .ok (.iload_n 2, 1) := by decide +kernel
theorem dX12_dates_47 : decode cX12_dates 47 = .ok (.iconst 2, 1) := by decide +kernel
theorem dX12_dates_48 : decode cX12_dates 48 = .ok (.if_icmp .ne 11, 3) := by decide +kernel
theorem dX12_dates_51 : decode cX12_dates 51 = .ok (.aload_n 0, 1) := by decide +kernel
theorem dX12_dates_52 : decode cX12_dates 52 = .ok (.iload_n 1, 1) := by decide +kernel
theorem dX12_dates_53 : decode cX12_dates 53 = .ok (.invokevirtual 395, 3) := by decide +kernel
theorem dX12_dates_56 : decode cX12_dates 56 = .ok (.goto 8, 3) := by decide +kernel
theorem dX12_dates_59 : decode cX12_dates 59 = .ok (.aload_n 0, 1) := by decide +kernel
theorem dX12_dates_60 : decode cX12_dates 60 = .ok (.iload_n 1, 1) := by decide +kernel
theorem dX12_dates_61 : decode cX12_dates 61 = .ok (.invokevirtual 398, 3) := by decide +kernel
theorem dX12_dates_64 : decode cX12_dates 64 = .ok (.istore_n 3, 1) := by decide +kernel
theorem dX12_dates_65 : decode cX12_dates 65 = .ok (.iconst 0, 1) := by decide +kernel
theorem dX12_dates_66 : decode cX12_dates 66 = .ok (.istore 4, 2) := by decide +kernel
theorem dX12_dates_68 : decode cX12_dates 68 = .ok (.iload 4, 2) := by decide +kernel
theorem dX12_dates_70 : decode cX12_dates 70 = .ok (.aload_n 0, 1) := by decide +kernel
theorem dX12_dates_71 : decode cX12_dates 71 = .ok (.invokevirtual 124, 3) := by decide +kernel
theorem dX12_dates_74 : decode cX12_dates 74 = .ok (.if_icmp .ge 73, 3) := by decide +kernel
theorem dX12_dates_77 : decode cX12_dates 77 = .ok (.iload_n 2, 1) := by decide +kernel
theorem dX12_dates_78 : decode cX12_dates 78 = .ok (.iconst 2, 1) := by decide +kernel
theorem dX12_dates_79 : decode cX12_dates 79 = .ok (.if_icmp .ne 30, 3) := by decide +kernel
theorem dX12_dates_82 : decode cX12_dates 82 = .ok (.aload_n 0, 1) := by decide +kernel
theorem dX12_dates_83 : decode cX12_dates 83 = .ok (.iload_n 1, 1) := by decide +kernel
theorem dX12_dates_84 : decode cX12_dates 84 = .ok (.iload 4, 2) := by decide +kernel
theorem dX12_dates_86 : decode cX12_dates 86 = .ok (.invokevirtual 352, 3) := by decide +kernel
theorem dX12_dates_89 : decode cX12_dates 89 = .ok (.ifCond .eq 20, 3) := by decide +kernel
theorem dX12_dates_92 : decode cX12_dates 92 = .ok (.aload_n 0, 1) := by decide +kernel
theorem dX12_dates_93 : decode cX12_dates 93 = .ok (.iload 4, 2) := by decide +kernel
theorem dX12_dates_95 : decode cX12_dates 95 = .ok (.invokevirtual 395, 3) := by decide +kernel
theorem dX12_dates_98 : decode cX12_dates 98 = .ok (.iload_n 3, 1) := by decide +kernel
theorem dX12_dates_99 : decode cX12_dates 99 = .ok (.if_icmp .le 10, 3) := by decide +kernel
theorem dX12_dates_102 : decode cX12_dates 102 = .ok (.aload_n 0, 1) := by decide +kernel
theorem dX12_dates_103 : decode cX12_dates 103 = .ok (.iload 4, 2) := by decide +kernel
theorem dX12_dates_105 : decode cX12_dates 105 = .ok (.invokevirtual 395, 3) := by decide +kernel
theorem dX12_dates_108 : decode cX12_dates 108 = .ok (.istore_n 3, 1) := by decide +kernel
theorem dX12_dates_109 : decode cX12_dates 109 = .ok (.iload_n 2, 1) := by decide +kernel
theorem dX12_dates_110 : decode cX12_dates 110 = .ok (.iconst 3, 1) := by decide +kernel
theorem dX12_dates_111 : decode cX12_dates 111 = .ok (.if_icmp .ne 30, 3) := by decide +kernel
theorem dX12_dates_114 : decode cX12_dates 114 = .ok (.aload_n 0, 1) := by decide +kernel
theorem dX12_dates_115 : decode cX12_dates 115 = .ok (.iload 4, 2) := by decide +kernel
theorem dX12_dates_117 : decode cX12_dates 117 = .ok (.iload_n 1, 1) := by decide +kernel
theorem dX12_dates_118 : decode cX12_dates 118 = .ok (.invokevirtual 352, 3) := by decide +kernel
theorem dX12_dates_121 : decode cX12_dates 121 = .ok (.ifCond .eq 20, 3) := by decide +kernel
theorem dX12_dates_124 : decode cX12_dates 124 = .ok (.aload_n 0, 1) := by decide +kernel
theorem dX12_dates_125 : decode cX12_dates 125 = .ok (.iload 4, 2) := by decide +kernel
theorem dX12_dates_127 : decode cX12_dates 127 = .ok (.invokevirtual 398, 3) := by decide +kernel
theorem dX12_dates_130 : decode cX12_dates 130 = .ok (.iload_n 3, 1) := by decide +kernel
theorem dX12_dates_131 : decode cX12_dates 131 = .ok (.if_icmp .ge 10, 3) := by decide +kernel
theorem dX12_dates_134 : decode cX12_dates 134 = .ok (.aload_n 0, 1) := by decide +kernel
theorem dX12_dates_135 : decode cX12_dates 135 = .ok (.iload 4, 2) := by decide +kernel
theorem dX12_dates_137 : decode cX12_dates 137 = .ok (.invokevirtual 398, 3) := by decide +kernel
theorem dX12_dates_140 : decode cX12_dates 140 = .ok (.istore_n 3, 1) := by decide +kernel
theorem dX12_dates_141 : decode cX12_dates 141 = .ok (.iinc 4 1, 3) := by decide +kernel
theorem dX12_dates_144 : decode cX12_dates 144 = .ok (.goto (-76), 3) := by decide +kernel
theorem dX12_dates_147 : decode cX12_dates 147 = .ok (.iload_n 3, 1) := by decide +kernel
theorem dX12_dates_148 : decode cX12_dates 148 = .ok (.ireturn, 1) := by decide +kernel
theorem dX12_isNoted_0 : decode cX12_isNoted 0 = .ok (.iconst 0, 1) := by decide +kernel
theorem dX12_isNoted_1 : decode cX12_isNoted 1 = .ok (.istore_n 3, 1) := by decide +kernel
theorem dX12_isNoted_2 : decode cX12_isNoted 2 = .ok (.iconst 0, 1) := by decide +kernel
theorem dX12_isNoted_3 : decode cX12_isNoted 3 = .ok (.istore 4, 2) := by decide +kernel
theorem dX12_isNoted_5 : decode cX12_isNoted 5 = .ok (.iload 4, 2) := by decide +kernel
theorem dX12_isNoted_7 : decode cX12_isNoted 7 = .ok (.aload_n 0, 1) := by decide +kernel
theorem dX12_isNoted_8 : decode cX12_isNoted 8 = .ok (.getfield 20, 3) := by decide +kernel
theorem dX12_isNoted_11 : decode cX12_isNoted 11 = .ok (.sipush 1347, 3) := by decide +kernel
theorem dX12_isNoted_14 : decode cX12_isNoted 14 = .ok (.iaload, 1) := by decide +kernel
theorem dX12_isNoted_15 : decode cX12_isNoted 15 = .ok (.if_icmp .ge 53, 3) := by decide +kernel
theorem dX12_isNoted_18 : decode cX12_isNoted 18 = .ok (.iload_n 3, 1) := by decide +kernel
theorem dX12_isNoted_19 : decode cX12_isNoted 19 = .ok (.ifCond .ne 37, 3) := by decide +kernel
theorem dX12_isNoted_22 : decode cX12_isNoted 22 = .ok (.aload_n 0, 1) := by decide +kernel
theorem dX12_isNoted_23 : decode cX12_isNoted 23 = .ok (.iload 4, 2) := by decide +kernel
theorem dX12_isNoted_25 : decode cX12_isNoted 25 = .ok (.iconst 0, 1) := by decide +kernel
theorem dX12_isNoted_26 : decode cX12_isNoted 26 = .ok (.invokevirtual 143, 3) := by decide +kernel
theorem dX12_isNoted_29 : decode cX12_isNoted 29 = .ok (.iload_n 1, 1) := by decide +kernel
theorem dX12_isNoted_30 : decode cX12_isNoted 30 = .ok (.if_icmp .ne 30, 3) := by decide +kernel
theorem dX12_isNoted_33 : decode cX12_isNoted 33 = .ok (.aload_n 0, 1) := by decide +kernel
theorem dX12_isNoted_34 : decode cX12_isNoted 34 = .ok (.iload 4, 2) := by decide +kernel
theorem dX12_isNoted_36 : decode cX12_isNoted 36 = .ok (.iconst 4, 1) := by decide +kernel
theorem dX12_isNoted_37 : decode cX12_isNoted 37 = .ok (.invokevirtual 143, 3) := by decide +kernel
theorem dX12_isNoted_40 : decode cX12_isNoted 40 = .ok (.ifCond .ne 20, 3) := by decide +kernel
theorem dX12_isNoted_43 : decode cX12_isNoted 43 = .ok (.aload_n 0, 1) := by decide +kernel
theorem dX12_isNoted_44 : decode cX12_isNoted 44 = .ok (.iload 4, 2) := by decide +kernel
theorem dX12_isNoted_46 : decode cX12_isNoted 46 = .ok (.iconst 1, 1) := by decide +kernel
theorem dX12_isNoted_47 : decode cX12_isNoted 47 = .ok (.invokevirtual 143, 3) := by decide +kernel
theorem dX12_isNoted_50 : decode cX12_isNoted 50 = .ok (.iconst 5, 1) := by decide +kernel
theorem dX12_isNoted_51 : decode cX12_isNoted 51 = .ok (.idiv, 1) := by decide +kernel
theorem dX12_isNoted_52 : decode cX12_isNoted 52 = .ok (.iload_n 2, 1) := by decide +kernel
theorem dX12_isNoted_53 : decode cX12_isNoted 53 = .ok (.if_icmp .ne 7, 3) := by decide +kernel
theorem dX12_isNoted_56 : decode cX12_isNoted 56 = .ok (.iconst 1, 1) := by decide +kernel
theorem dX12_isNoted_57 : decode cX12_isNoted 57 = .ok (.goto 4, 3) := by decide +kernel
theorem dX12_isNoted_60 : decode cX12_isNoted 60 = .ok (.iconst 0, 1) := by decide +kernel
theorem dX12_isNoted_61 : decode cX12_isNoted 61 = .ok (.istore_n 3, 1) := by decide +kernel
theorem dX12_isNoted_62 : decode cX12_isNoted 62 = .ok (.iinc 4 1, 3) := by decide +kernel
theorem dX12_isNoted_65 : decode cX12_isNoted 65 = .ok (.goto (-60), 3) := by decide +kernel
theorem dX12_isNoted_68 : decode cX12_isNoted 68 = .ok (.iload_n 3, 1) := by decide +kernel
theorem dX12_isNoted_69 : decode cX12_isNoted 69 = .ok (.ireturn, 1) := by decide +kernel
theorem dX12_stops_0 : decode cX12_stops 0 = .ok (.aload_n 0, 1) := by decide +kernel
theorem dX12_stops_1 : decode cX12_stops 1 = .ok (.iload_n 1, 1) := by decide +kernel
theorem dX12_stops_2 : decode cX12_stops 2 = .ok (.invokevirtual 128, 3) := by decide +kernel
theorem dX12_stops_5 : decode cX12_stops 5 = .ok (.ifCond .eq 12, 3) := by decide +kernel
theorem dX12_stops_8 : decode cX12_stops 8 = .ok (.iload_n 2, 1) := by decide +kernel
theorem dX12_stops_9 : decode cX12_stops 9 = .ok (.iconst 0, 1) := by decide +kernel
theorem dX12_stops_10 : decode cX12_stops 10 = .ok (.iconst 1, 1) := by decide +kernel
theorem dX12_stops_11 : decode cX12_stops 11 = .ok (.invokestatic 113, 3) := by decide +kernel
theorem dX12_stops_14 : decode cX12_stops 14 = .ok (.ifCond .ne 5, 3) := by decide +kernel
theorem dX12_stops_17 : decode cX12_stops 17 = .ok (.iconst (-1), 1) := by decide +kernel
theorem dX12_stops_18 : decode cX12_stops 18 = .ok (.ireturn, 1) := by decide +kernel
theorem dX12_stops_19 : decode cX12_stops 19 = .ok (.iconst 0, 1) := by decide +kernel
theorem dX12_stops_20 : decode cX12_stops 20 = .ok (.istore_n 3, 1) := by decide +kernel
theorem dX12_stops_21 : decode cX12_stops 21 = .ok (.iconst (-1), 1) := by decide +kernel
theorem dX12_stops_22 : decode cX12_stops 22 = .ok (.istore 4, 2) := by decide +kernel
theorem dX12_stops_24 : decode cX12_stops 24 = .ok (.iconst 0, 1) := by decide +kernel
theorem dX12_stops_25 : decode cX12_stops 25 = .ok (.istore 5, 2) := by decide +kernel
theorem dX12_stops_27 : decode cX12_stops 27 = .ok (.iload 5, 2) := by decide +kernel
theorem dX12_stops_29 : decode cX12_stops 29 = .ok (.bipush 12, 2) := by decide +kernel
theorem dX12_stops_31 : decode cX12_stops 31 = .ok (.if_icmp .ge 29, 3) := by decide +kernel
theorem dX12_stops_34 : decode cX12_stops 34 = .ok (.aload_n 0, 1) := by decide +kernel
theorem dX12_stops_35 : decode cX12_stops 35 = .ok (.iload_n 1, 1) := by decide +kernel
theorem dX12_stops_36 : decode cX12_stops 36 = .ok (.iload 5, 2) := by decide +kernel
theorem dX12_stops_38 : decode cX12_stops 38 = .ok (.invokevirtual 401, 3) := by decide +kernel
theorem dX12_stops_41 : decode cX12_stops 41 = .ok (.ifCond .ne 6, 3) := by decide +kernel
theorem dX12_stops_44 : decode cX12_stops 44 = .ok (.goto 10, 3) := by decide +kernel
theorem dX12_stops_47 : decode cX12_stops 47 = .ok (.iinc 3 1, 3) := by decide +kernel
theorem dX12_stops_50 : decode cX12_stops 50 = .ok (.iload 5, 2) := by decide +kernel
theorem dX12_stops_52 : decode cX12_stops 52 = .ok (.istore 4, 2) := by decide +kernel
theorem dX12_stops_54 : decode cX12_stops 54 = .ok (.iinc 5 1, 3) := by decide +kernel
theorem dX12_stops_57 : decode cX12_stops 57 = .ok (.goto (-30), 3) := by decide +kernel
theorem dX12_stops_60 : decode cX12_stops 60 = .ok (.iload_n 2, 1) := by decide +kernel
theorem dX12_stops_61 : decode cX12_stops 61 = .ok (.ifCond .ne 7, 3) := by decide +kernel
theorem dX12_stops_64 : decode cX12_stops 64 = .ok (.iload_n 3, 1) := by decide +kernel
theorem dX12_stops_65 : decode cX12_stops 65 = .ok (.goto 5, 3) := by decide +kernel
theorem dX12_stops_68 : decode cX12_stops 68 = .ok (.iload 4, 2) := by decide +kernel
theorem dX12_stops_70 : decode cX12_stops 70 = .ok (.ireturn, 1) := by decide +kernel
theorem dX12_chanceOf_0 : decode cX12_chanceOf 0 = .ok (.aload_n 0, 1) := by decide +kernel
theorem dX12_chanceOf_1 : decode cX12_chanceOf 1 = .ok (.getfield 95, 3) := by decide +kernel
theorem dX12_chanceOf_4 : decode cX12_chanceOf 4 = .ok (.lconst 1, 1) := by decide +kernel
theorem dX12_chanceOf_5 : decode cX12_chanceOf 5 = .ok (.invokestatic 378, 3) := by decide +kernel
theorem dX12_chanceOf_8 : decode cX12_chanceOf 8 = .ok (.iconst 1, 1) := by decide +kernel
theorem dX12_chanceOf_9 : decode cX12_chanceOf 9 = .ok (.istore_n 3, 1) := by decide +kernel
theorem dX12_chanceOf_10 : decode cX12_chanceOf 10 = .ok (.iload_n 3, 1) := by decide +kernel
theorem dX12_chanceOf_11 : decode cX12_chanceOf 11 = .ok (.bipush 12, 2) := by decide +kernel
theorem dX12_chanceOf_13 : decode cX12_chanceOf 13 = .ok (.if_icmp .ge 50, 3) := by decide +kernel
theorem dX12_chanceOf_16 : decode cX12_chanceOf 16 = .ok (.aload_n 0, 1) := by decide +kernel
theorem dX12_chanceOf_17 : decode cX12_chanceOf 17 = .ok (.getfield 95, 3) := by decide +kernel
theorem dX12_chanceOf_20 : decode cX12_chanceOf 20 = .ok (.iload_n 3, 1) := by decide +kernel
theorem dX12_chanceOf_21 : decode cX12_chanceOf 21 = .ok (.iload_n 2, 1) := by decide +kernel
theorem dX12_chanceOf_22 : decode cX12_chanceOf 22 = .ok (.if_icmp .ge 12, 3) := by decide +kernel
theorem dX12_chanceOf_25 : decode cX12_chanceOf 25 = .ok (.aload_n 0, 1) := by decide +kernel
theorem dX12_chanceOf_26 : decode cX12_chanceOf 26 = .ok (.getfield 89, 3) := by decide +kernel
theorem dX12_chanceOf_29 : decode cX12_chanceOf 29 = .ok (.iload_n 3, 1) := by decide +kernel
theorem dX12_chanceOf_30 : decode cX12_chanceOf 30 = .ok (.iaload, 1) := by decide +kernel
theorem dX12_chanceOf_31 : decode cX12_chanceOf 31 = .ok (.goto 22, 3) := by decide +kernel
theorem dX12_chanceOf_34 : decode cX12_chanceOf 34 = .ok (.iload_n 3, 1) := by decide +kernel
theorem dX12_chanceOf_35 : decode cX12_chanceOf 35 = .ok (.iload_n 2, 1) := by decide +kernel
theorem dX12_chanceOf_36 : decode cX12_chanceOf 36 = .ok (.if_icmp .ne 15, 3) := by decide +kernel
theorem dX12_chanceOf_39 : decode cX12_chanceOf 39 = .ok (.bipush 100, 2) := by decide +kernel
theorem dX12_chanceOf_41 : decode cX12_chanceOf 41 = .ok (.aload_n 0, 1) := by decide +kernel
theorem dX12_chanceOf_42 : decode cX12_chanceOf 42 = .ok (.getfield 89, 3) := by decide +kernel
theorem dX12_chanceOf_45 : decode cX12_chanceOf 45 = .ok (.iload_n 3, 1) := by decide +kernel
theorem dX12_chanceOf_46 : decode cX12_chanceOf 46 = .ok (.iaload, 1) := by decide +kernel
theorem dX12_chanceOf_47 : decode cX12_chanceOf 47 = .ok (.isub, 1) := by decide +kernel
theorem dX12_chanceOf_48 : decode cX12_chanceOf 48 = .ok (.goto 5, 3) := by decide +kernel
theorem dX12_chanceOf_51 : decode cX12_chanceOf 51 = .ok (.bipush 100, 2) := by decide +kernel
theorem dX12_chanceOf_53 : decode cX12_chanceOf 53 = .ok (.iconst 1, 1) := by decide +kernel
theorem dX12_chanceOf_54 : decode cX12_chanceOf 54 = .ok (.invokestatic 367, 3) := by decide +kernel
theorem dX12_chanceOf_57 : decode cX12_chanceOf 57 = .ok (.iinc 3 1, 3) := by decide +kernel
theorem dX12_chanceOf_60 : decode cX12_chanceOf 60 = .ok (.goto (-50), 3) := by decide +kernel
theorem dX12_chanceOf_63 : decode cX12_chanceOf 63 = .ok (.iconst 0, 1) := by decide +kernel
theorem dX12_chanceOf_64 : decode cX12_chanceOf 64 = .ok (.istore_n 3, 1) := by decide +kernel
theorem dX12_chanceOf_65 : decode cX12_chanceOf 65 = .ok (.iload_n 3, 1) := by decide +kernel
theorem dX12_chanceOf_66 : decode cX12_chanceOf 66 = .ok (.bipush 12, 2) := by decide +kernel
theorem dX12_chanceOf_68 : decode cX12_chanceOf 68 = .ok (.if_icmp .ge 67, 3) := by decide +kernel
theorem dX12_chanceOf_71 : decode cX12_chanceOf 71 = .ok (.aload_n 0, 1) := by decide +kernel
theorem dX12_chanceOf_72 : decode cX12_chanceOf 72 = .ok (.iload_n 1, 1) := by decide +kernel
theorem dX12_chanceOf_73 : decode cX12_chanceOf 73 = .ok (.iload_n 3, 1) := by decide +kernel
theorem dX12_chanceOf_74 : decode cX12_chanceOf 74 = .ok (.invokevirtual 401, 3) := by decide +kernel
theorem dX12_chanceOf_77 : decode cX12_chanceOf 77 = .ok (.istore 4, 2) := by decide +kernel
theorem dX12_chanceOf_79 : decode cX12_chanceOf 79 = .ok (.aload_n 0, 1) := by decide +kernel
theorem dX12_chanceOf_80 : decode cX12_chanceOf 80 = .ok (.getfield 95, 3) := by decide +kernel
theorem dX12_chanceOf_83 : decode cX12_chanceOf 83 = .ok (.iload_n 3, 1) := by decide +kernel
theorem dX12_chanceOf_84 : decode cX12_chanceOf 84 = .ok (.iload_n 2, 1) := by decide +kernel
theorem dX12_chanceOf_85 : decode cX12_chanceOf 85 = .ok (.if_icmp .ge 29, 3) := by decide +kernel
theorem dX12_chanceOf_88 : decode cX12_chanceOf 88 = .ok (.iload 4, 2) := by decide +kernel
theorem dX12_chanceOf_90 : decode cX12_chanceOf 90 = .ok (.ifCond .eq 12, 3) := by decide +kernel
theorem dX12_chanceOf_93 : decode cX12_chanceOf 93 = .ok (.aload_n 0, 1) := by decide +kernel
theorem dX12_chanceOf_94 : decode cX12_chanceOf 94 = .ok (.getfield 92, 3) := by decide +kernel
theorem dX12_chanceOf_97 : decode cX12_chanceOf 97 = .ok (.iload_n 3, 1) := by decide +kernel
theorem dX12_chanceOf_98 : decode cX12_chanceOf 98 = .ok (.iaload, 1) := by decide +kernel
theorem dX12_chanceOf_99 : decode cX12_chanceOf 99 = .ok (.goto 26, 3) := by decide +kernel
theorem dX12_chanceOf_102 : decode cX12_chanceOf 102 = .ok (.bipush 100, 2) := by decide +kernel
theorem dX12_chanceOf_104 : decode cX12_chanceOf 104 = .ok (.aload_n 0, 1) := by decide +kernel
theorem dX12_chanceOf_105 : decode cX12_chanceOf 105 = .ok (.getfield 92, 3) := by decide +kernel
theorem dX12_chanceOf_108 : decode cX12_chanceOf 108 = .ok (.iload_n 3, 1) := by decide +kernel
theorem dX12_chanceOf_109 : decode cX12_chanceOf 109 = .ok (.iaload, 1) := by decide +kernel
theorem dX12_chanceOf_110 : decode cX12_chanceOf 110 = .ok (.isub, 1) := by decide +kernel
theorem dX12_chanceOf_111 : decode cX12_chanceOf 111 = .ok (.goto 14, 3) := by decide +kernel
theorem dX12_chanceOf_114 : decode cX12_chanceOf 114 = .ok (.iload 4, 2) := by decide +kernel
theorem dX12_chanceOf_116 : decode cX12_chanceOf 116 = .ok (.ifCond .eq 7, 3) := by decide +kernel
theorem dX12_chanceOf_119 : decode cX12_chanceOf 119 = .ok (.iconst 0, 1) := by decide +kernel
theorem dX12_chanceOf_120 : decode cX12_chanceOf 120 = .ok (.goto 5, 3) := by decide +kernel
theorem dX12_chanceOf_123 : decode cX12_chanceOf 123 = .ok (.bipush 100, 2) := by decide +kernel
theorem dX12_chanceOf_125 : decode cX12_chanceOf 125 = .ok (.iconst 1, 1) := by decide +kernel
theorem dX12_chanceOf_126 : decode cX12_chanceOf 126 = .ok (.invokestatic 367, 3) := by decide +kernel
theorem dX12_chanceOf_129 : decode cX12_chanceOf 129 = .ok (.iinc 3 1, 3) := by decide +kernel
theorem dX12_chanceOf_132 : decode cX12_chanceOf 132 = .ok (.goto (-67), 3) := by decide +kernel
theorem dX12_chanceOf_135 : decode cX12_chanceOf 135 = .ok (.return_, 1) := by decide +kernel
theorem dX12_read_0 : decode cX12_read 0 = .ok (.aload_n 0, 1) := by decide +kernel
theorem dX12_read_1 : decode cX12_read 1 = .ok (.iload_n 1, 1) := by decide +kernel
theorem dX12_read_2 : decode cX12_read 2 = .ok (.invokevirtual 128, 3) := by decide +kernel
theorem dX12_read_5 : decode cX12_read 5 = .ok (.ifCond .eq 13, 3) := by decide +kernel
theorem dX12_read_8 : decode cX12_read 8 = .ok (.iload_n 2, 1) := by decide +kernel
theorem dX12_read_9 : decode cX12_read 9 = .ok (.iconst 1, 1) := by decide +kernel
theorem dX12_read_10 : decode cX12_read 10 = .ok (.bipush 12, 2) := by decide +kernel
theorem dX12_read_12 : decode cX12_read 12 = .ok (.invokestatic 113, 3) := by decide +kernel
theorem dX12_read_15 : decode cX12_read 15 = .ok (.ifCond .ne 5, 3) := by decide +kernel
theorem dX12_read_18 : decode cX12_read 18 = .ok (.iconst (-1), 1) := by decide +kernel
theorem dX12_read_19 : decode cX12_read 19 = .ok (.ireturn, 1) := by decide +kernel
theorem dX12_read_20 : decode cX12_read 20 = .ok (.iconst 0, 1) := by decide +kernel
theorem dX12_read_21 : decode cX12_read 21 = .ok (.istore_n 3, 1) := by decide +kernel
theorem dX12_read_22 : decode cX12_read 22 = .ok (.iload_n 3, 1) := by decide +kernel
theorem dX12_read_23 : decode cX12_read 23 = .ok (.bipush 12, 2) := by decide +kernel
theorem dX12_read_25 : decode cX12_read 25 = .ok (.if_icmp .ge 37, 3) := by decide +kernel
theorem dX12_read_28 : decode cX12_read 28 = .ok (.aload_n 0, 1) := by decide +kernel
theorem dX12_read_29 : decode cX12_read 29 = .ok (.iload_n 1, 1) := by decide +kernel
theorem dX12_read_30 : decode cX12_read 30 = .ok (.iload_n 3, 1) := by decide +kernel
theorem dX12_read_31 : decode cX12_read 31 = .ok (.invokevirtual 404, 3) := by decide +kernel
theorem dX12_read_34 : decode cX12_read 34 = .ok (.aload_n 0, 1) := by decide +kernel
theorem dX12_read_35 : decode cX12_read 35 = .ok (.getfield 89, 3) := by decide +kernel
theorem dX12_read_38 : decode cX12_read 38 = .ok (.iload_n 3, 1) := by decide +kernel
theorem dX12_read_39 : decode cX12_read 39 = .ok (.aload_n 0, 1) := by decide +kernel
theorem dX12_read_40 : decode cX12_read 40 = .ok (.iconst 2, 1) := by decide +kernel
theorem dX12_read_41 : decode cX12_read 41 = .ok (.invokevirtual 407, 3) := by decide +kernel
theorem dX12_read_44 : decode cX12_read 44 = .ok (.iastore, 1) := by decide +kernel
theorem dX12_read_45 : decode cX12_read 45 = .ok (.aload_n 0, 1) := by decide +kernel
theorem dX12_read_46 : decode cX12_read 46 = .ok (.getfield 92, 3) := by decide +kernel
theorem dX12_read_49 : decode cX12_read 49 = .ok (.iload_n 3, 1) := by decide +kernel
theorem dX12_read_50 : decode cX12_read 50 = .ok (.aload_n 0, 1) := by decide +kernel
theorem dX12_read_51 : decode cX12_read 51 = .ok (.iconst 3, 1) := by decide +kernel
theorem dX12_read_52 : decode cX12_read 52 = .ok (.invokevirtual 407, 3) := by decide +kernel
theorem dX12_read_55 : decode cX12_read 55 = .ok (.iastore, 1) := by decide +kernel
theorem dX12_read_56 : decode cX12_read 56 = .ok (.iinc 3 1, 3) := by decide +kernel
theorem dX12_read_59 : decode cX12_read 59 = .ok (.goto (-37), 3) := by decide +kernel
theorem dX12_read_62 : decode cX12_read 62 = .ok (.aload_n 0, 1) := by decide +kernel
theorem dX12_read_63 : decode cX12_read 63 = .ok (.getfield 79, 3) := by decide +kernel
theorem dX12_read_66 : decode cX12_read 66 = .ok (.lconst 0, 1) := by decide +kernel
theorem dX12_read_67 : decode cX12_read 67 = .ok (.invokestatic 378, 3) := by decide +kernel
theorem dX12_read_70 : decode cX12_read 70 = .ok (.aload_n 0, 1) := by decide +kernel
theorem dX12_read_71 : decode cX12_read 71 = .ok (.getfield 83, 3) := by decide +kernel
theorem dX12_read_74 : decode cX12_read 74 = .ok (.lconst 0, 1) := by decide +kernel
theorem dX12_read_75 : decode cX12_read 75 = .ok (.invokestatic 378, 3) := by decide +kernel
theorem dX12_read_78 : decode cX12_read 78 = .ok (.iconst 1, 1) := by decide +kernel
theorem dX12_read_79 : decode cX12_read 79 = .ok (.istore_n 3, 1) := by decide +kernel
theorem dX12_read_80 : decode cX12_read 80 = .ok (.iload_n 3, 1) := by decide +kernel
theorem dX12_read_81 : decode cX12_read 81 = .ok (.bipush 12, 2) := by decide +kernel
theorem dX12_read_83 : decode cX12_read 83 = .ok (.if_icmp .gt 42, 3) := by decide +kernel
theorem dX12_read_86 : decode cX12_read 86 = .ok (.aload_n 0, 1) := by decide +kernel
theorem dX12_read_87 : decode cX12_read 87 = .ok (.iload_n 1, 1) := by decide +kernel
theorem dX12_read_88 : decode cX12_read 88 = .ok (.iload_n 3, 1) := by decide +kernel
theorem dX12_read_89 : decode cX12_read 89 = .ok (.invokevirtual 410, 3) := by decide +kernel
theorem dX12_read_92 : decode cX12_read 92 = .ok (.aload_n 0, 1) := by decide +kernel
theorem dX12_read_93 : decode cX12_read 93 = .ok (.getfield 83, 3) := by decide +kernel
theorem dX12_read_96 : decode cX12_read 96 = .ok (.aload_n 0, 1) := by decide +kernel
theorem dX12_read_97 : decode cX12_read 97 = .ok (.getfield 95, 3) := by decide +kernel
theorem dX12_read_100 : decode cX12_read 100 = .ok (.invokestatic 413, 3) := by decide +kernel
theorem dX12_read_103 : decode cX12_read 103 = .ok (.iload_n 3, 1) := by decide +kernel
theorem dX12_read_104 : decode cX12_read 104 = .ok (.iload_n 2, 1) := by decide +kernel
theorem dX12_read_105 : decode cX12_read 105 = .ok (.if_icmp .lt 14, 3) := by decide +kernel
theorem dX12_read_108 : decode cX12_read 108 = .ok (.aload_n 0, 1) := by decide +kernel
theorem dX12_read_109 : decode cX12_read 109 = .ok (.getfield 79, 3) := by decide +kernel
theorem dX12_read_112 : decode cX12_read 112 = .ok (.aload_n 0, 1) := by decide +kernel
theorem dX12_read_113 : decode cX12_read 113 = .ok (.getfield 95, 3) := by decide +kernel
theorem dX12_read_116 : decode cX12_read 116 = .ok (.invokestatic 413, 3) := by decide +kernel
theorem dX12_read_119 : decode cX12_read 119 = .ok (.iinc 3 1, 3) := by decide +kernel
theorem dX12_read_122 : decode cX12_read 122 = .ok (.goto (-42), 3) := by decide +kernel
theorem dX12_read_125 : decode cX12_read 125 = .ok (.aload_n 0, 1) := by decide +kernel
theorem dX12_read_126 : decode cX12_read 126 = .ok (.getfield 86, 3) := by decide +kernel
theorem dX12_read_129 : decode cX12_read 129 = .ok (.lconst 0, 1) := by decide +kernel
theorem dX12_read_130 : decode cX12_read 130 = .ok (.invokestatic 378, 3) := by decide +kernel
theorem dX12_read_133 : decode cX12_read 133 = .ok (.aload_n 0, 1) := by decide +kernel
theorem dX12_read_134 : decode cX12_read 134 = .ok (.getfield 83, 3) := by decide +kernel
theorem dX12_read_137 : decode cX12_read 137 = .ok (.aload_n 0, 1) := by decide +kernel
theorem dX12_read_138 : decode cX12_read 138 = .ok (.getfield 86, 3) := by decide +kernel
theorem dX12_read_141 : decode cX12_read 141 = .ok (.invokestatic 371, 3) := by decide +kernel
theorem dX12_read_144 : decode cX12_read 144 = .ok (.ifCond .ne 5, 3) := by decide +kernel
theorem dX12_read_147 : decode cX12_read 147 = .ok (.iconst (-1), 1) := by decide +kernel
theorem dX12_read_148 : decode cX12_read 148 = .ok (.ireturn, 1) := by decide +kernel
theorem dX12_read_149 : decode cX12_read 149 = .ok (.aload_n 0, 1) := by decide +kernel
theorem dX12_read_150 : decode cX12_read 150 = .ok (.getfield 79, 3) := by decide +kernel
theorem dX12_read_153 : decode cX12_read 153 = .ok (.ldc 181, 2) := by decide +kernel
theorem dX12_read_155 : decode cX12_read 155 = .ok (.iconst 1, 1) := by decide +kernel
theorem dX12_read_156 : decode cX12_read 156 = .ok (.invokestatic 367, 3) := by decide +kernel
theorem dX12_read_159 : decode cX12_read 159 = .ok (.aload_n 0, 1) := by decide +kernel
theorem dX12_read_160 : decode cX12_read 160 = .ok (.invokevirtual 389, 3) := by decide +kernel
theorem dX12_read_163 : decode cX12_read 163 = .ok (.ireturn, 1) := by decide +kernel
theorem dX12_isOn_0 : decode cX12_isOn 0 = .ok (.aload_n 0, 1) := by decide +kernel
theorem dX12_isOn_1 : decode cX12_isOn 1 = .ok (.iload_n 1, 1) := by decide +kernel
theorem dX12_isOn_2 : decode cX12_isOn 2 = .ok (.iconst 1, 1) := by decide +kernel
theorem dX12_isOn_3 : decode cX12_isOn 3 = .ok (.invokevirtual 299, 3) := by decide +kernel
theorem dX12_isOn_6 : decode cX12_isOn 6 = .ok (.iload_n 2, 1) := by decide +kernel
theorem dX12_isOn_7 : decode cX12_isOn 7 = .ok (.ishr, 1) := by decide +kernel
theorem dX12_isOn_8 : decode cX12_isOn 8 = .ok (.iconst 1, 1) := by decide +kernel
theorem dX12_isOn_9 : decode cX12_isOn 9 = .ok (.iand, 1) := by decide +kernel
theorem dX12_isOn_10 : decode cX12_isOn 10 = .ok (.iconst 1, 1) := by decide +kernel
theorem dX12_isOn_11 : decode cX12_isOn 11 = .ok (.if_icmp .ne 7, 3) := by decide +kernel
theorem dX12_isOn_14 : decode cX12_isOn 14 = .ok (.iconst 1, 1) := by decide +kernel
theorem dX12_isOn_15 : decode cX12_isOn 15 = .ok (.goto 4, 3) := by decide +kernel
theorem dX12_isOn_18 : decode cX12_isOn 18 = .ok (.iconst 0, 1) := by decide +kernel
theorem dX12_isOn_19 : decode cX12_isOn 19 = .ok (.ireturn, 1) := by decide +kernel
theorem dX12_many_0 : decode cX12_many 0 = .ok (.iload_n 1, 1) := by decide +kernel
theorem dX12_many_1 : decode cX12_many 1 = .ok (.iconst 0, 1) := by decide +kernel
theorem dX12_many_2 : decode cX12_many 2 = .ok (.iconst 5, 1) := by decide +kernel
theorem dX12_many_3 : decode cX12_many 3 = .ok (.invokestatic 113, 3) := by decide +kernel
theorem dX12_many_6 : decode cX12_many 6 = .ok (.ifCond .eq 17, 3) := by decide +kernel
theorem dX12_many_9 : decode cX12_many 9 = .ok (.iload_n 2, 1) := by decide +kernel
theorem dX12_many_10 : decode cX12_many 10 = .ok (.iconst 0, 1) := by decide +kernel
theorem dX12_many_11 : decode cX12_many 11 = .ok (.iconst 5, 1) := by decide +kernel
theorem dX12_many_12 : decode cX12_many 12 = .ok (.invokestatic 113, 3) := by decide +kernel
theorem dX12_many_15 : decode cX12_many 15 = .ok (.ifCond .eq 8, 3) := by decide +kernel
theorem dX12_many_18 : decode cX12_many 18 = .ok (.iload_n 1, 1) := by decide +kernel
theorem dX12_many_19 : decode cX12_many 19 = .ok (.iload_n 2, 1) := by decide +kernel
theorem dX12_many_20 : decode cX12_many 20 = .ok (.if_icmp .ne 5, 3) := by decide +kernel
theorem dX12_many_23 : decode cX12_many 23 = .ok (.iconst (-1), 1) := by decide +kernel
theorem dX12_many_24 : decode cX12_many 24 = .ok (.ireturn, 1) := by decide +kernel
theorem dX12_many_25 : decode cX12_many 25 = .ok (.iconst 0, 1) := by decide +kernel
theorem dX12_many_26 : decode cX12_many 26 = .ok (.istore_n 3, 1) := by decide +kernel
theorem dX12_many_27 : decode cX12_many 27 = .ok (.iconst 0, 1) := by decide +kernel
theorem dX12_many_28 : decode cX12_many 28 = .ok (.istore 4, 2) := by decide +kernel
theorem dX12_many_30 : decode cX12_many 30 = .ok (.iconst 0, 1) := by decide +kernel
theorem dX12_many_31 : decode cX12_many 31 = .ok (.istore 5, 2) := by decide +kernel
theorem dX12_many_33 : decode cX12_many 33 = .ok (.iconst 0, 1) := by decide +kernel
theorem dX12_many_34 : decode cX12_many 34 = .ok (.istore 6, 2) := by decide +kernel
theorem dX12_many_36 : decode cX12_many 36 = .ok (.iload 6, 2) := by decide +kernel
theorem dX12_many_38 : decode cX12_many 38 = .ok (.aload_n 0, 1) := by decide +kernel
theorem dX12_many_39 : decode cX12_many 39 = .ok (.invokevirtual 124, 3) := by decide +kernel
theorem dX12_many_42 : decode cX12_many 42 = .ok (.if_icmp .ge 77, 3) := by decide +kernel
theorem dX12_many_45 : decode cX12_many 45 = .ok (.iload_n 3, 1) := by decide +kernel
theorem dX12_many_46 : decode cX12_many 46 = .ok (.aload_n 0, 1) := by decide +kernel
theorem dX12_many_47 : decode cX12_many 47 = .ok (.iload 6, 2) := by decide +kernel
theorem dX12_many_49 : decode cX12_many 49 = .ok (.iload_n 1, 1) := by decide +kernel
theorem dX12_many_50 : decode cX12_many 50 = .ok (.invokevirtual 417, 3) := by decide +kernel
theorem dX12_many_53 : decode cX12_many 53 = .ok (.ifCond .eq 7, 3) := by decide +kernel
theorem dX12_many_56 : decode cX12_many 56 = .ok (.iconst 1, 1) := by decide +kernel
theorem dX12_many_57 : decode cX12_many 57 = .ok (.goto 4, 3) := by decide +kernel
theorem dX12_many_60 : decode cX12_many 60 = .ok (.iconst 0, 1) := by decide +kernel
theorem dX12_many_61 : decode cX12_many 61 = .ok (.iadd, 1) := by decide +kernel
theorem dX12_many_62 : decode cX12_many 62 = .ok (.istore_n 3, 1) := by decide +kernel
theorem dX12_many_63 : decode cX12_many 63 = .ok (.iload 4, 2) := by decide +kernel
theorem dX12_many_65 : decode cX12_many 65 = .ok (.aload_n 0, 1) := by decide +kernel
theorem dX12_many_66 : decode cX12_many 66 = .ok (.iload 6, 2) := by decide +kernel
theorem dX12_many_68 : decode cX12_many 68 = .ok (.iload_n 2, 1) := by decide +kernel
theorem dX12_many_69 : decode cX12_many 69 = .ok (.invokevirtual 417, 3) := by decide +kernel
theorem dX12_many_72 : decode cX12_many 72 = .ok (.ifCond .eq 7, 3) := by decide +kernel
theorem dX12_many_75 : decode cX12_many 75 = .ok (.iconst 1, 1) := by decide +kernel
theorem dX12_many_76 : decode cX12_many 76 = .ok (.goto 4, 3) := by decide +kernel
theorem dX12_many_79 : decode cX12_many 79 = .ok (.iconst 0, 1) := by decide +kernel
theorem dX12_many_80 : decode cX12_many 80 = .ok (.iadd, 1) := by decide +kernel
theorem dX12_many_81 : decode cX12_many 81 = .ok (.istore 4, 2) := by decide +kernel
theorem dX12_many_83 : decode cX12_many 83 = .ok (.iload 5, 2) := by decide +kernel
theorem dX12_many_85 : decode cX12_many 85 = .ok (.aload_n 0, 1) := by decide +kernel
theorem dX12_many_86 : decode cX12_many 86 = .ok (.iload 6, 2) := by decide +kernel
theorem dX12_many_88 : decode cX12_many 88 = .ok (.iload_n 1, 1) := by decide +kernel
theorem dX12_many_89 : decode cX12_many 89 = .ok (.invokevirtual 417, 3) := by decide +kernel
theorem dX12_many_92 : decode cX12_many 92 = .ok (.ifCond .eq 17, 3) := by decide +kernel
theorem dX12_many_95 : decode cX12_many 95 = .ok (.aload_n 0, 1) := by decide +kernel
theorem dX12_many_96 : decode cX12_many 96 = .ok (.iload 6, 2) := by decide +kernel
theorem dX12_many_98 : decode cX12_many 98 = .ok (.iload_n 2, 1) := by decide +kernel
theorem dX12_many_99 : decode cX12_many 99 = .ok (.invokevirtual 417, 3) := by decide +kernel
theorem dX12_many_102 : decode cX12_many 102 = .ok (.ifCond .eq 7, 3) := by decide +kernel
theorem dX12_many_105 : decode cX12_many 105 = .ok (.iconst 1, 1) := by decide +kernel
theorem dX12_many_106 : decode cX12_many 106 = .ok (.goto 4, 3) := by decide +kernel
theorem dX12_many_109 : decode cX12_many 109 = .ok (.iconst 0, 1) := by decide +kernel
theorem dX12_many_110 : decode cX12_many 110 = .ok (.iadd, 1) := by decide +kernel
theorem dX12_many_111 : decode cX12_many 111 = .ok (.istore 5, 2) := by decide +kernel
theorem dX12_many_113 : decode cX12_many 113 = .ok (.iinc 6 1, 3) := by decide +kernel
theorem dX12_many_116 : decode cX12_many 116 = .ok (.goto (-80), 3) := by decide +kernel
theorem dX12_many_119 : decode cX12_many 119 = .ok (.iload 5, 2) := by decide +kernel
theorem dX12_many_121 : decode cX12_many 121 = .ok (.ifCond .ne 7, 3) := by decide +kernel
theorem dX12_many_124 : decode cX12_many 124 = .ok (.iconst (-1), 1) := by decide +kernel
theorem dX12_many_125 : decode cX12_many 125 = .ok (.goto 10, 3) := by decide +kernel
theorem dX12_many_128 : decode cX12_many 128 = .ok (.iload_n 3, 1) := by decide +kernel
theorem dX12_many_129 : decode cX12_many 129 = .ok (.iload 4, 2) := by decide +kernel
theorem dX12_many_131 : decode cX12_many 131 = .ok (.imul, 1) := by decide +kernel
theorem dX12_many_132 : decode cX12_many 132 = .ok (.iload 5, 2) := by decide +kernel
theorem dX12_many_134 : decode cX12_many 134 = .ok (.idiv, 1) := by decide +kernel
theorem dX12_many_135 : decode cX12_many 135 = .ok (.ireturn, 1) := by decide +kernel
theorem dX12_chao_0 : decode cX12_chao 0 = .ok (.iconst 0, 1) := by decide +kernel
theorem dX12_chao_1 : decode cX12_chao 1 = .ok (.istore_n 1, 1) := by decide +kernel
theorem dX12_chao_2 : decode cX12_chao 2 = .ok (.iconst 0, 1) := by decide +kernel
theorem dX12_chao_3 : decode cX12_chao 3 = .ok (.istore_n 2, 1) := by decide +kernel
theorem dX12_chao_4 : decode cX12_chao 4 = .ok (.iconst 0, 1) := by decide +kernel
theorem dX12_chao_5 : decode cX12_chao 5 = .ok (.istore_n 3, 1) := by decide +kernel
theorem dX12_chao_6 : decode cX12_chao 6 = .ok (.iconst 0, 1) := by decide +kernel
theorem dX12_chao_7 : decode cX12_chao 7 = .ok (.istore 4, 2) := by decide +kernel
theorem dX12_chao_9 : decode cX12_chao 9 = .ok (.iload 4, 2) := by decide +kernel
theorem dX12_chao_11 : decode cX12_chao 11 = .ok (.aload_n 0, 1) := by decide +kernel
theorem dX12_chao_12 : decode cX12_chao 12 = .ok (.invokevirtual 124, 3) := by decide +kernel
theorem dX12_chao_15 : decode cX12_chao 15 = .ok (.if_icmp .ge 90, 3) := by decide +kernel
theorem dX12_chao_18 : decode cX12_chao 18 = .ok (.iconst 0, 1) := by decide +kernel
theorem dX12_chao_19 : decode cX12_chao 19 = .ok (.istore 5, 2) := by decide +kernel
theorem dX12_chao_21 : decode cX12_chao 21 = .ok (.iconst 0, 1) := by decide +kernel
theorem dX12_chao_22 : decode cX12_chao 22 = .ok (.istore 6, 2) := by decide +kernel
theorem dX12_chao_24 : decode cX12_chao 24 = .ok (.iload 6, 2) := by decide +kernel
theorem dX12_chao_26 : decode cX12_chao 26 = .ok (.bipush 6, 2) := by decide +kernel
theorem dX12_chao_28 : decode cX12_chao 28 = .ok (.if_icmp .ge 30, 3) := by decide +kernel
theorem dX12_chao_31 : decode cX12_chao 31 = .ok (.iload 5, 2) := by decide +kernel
theorem dX12_chao_33 : decode cX12_chao 33 = .ok (.aload_n 0, 1) := by decide +kernel
theorem dX12_chao_34 : decode cX12_chao 34 = .ok (.iload 4, 2) := by decide +kernel
theorem dX12_chao_36 : decode cX12_chao 36 = .ok (.iload 6, 2) := by decide +kernel
theorem dX12_chao_38 : decode cX12_chao 38 = .ok (.invokevirtual 417, 3) := by decide +kernel
theorem dX12_chao_41 : decode cX12_chao 41 = .ok (.ifCond .eq 7, 3) := by decide +kernel
theorem dX12_chao_44 : decode cX12_chao 44 = .ok (.iconst 1, 1) := by decide +kernel
theorem dX12_chao_45 : decode cX12_chao 45 = .ok (.goto 4, 3) := by decide +kernel
theorem dX12_chao_48 : decode cX12_chao 48 = .ok (.iconst 0, 1) := by decide +kernel
theorem dX12_chao_49 : decode cX12_chao 49 = .ok (.iadd, 1) := by decide +kernel
theorem dX12_chao_50 : decode cX12_chao 50 = .ok (.istore 5, 2) := by decide +kernel
theorem dX12_chao_52 : decode cX12_chao 52 = .ok (.iinc 6 1, 3) := by decide +kernel
theorem dX12_chao_55 : decode cX12_chao 55 = .ok (.goto (-31), 3) := by decide +kernel
theorem dX12_chao_58 : decode cX12_chao 58 = .ok (.iload_n 1, 1) := by decide +kernel
theorem dX12_chao_59 : decode cX12_chao 59 = .ok (.iload 5, 2) := by decide +kernel
theorem dX12_chao_61 : decode cX12_chao 61 = .ok (.ifCond .le 7, 3) := by decide +kernel
theorem dX12_chao_64 : decode cX12_chao 64 = .ok (.iconst 1, 1) := by decide +kernel
theorem dX12_chao_65 : decode cX12_chao 65 = .ok (.goto 4, 3) := by decide +kernel
theorem dX12_chao_68 : decode cX12_chao 68 = .ok (.iconst 0, 1) := by decide +kernel
theorem dX12_chao_69 : decode cX12_chao 69 = .ok (.iadd, 1) := by decide +kernel
theorem dX12_chao_70 : decode cX12_chao 70 = .ok (.istore_n 1, 1) := by decide +kernel
theorem dX12_chao_71 : decode cX12_chao 71 = .ok (.iload_n 2, 1) := by decide +kernel
theorem dX12_chao_72 : decode cX12_chao 72 = .ok (.iload 5, 2) := by decide +kernel
theorem dX12_chao_74 : decode cX12_chao 74 = .ok (.iconst 1, 1) := by decide +kernel
theorem dX12_chao_75 : decode cX12_chao 75 = .ok (.if_icmp .ne 7, 3) := by decide +kernel
theorem dX12_chao_78 : decode cX12_chao 78 = .ok (.iconst 1, 1) := by decide +kernel
theorem dX12_chao_79 : decode cX12_chao 79 = .ok (.goto 4, 3) := by decide +kernel
theorem dX12_chao_82 : decode cX12_chao 82 = .ok (.iconst 0, 1) := by decide +kernel
theorem dX12_chao_83 : decode cX12_chao 83 = .ok (.iadd, 1) := by decide +kernel
theorem dX12_chao_84 : decode cX12_chao 84 = .ok (.istore_n 2, 1) := by decide +kernel
theorem dX12_chao_85 : decode cX12_chao 85 = .ok (.iload_n 3, 1) := by decide +kernel
theorem dX12_chao_86 : decode cX12_chao 86 = .ok (.iload 5, 2) := by decide +kernel
theorem dX12_chao_88 : decode cX12_chao 88 = .ok (.iconst 2, 1) := by decide +kernel
theorem dX12_chao_89 : decode cX12_chao 89 = .ok (.if_icmp .ne 7, 3) := by decide +kernel
theorem dX12_chao_92 : decode cX12_chao 92 = .ok (.iconst 1, 1) := by decide +kernel
theorem dX12_chao_93 : decode cX12_chao 93 = .ok (.goto 4, 3) := by decide +kernel
theorem dX12_chao_96 : decode cX12_chao 96 = .ok (.iconst 0, 1) := by decide +kernel
theorem dX12_chao_97 : decode cX12_chao 97 = .ok (.iadd, 1) := by decide +kernel
theorem dX12_chao_98 : decode cX12_chao 98 = .ok (.istore_n 3, 1) := by decide +kernel
theorem dX12_chao_99 : decode cX12_chao 99 = .ok (.iinc 4 1, 3) := by decide +kernel
theorem dX12_chao_102 : decode cX12_chao 102 = .ok (.goto (-93), 3) := by decide +kernel
theorem dX12_chao_105 : decode cX12_chao 105 = .ok (.iload_n 1, 1) := by decide +kernel
theorem dX12_chao_106 : decode cX12_chao 106 = .ok (.iload_n 3, 1) := by decide +kernel
theorem dX12_chao_107 : decode cX12_chao 107 = .ok (.ifCond .le 13, 3) := by decide +kernel
theorem dX12_chao_110 : decode cX12_chao 110 = .ok (.iload_n 2, 1) := by decide +kernel
theorem dX12_chao_111 : decode cX12_chao 111 = .ok (.iload_n 2, 1) := by decide +kernel
theorem dX12_chao_112 : decode cX12_chao 112 = .ok (.imul, 1) := by decide +kernel
theorem dX12_chao_113 : decode cX12_chao 113 = .ok (.iconst 2, 1) := by decide +kernel
theorem dX12_chao_114 : decode cX12_chao 114 = .ok (.iload_n 3, 1) := by decide +kernel
theorem dX12_chao_115 : decode cX12_chao 115 = .ok (.imul, 1) := by decide +kernel
theorem dX12_chao_116 : decode cX12_chao 116 = .ok (.idiv, 1) := by decide +kernel
theorem dX12_chao_117 : decode cX12_chao 117 = .ok (.goto 10, 3) := by decide +kernel
theorem dX12_chao_120 : decode cX12_chao 120 = .ok (.iload_n 2, 1) := by decide +kernel
theorem dX12_chao_121 : decode cX12_chao 121 = .ok (.iload_n 2, 1) := by decide +kernel
theorem dX12_chao_122 : decode cX12_chao 122 = .ok (.iconst 1, 1) := by decide +kernel
theorem dX12_chao_123 : decode cX12_chao 123 = .ok (.isub, 1) := by decide +kernel
theorem dX12_chao_124 : decode cX12_chao 124 = .ok (.imul, 1) := by decide +kernel
theorem dX12_chao_125 : decode cX12_chao 125 = .ok (.iconst 2, 1) := by decide +kernel
theorem dX12_chao_126 : decode cX12_chao 126 = .ok (.idiv, 1) := by decide +kernel
theorem dX12_chao_127 : decode cX12_chao 127 = .ok (.iadd, 1) := by decide +kernel
theorem dX12_chao_128 : decode cX12_chao 128 = .ok (.ireturn, 1) := by decide +kernel
theorem dX12_isStruck_0 : decode cX12_isStruck 0 = .ok (.aload_n 0, 1) := by decide +kernel
theorem dX12_isStruck_1 : decode cX12_isStruck 1 = .ok (.invokevirtual 296, 3) := by decide +kernel
theorem dX12_isStruck_4 : decode cX12_isStruck 4 = .ok (.aload_n 0, 1) := by decide +kernel
theorem dX12_isStruck_5 : decode cX12_isStruck 5 = .ok (.getfield 52, 3) := by decide +kernel
theorem dX12_isStruck_8 : decode cX12_isStruck 8 = .ok (.iconst 0, 1) := by decide +kernel
theorem dX12_isStruck_9 : decode cX12_isStruck 9 = .ok (.iload_n 2, 1) := by decide +kernel
theorem dX12_isStruck_10 : decode cX12_isStruck 10 = .ok (.iastore, 1) := by decide +kernel
theorem dX12_isStruck_11 : decode cX12_isStruck 11 = .ok (.aload_n 0, 1) := by decide +kernel
theorem dX12_isStruck_12 : decode cX12_isStruck 12 = .ok (.getfield 52, 3) := by decide +kernel
theorem dX12_isStruck_15 : decode cX12_isStruck 15 = .ok (.iconst 1, 1) := by decide +kernel
theorem dX12_isStruck_16 : decode cX12_isStruck 16 = .ok (.iload_n 2, 1) := by decide +kernel
theorem dX12_isStruck_17 : decode cX12_isStruck 17 = .ok (.iconst 5, 1) := by decide +kernel
theorem dX12_isStruck_18 : decode cX12_isStruck 18 = .ok (.idiv, 1) := by decide +kernel
theorem dX12_isStruck_19 : decode cX12_isStruck 19 = .ok (.iastore, 1) := by decide +kernel
theorem dX12_isStruck_20 : decode cX12_isStruck 20 = .ok (.aload_n 0, 1) := by decide +kernel
theorem dX12_isStruck_21 : decode cX12_isStruck 21 = .ok (.iload_n 1, 1) := by decide +kernel
theorem dX12_isStruck_22 : decode cX12_isStruck 22 = .ok (.bipush 7, 2) := by decide +kernel
theorem dX12_isStruck_24 : decode cX12_isStruck 24 = .ok (.invokevirtual 302, 3) := by decide +kernel
theorem dX12_isStruck_27 : decode cX12_isStruck 27 = .ok (.aload_n 0, 1) := by decide +kernel
theorem dX12_isStruck_28 : decode cX12_isStruck 28 = .ok (.getfield 293, 3) := by decide +kernel
theorem dX12_isStruck_31 : decode cX12_isStruck 31 = .ok (.ireturn, 1) := by decide +kernel
theorem dX12_censor_0 : decode cX12_censor 0 = .ok (.iload_n 1, 1) := by decide +kernel
theorem dX12_censor_1 : decode cX12_censor 1 = .ok (.iconst 0, 1) := by decide +kernel
theorem dX12_censor_2 : decode cX12_censor 2 = .ok (.bipush 7, 2) := by decide +kernel
theorem dX12_censor_4 : decode cX12_censor 4 = .ok (.invokestatic 113, 3) := by decide +kernel
theorem dX12_censor_7 : decode cX12_censor 7 = .ok (.ifCond .eq 20, 3) := by decide +kernel
theorem dX12_censor_10 : decode cX12_censor 10 = .ok (.aload_n 0, 1) := by decide +kernel
theorem dX12_censor_11 : decode cX12_censor 11 = .ok (.iload_n 2, 1) := by decide +kernel
theorem dX12_censor_12 : decode cX12_censor 12 = .ok (.invokevirtual 239, 3) := by decide +kernel
theorem dX12_censor_15 : decode cX12_censor 15 = .ok (.ifCond .eq 12, 3) := by decide +kernel
theorem dX12_censor_18 : decode cX12_censor 18 = .ok (.iload_n 3, 1) := by decide +kernel
theorem dX12_censor_19 : decode cX12_censor 19 = .ok (.iconst 0, 1) := by decide +kernel
theorem dX12_censor_20 : decode cX12_censor 20 = .ok (.iconst 5, 1) := by decide +kernel
theorem dX12_censor_21 : decode cX12_censor 21 = .ok (.invokestatic 113, 3) := by decide +kernel
theorem dX12_censor_24 : decode cX12_censor 24 = .ok (.ifCond .ne 5, 3) := by decide +kernel
theorem dX12_censor_27 : decode cX12_censor 27 = .ok (.iconst (-1), 1) := by decide +kernel
theorem dX12_censor_28 : decode cX12_censor 28 = .ok (.ireturn, 1) := by decide +kernel
theorem dX12_censor_29 : decode cX12_censor 29 = .ok (.iconst 0, 1) := by decide +kernel
theorem dX12_censor_30 : decode cX12_censor 30 = .ok (.istore 4, 2) := by decide +kernel
theorem dX12_censor_32 : decode cX12_censor 32 = .ok (.iconst 0, 1) := by decide +kernel
theorem dX12_censor_33 : decode cX12_censor 33 = .ok (.istore 5, 2) := by decide +kernel
theorem dX12_censor_35 : decode cX12_censor 35 = .ok (.iload 5, 2) := by decide +kernel
theorem dX12_censor_37 : decode cX12_censor 37 = .ok (.bipush 60, 2) := by decide +kernel
theorem dX12_censor_39 : decode cX12_censor 39 = .ok (.if_icmp .ge 43, 3) := by decide +kernel
theorem dX12_censor_42 : decode cX12_censor 42 = .ok (.aload_n 0, 1) := by decide +kernel
theorem dX12_censor_43 : decode cX12_censor 43 = .ok (.getfield 98, 3) := by decide +kernel
theorem dX12_censor_46 : decode cX12_censor 46 = .ok (.iload 5, 2) := by decide +kernel
theorem dX12_censor_48 : decode cX12_censor 48 = .ok (.aload_n 0, 1) := by decide +kernel
theorem dX12_censor_49 : decode cX12_censor 49 = .ok (.iload_n 2, 1) := by decide +kernel
theorem dX12_censor_50 : decode cX12_censor 50 = .ok (.iload 5, 2) := by decide +kernel
theorem dX12_censor_52 : decode cX12_censor 52 = .ok (.invokevirtual 420, 3) := by decide +kernel
theorem dX12_censor_55 : decode cX12_censor 55 = .ok (.bastore, 1) := by decide +kernel
theorem dX12_censor_56 : decode cX12_censor 56 = .ok (.iload 4, 2) := by decide +kernel
theorem dX12_censor_58 : decode cX12_censor 58 = .ok (.aload_n 0, 1) := by decide +kernel
theorem dX12_censor_59 : decode cX12_censor 59 = .ok (.getfield 98, 3) := by decide +kernel
theorem dX12_censor_62 : decode cX12_censor 62 = .ok (.iload 5, 2) := by decide +kernel
theorem dX12_censor_64 : decode cX12_censor 64 = .ok (.baload, 1) := by decide +kernel
theorem dX12_censor_65 : decode cX12_censor 65 = .ok (.ifCond .eq 7, 3) := by decide +kernel
theorem dX12_censor_68 : decode cX12_censor 68 = .ok (.iconst 1, 1) := by decide +kernel
theorem dX12_censor_69 : decode cX12_censor 69 = .ok (.goto 4, 3) := by decide +kernel
theorem dX12_censor_72 : decode cX12_censor 72 = .ok (.iconst 0, 1) := by decide +kernel
theorem dX12_censor_73 : decode cX12_censor 73 = .ok (.iadd, 1) := by decide +kernel
theorem dX12_censor_74 : decode cX12_censor 74 = .ok (.istore 4, 2) := by decide +kernel
theorem dX12_censor_76 : decode cX12_censor 76 = .ok (.iinc 5 1, 3) := by decide +kernel
theorem dX12_censor_79 : decode cX12_censor 79 = .ok (.goto (-44), 3) := by decide +kernel
theorem dX12_censor_82 : decode cX12_censor 82 = .ok (.iconst 0, 1) := by decide +kernel
theorem dX12_censor_83 : decode cX12_censor 83 = .ok (.istore 5, 2) := by decide +kernel
theorem dX12_censor_85 : decode cX12_censor 85 = .ok (.iconst 0, 1) := by decide +kernel
theorem dX12_censor_86 : decode cX12_censor 86 = .ok (.istore 6, 2) := by decide +kernel
theorem dX12_censor_88 : decode cX12_censor 88 = .ok (.iload 6, 2) := by decide +kernel
theorem dX12_censor_90 : decode cX12_censor 90 = .ok (.aload_n 0, 1) := by decide +kernel
theorem dX12_censor_91 : decode cX12_censor 91 = .ok (.invokevirtual 124, 3) := by decide +kernel
theorem dX12_censor_94 : decode cX12_censor 94 = .ok (.if_icmp .ge 210, 3) := by decide +kernel
theorem dX12_censor_97 : decode cX12_censor 97 = .ok (.aload_n 0, 1) := by decide +kernel
theorem dX12_censor_98 : decode cX12_censor 98 = .ok (.iload 6, 2) := by decide +kernel
theorem dX12_censor_100 : decode cX12_censor 100 = .ok (.iconst 0, 1) := by decide +kernel
theorem dX12_censor_101 : decode cX12_censor 101 = .ok (.invokevirtual 299, 3) := by decide +kernel
theorem dX12_censor_104 : decode cX12_censor 104 = .ok (.iload_n 1, 1) := by decide +kernel
theorem dX12_censor_105 : decode cX12_censor 105 = .ok (.if_icmp .ne 193, 3) := by decide +kernel
theorem dX12_censor_108 : decode cX12_censor 108 = .ok (.aload_n 0, 1) := by decide +kernel
theorem dX12_censor_109 : decode cX12_censor 109 = .ok (.iload 6, 2) := by decide +kernel
theorem dX12_censor_111 : decode cX12_censor 111 = .ok (.iconst 2, 1) := by decide +kernel
theorem dX12_censor_112 : decode cX12_censor 112 = .ok (.invokevirtual 299, 3) := by decide +kernel
theorem dX12_censor_115 : decode cX12_censor 115 = .ok (.ifCond .ne 6, 3) := by decide +kernel
theorem dX12_censor_118 : decode cX12_censor 118 = .ok (.goto 180, 3) := by decide +kernel
theorem dX12_censor_121 : decode cX12_censor 121 = .ok (.iconst 0, 1) := by decide +kernel
theorem dX12_censor_122 : decode cX12_censor 122 = .ok (.istore 7, 2) := by decide +kernel
theorem dX12_censor_124 : decode cX12_censor 124 = .ok (.iconst 0, 1) := by decide +kernel
theorem dX12_censor_125 : decode cX12_censor 125 = .ok (.istore 8, 2) := by decide +kernel
theorem dX12_censor_127 : decode cX12_censor 127 = .ok (.iconst 0, 1) := by decide +kernel
theorem dX12_censor_128 : decode cX12_censor 128 = .ok (.istore 9, 2) := by decide +kernel
theorem dX12_censor_130 : decode cX12_censor 130 = .ok (.iconst 0, 1) := by decide +kernel
theorem dX12_censor_131 : decode cX12_censor 131 = .ok (.istore 10, 2) := by decide +kernel
theorem dX12_censor_133 : decode cX12_censor 133 = .ok (.iload 10, 2) := by decide +kernel
theorem dX12_censor_135 : decode cX12_censor 135 = .ok (.bipush 60, 2) := by decide +kernel
theorem dX12_censor_137 : decode cX12_censor 137 = .ok (.if_icmp .ge 94, 3) := by decide +kernel
theorem dX12_censor_140 : decode cX12_censor 140 = .ok (.aload_n 0, 1) := by decide +kernel
theorem dX12_censor_141 : decode cX12_censor 141 = .ok (.getfield 98, 3) := by decide +kernel
theorem dX12_censor_144 : decode cX12_censor 144 = .ok (.iload 10, 2) := by decide +kernel
theorem dX12_censor_146 : decode cX12_censor 146 = .ok (.baload, 1) := by decide +kernel
theorem dX12_censor_147 : decode cX12_censor 147 = .ok (.ifCond .ne 6, 3) := by decide +kernel
theorem dX12_censor_150 : decode cX12_censor 150 = .ok (.goto 75, 3) := by decide +kernel
theorem dX12_censor_153 : decode cX12_censor 153 = .ok (.aload_n 0, 1) := by decide +kernel
theorem dX12_censor_154 : decode cX12_censor 154 = .ok (.iload 6, 2) := by decide +kernel
theorem dX12_censor_156 : decode cX12_censor 156 = .ok (.iload 10, 2) := by decide +kernel
theorem dX12_censor_158 : decode cX12_censor 158 = .ok (.iconst 2, 1) := by decide +kernel
theorem dX12_censor_159 : decode cX12_censor 159 = .ok (.invokevirtual 149, 3) := by decide +kernel
theorem dX12_censor_162 : decode cX12_censor 162 = .ok (.istore 11, 2) := by decide +kernel
theorem dX12_censor_164 : decode cX12_censor 164 = .ok (.aload_n 0, 1) := by decide +kernel
theorem dX12_censor_165 : decode cX12_censor 165 = .ok (.iload 6, 2) := by decide +kernel
theorem dX12_censor_167 : decode cX12_censor 167 = .ok (.iload 10, 2) := by decide +kernel
theorem dX12_censor_169 : decode cX12_censor 169 = .ok (.iconst 3, 1) := by decide +kernel
theorem dX12_censor_170 : decode cX12_censor 170 = .ok (.invokevirtual 149, 3) := by decide +kernel
theorem dX12_censor_173 : decode cX12_censor 173 = .ok (.istore 12, 2) := by decide +kernel
theorem dX12_censor_175 : decode cX12_censor 175 = .ok (.iload 7, 2) := by decide +kernel
theorem dX12_censor_177 : decode cX12_censor 177 = .ok (.iload 11, 2) := by decide +kernel
theorem dX12_censor_179 : decode cX12_censor 179 = .ok (.ifCond .eq 7, 3) := by decide +kernel
theorem dX12_censor_182 : decode cX12_censor 182 = .ok (.iconst 1, 1) := by decide +kernel
theorem dX12_censor_183 : decode cX12_censor 183 = .ok (.goto 4, 3) := by decide +kernel
theorem dX12_censor_186 : decode cX12_censor 186 = .ok (.iconst 0, 1) := by decide +kernel
theorem dX12_censor_187 : decode cX12_censor 187 = .ok (.iadd, 1) := by decide +kernel
theorem dX12_censor_188 : decode cX12_censor 188 = .ok (.istore 7, 2) := by decide +kernel
theorem dX12_censor_190 : decode cX12_censor 190 = .ok (.iload 8, 2) := by decide +kernel
theorem dX12_censor_192 : decode cX12_censor 192 = .ok (.iload 12, 2) := by decide +kernel
theorem dX12_censor_194 : decode cX12_censor 194 = .ok (.ifCond .eq 7, 3) := by decide +kernel
theorem dX12_censor_197 : decode cX12_censor 197 = .ok (.iconst 1, 1) := by decide +kernel
theorem dX12_censor_198 : decode cX12_censor 198 = .ok (.goto 4, 3) := by decide +kernel
theorem dX12_censor_201 : decode cX12_censor 201 = .ok (.iconst 0, 1) := by decide +kernel
theorem dX12_censor_202 : decode cX12_censor 202 = .ok (.iadd, 1) := by decide +kernel
theorem dX12_censor_203 : decode cX12_censor 203 = .ok (.istore 8, 2) := by decide +kernel
theorem dX12_censor_205 : decode cX12_censor 205 = .ok (.iload 9, 2) := by decide +kernel
theorem dX12_censor_207 : decode cX12_censor 207 = .ok (.iload 11, 2) := by decide +kernel
theorem dX12_censor_209 : decode cX12_censor 209 = .ok (.ifCond .ne 8, 3) := by decide +kernel
theorem dX12_censor_212 : decode cX12_censor 212 = .ok (.iload 12, 2) := by decide +kernel
theorem dX12_censor_214 : decode cX12_censor 214 = .ok (.ifCond .eq 7, 3) := by decide +kernel
theorem dX12_censor_217 : decode cX12_censor 217 = .ok (.iconst 1, 1) := by decide +kernel
theorem dX12_censor_218 : decode cX12_censor 218 = .ok (.goto 4, 3) := by decide +kernel
theorem dX12_censor_221 : decode cX12_censor 221 = .ok (.iconst 0, 1) := by decide +kernel
theorem dX12_censor_222 : decode cX12_censor 222 = .ok (.iadd, 1) := by decide +kernel
theorem dX12_censor_223 : decode cX12_censor 223 = .ok (.istore 9, 2) := by decide +kernel
theorem dX12_censor_225 : decode cX12_censor 225 = .ok (.iinc 10 1, 3) := by decide +kernel
theorem dX12_censor_228 : decode cX12_censor 228 = .ok (.goto (-95), 3) := by decide +kernel
theorem dX12_censor_231 : decode cX12_censor 231 = .ok (.iload 9, 2) := by decide +kernel
theorem dX12_censor_233 : decode cX12_censor 233 = .ok (.iload 4, 2) := by decide +kernel
theorem dX12_censor_235 : decode cX12_censor 235 = .ok (.if_icmp .ne 7, 3) := by decide +kernel
theorem dX12_censor_238 : decode cX12_censor 238 = .ok (.iconst 1, 1) := by decide +kernel
theorem dX12_censor_239 : decode cX12_censor 239 = .ok (.goto 13, 3) := by decide +kernel
theorem dX12_censor_242 : decode cX12_censor 242 = .ok (.iload 9, 2) := by decide +kernel
theorem dX12_censor_244 : decode cX12_censor 244 = .ok (.ifCond .le 7, 3) := by decide +kernel
theorem dX12_censor_247 : decode cX12_censor 247 = .ok (.iconst 2, 1) := by decide +kernel
theorem dX12_censor_248 : decode cX12_censor 248 = .ok (.goto 4, 3) := by decide +kernel
theorem dX12_censor_251 : decode cX12_censor 251 = .ok (.iconst 3, 1) := by decide +kernel
theorem dX12_censor_252 : decode cX12_censor 252 = .ok (.istore 10, 2) := by decide +kernel
theorem dX12_censor_254 : decode cX12_censor 254 = .ok (.iload 5, 2) := by decide +kernel
theorem dX12_censor_256 : decode cX12_censor 256 = .ok (.iload_n 3, 1) := by decide +kernel
theorem dX12_censor_257 : decode cX12_censor 257 = .ok (.ifCond .ne 7, 3) := by decide +kernel
theorem dX12_censor_260 : decode cX12_censor 260 = .ok (.iconst 1, 1) := by decide +kernel
theorem dX12_censor_261 : decode cX12_censor 261 = .ok (.goto 34, 3) := by decide +kernel
theorem dX12_censor_264 : decode cX12_censor 264 = .ok (.iload_n 3, 1) := by decide +kernel
theorem dX12_censor_265 : decode cX12_censor 265 = .ok (.iconst 4, 1) := by decide +kernel
theorem dX12_censor_266 : decode cX12_censor 266 = .ok (.if_icmp .ne 8, 3) := by decide +kernel
theorem dX12_censor_269 : decode cX12_censor 269 = .ok (.iload 7, 2) := by decide +kernel
theorem dX12_censor_271 : decode cX12_censor 271 = .ok (.goto 24, 3) := by decide +kernel
theorem dX12_censor_274 : decode cX12_censor 274 = .ok (.iload_n 3, 1) := by decide +kernel
theorem dX12_censor_275 : decode cX12_censor 275 = .ok (.iconst 5, 1) := by decide +kernel
theorem dX12_censor_276 : decode cX12_censor 276 = .ok (.if_icmp .ne 8, 3) := by decide +kernel
theorem dX12_censor_279 : decode cX12_censor 279 = .ok (.iload 8, 2) := by decide +kernel
theorem dX12_censor_281 : decode cX12_censor 281 = .ok (.goto 14, 3) := by decide +kernel
theorem dX12_censor_284 : decode cX12_censor 284 = .ok (.iload 10, 2) := by decide +kernel
theorem dX12_censor_286 : decode cX12_censor 286 = .ok (.iload_n 3, 1) := by decide +kernel
theorem dX12_censor_287 : decode cX12_censor 287 = .ok (.if_icmp .ne 7, 3) := by decide +kernel
theorem dX12_censor_290 : decode cX12_censor 290 = .ok (.iconst 1, 1) := by decide +kernel
theorem dX12_censor_291 : decode cX12_censor 291 = .ok (.goto 4, 3) := by decide +kernel
theorem dX12_censor_294 : decode cX12_censor 294 = .ok (.iconst 0, 1) := by decide +kernel
theorem dX12_censor_295 : decode cX12_censor 295 = .ok (.iadd, 1) := by decide +kernel
theorem dX12_censor_296 : decode cX12_censor 296 = .ok (.istore 5, 2) := by decide +kernel
theorem dX12_censor_298 : decode cX12_censor 298 = .ok (.iinc 6 1, 3) := by decide +kernel
theorem dX12_censor_301 : decode cX12_censor 301 = .ok (.goto (-213), 3) := by decide +kernel
theorem dX12_censor_304 : decode cX12_censor 304 = .ok (.iload 5, 2) := by decide +kernel
theorem dX12_censor_306 : decode cX12_censor 306 = .ok (.ireturn, 1) := by decide +kernel
theorem dX12_late_0 : decode cX12_late 0 = .ok (.aload_n 0, 1) := by decide +kernel
theorem dX12_late_1 : decode cX12_late 1 = .ok (.iload_n 1, 1) := by decide +kernel
theorem dX12_late_2 : decode cX12_late 2 = .ok (.invokevirtual 239, 3) := by decide +kernel
theorem dX12_late_5 : decode cX12_late 5 = .ok (.ifCond .eq 16, 3) := by decide +kernel
theorem dX12_late_8 : decode cX12_late 8 = .ok (.iload_n 2, 1) := by decide +kernel
theorem dX12_late_9 : decode cX12_late 9 = .ok (.iconst (-1), 1) := by decide +kernel
theorem dX12_late_10 : decode cX12_late 10 = .ok (.if_icmp .eq 13, 3) := by decide +kernel
theorem dX12_late_13 : decode cX12_late 13 = .ok (.aload_n 0, 1) := by decide +kernel
theorem dX12_late_14 : decode cX12_late 14 = .ok (.iload_n 2, 1) := by decide +kernel
theorem dX12_late_15 : decode cX12_late 15 = .ok (.invokevirtual 128, 3) := by decide +kernel
theorem dX12_late_18 : decode cX12_late 18 = .ok (.ifCond .ne 5, 3) := by decide +kernel
theorem dX12_late_21 : decode cX12_late 21 = .ok (.iconst (-1), 1) := by decide +kernel
theorem dX12_late_22 : decode cX12_late 22 = .ok (.ireturn, 1) := by decide +kernel
theorem dX12_late_23 : decode cX12_late 23 = .ok (.iconst 0, 1) := by decide +kernel
theorem dX12_late_24 : decode cX12_late 24 = .ok (.istore_n 3, 1) := by decide +kernel
theorem dX12_late_25 : decode cX12_late 25 = .ok (.iconst 0, 1) := by decide +kernel
theorem dX12_late_26 : decode cX12_late 26 = .ok (.istore 4, 2) := by decide +kernel
theorem dX12_late_28 : decode cX12_late 28 = .ok (.iload 4, 2) := by decide +kernel
theorem dX12_late_30 : decode cX12_late 30 = .ok (.aload_n 0, 1) := by decide +kernel
theorem dX12_late_31 : decode cX12_late 31 = .ok (.getfield 20, 3) := by decide +kernel
theorem dX12_late_34 : decode cX12_late 34 = .ok (.sipush 1347, 3) := by decide +kernel
theorem dX12_late_37 : decode cX12_late 37 = .ok (.iaload, 1) := by decide +kernel
theorem dX12_late_38 : decode cX12_late 38 = .ok (.if_icmp .ge 161, 3) := by decide +kernel
theorem dX12_late_41 : decode cX12_late 41 = .ok (.iload_n 2, 1) := by decide +kernel
theorem dX12_late_42 : decode cX12_late 42 = .ok (.iconst (-1), 1) := by decide +kernel
theorem dX12_late_43 : decode cX12_late 43 = .ok (.if_icmp .eq 17, 3) := by decide +kernel
theorem dX12_late_46 : decode cX12_late 46 = .ok (.aload_n 0, 1) := by decide +kernel
theorem dX12_late_47 : decode cX12_late 47 = .ok (.iload 4, 2) := by decide +kernel
theorem dX12_late_49 : decode cX12_late 49 = .ok (.iconst 0, 1) := by decide +kernel
theorem dX12_late_50 : decode cX12_late 50 = .ok (.invokevirtual 143, 3) := by decide +kernel
theorem dX12_late_53 : decode cX12_late 53 = .ok (.iload_n 2, 1) := by decide +kernel
theorem dX12_late_54 : decode cX12_late 54 = .ok (.if_icmp .eq 6, 3) := by decide +kernel
theorem dX12_late_57 : decode cX12_late 57 = .ok (.goto 136, 3) := by decide +kernel
theorem dX12_late_60 : decode cX12_late 60 = .ok (.aload_n 0, 1) := by decide +kernel
theorem dX12_late_61 : decode cX12_late 61 = .ok (.aload_n 0, 1) := by decide +kernel
theorem dX12_late_62 : decode cX12_late 62 = .ok (.iload 4, 2) := by decide +kernel
theorem dX12_late_64 : decode cX12_late 64 = .ok (.iconst 0, 1) := by decide +kernel
theorem dX12_late_65 : decode cX12_late 65 = .ok (.invokevirtual 143, 3) := by decide +kernel
theorem dX12_late_68 : decode cX12_late 68 = .ok (.aload_n 0, 1) := by decide +kernel
theorem dX12_late_69 : decode cX12_late 69 = .ok (.iload 4, 2) := by decide +kernel
theorem dX12_late_71 : decode cX12_late 71 = .ok (.iconst 1, 1) := by decide +kernel
theorem dX12_late_72 : decode cX12_late 72 = .ok (.invokevirtual 143, 3) := by decide +kernel
theorem dX12_late_75 : decode cX12_late 75 = .ok (.iconst 5, 1) := by decide +kernel
theorem dX12_late_76 : decode cX12_late 76 = .ok (.idiv, 1) := by decide +kernel
theorem dX12_late_77 : decode cX12_late 77 = .ok (.invokevirtual 404, 3) := by decide +kernel
theorem dX12_late_80 : decode cX12_late 80 = .ok (.aload_n 0, 1) := by decide +kernel
theorem dX12_late_81 : decode cX12_late 81 = .ok (.getfield 52, 3) := by decide +kernel
theorem dX12_late_84 : decode cX12_late 84 = .ok (.iconst 0, 1) := by decide +kernel
theorem dX12_late_85 : decode cX12_late 85 = .ok (.aload_n 0, 1) := by decide +kernel
theorem dX12_late_86 : decode cX12_late 86 = .ok (.iload 4, 2) := by decide +kernel
theorem dX12_late_88 : decode cX12_late 88 = .ok (.iconst 1, 1) := by decide +kernel
theorem dX12_late_89 : decode cX12_late 89 = .ok (.invokevirtual 143, 3) := by decide +kernel
theorem dX12_late_92 : decode cX12_late 92 = .ok (.iastore, 1) := by decide +kernel
theorem dX12_late_93 : decode cX12_late 93 = .ok (.aload_n 0, 1) := by decide +kernel
theorem dX12_late_94 : decode cX12_late 94 = .ok (.getfield 52, 3) := by decide +kernel
theorem dX12_late_97 : decode cX12_late 97 = .ok (.iconst 2, 1) := by decide +kernel
theorem dX12_late_98 : decode cX12_late 98 = .ok (.aload_n 0, 1) := by decide +kernel
theorem dX12_late_99 : decode cX12_late 99 = .ok (.iload 4, 2) := by decide +kernel
theorem dX12_late_101 : decode cX12_late 101 = .ok (.iconst 2, 1) := by decide +kernel
theorem dX12_late_102 : decode cX12_late 102 = .ok (.invokevirtual 143, 3) := by decide +kernel
theorem dX12_late_105 : decode cX12_late 105 = .ok (.iastore, 1) := by decide +kernel
theorem dX12_late_106 : decode cX12_late 106 = .ok (.aload_n 0, 1) := by decide +kernel
theorem dX12_late_107 : decode cX12_late 107 = .ok (.getfield 52, 3) := by decide +kernel
theorem dX12_late_110 : decode cX12_late 110 = .ok (.iconst 3, 1) := by decide +kernel
theorem dX12_late_111 : decode cX12_late 111 = .ok (.aload_n 0, 1) := by decide +kernel
theorem dX12_late_112 : decode cX12_late 112 = .ok (.iload 4, 2) := by decide +kernel
theorem dX12_late_114 : decode cX12_late 114 = .ok (.iconst 4, 1) := by decide +kernel
theorem dX12_late_115 : decode cX12_late 115 = .ok (.invokevirtual 143, 3) := by decide +kernel
theorem dX12_late_118 : decode cX12_late 118 = .ok (.ifCond .ne 24, 3) := by decide +kernel
theorem dX12_late_121 : decode cX12_late 121 = .ok (.aload_n 0, 1) := by decide +kernel
theorem dX12_late_122 : decode cX12_late 122 = .ok (.aload_n 0, 1) := by decide +kernel
theorem dX12_late_123 : decode cX12_late 123 = .ok (.iload 4, 2) := by decide +kernel
theorem dX12_late_125 : decode cX12_late 125 = .ok (.iconst 1, 1) := by decide +kernel
theorem dX12_late_126 : decode cX12_late 126 = .ok (.invokevirtual 143, 3) := by decide +kernel
theorem dX12_late_129 : decode cX12_late 129 = .ok (.aload_n 0, 1) := by decide +kernel
theorem dX12_late_130 : decode cX12_late 130 = .ok (.iload 4, 2) := by decide +kernel
theorem dX12_late_132 : decode cX12_late 132 = .ok (.iconst 2, 1) := by decide +kernel
theorem dX12_late_133 : decode cX12_late 133 = .ok (.invokevirtual 143, 3) := by decide +kernel
theorem dX12_late_136 : decode cX12_late 136 = .ok (.invokevirtual 160, 3) := by decide +kernel
theorem dX12_late_139 : decode cX12_late 139 = .ok (.goto 4, 3) := by decide +kernel
theorem dX12_late_142 : decode cX12_late 142 = .ok (.iconst 0, 1) := by decide +kernel
theorem dX12_late_143 : decode cX12_late 143 = .ok (.iastore, 1) := by decide +kernel
theorem dX12_late_144 : decode cX12_late 144 = .ok (.aload_n 0, 1) := by decide +kernel
theorem dX12_late_145 : decode cX12_late 145 = .ok (.getfield 52, 3) := by decide +kernel
theorem dX12_late_148 : decode cX12_late 148 = .ok (.iconst 5, 1) := by decide +kernel
theorem dX12_late_149 : decode cX12_late 149 = .ok (.aload_n 0, 1) := by decide +kernel
theorem dX12_late_150 : decode cX12_late 150 = .ok (.iload 4, 2) := by decide +kernel
theorem dX12_late_152 : decode cX12_late 152 = .ok (.iconst 3, 1) := by decide +kernel
theorem dX12_late_153 : decode cX12_late 153 = .ok (.invokevirtual 143, 3) := by decide +kernel
theorem dX12_late_156 : decode cX12_late 156 = .ok (.iastore, 1) := by decide +kernel
theorem dX12_late_157 : decode cX12_late 157 = .ok (.aload_n 0, 1) := by decide +kernel
theorem dX12_late_158 : decode cX12_late 158 = .ok (.getfield 52, 3) := by decide +kernel
theorem dX12_late_161 : decode cX12_late 161 = .ok (.bipush 6, 2) := by decide +kernel
theorem dX12_late_163 : decode cX12_late 163 = .ok (.aload_n 0, 1) := by decide +kernel
theorem dX12_late_164 : decode cX12_late 164 = .ok (.iload 4, 2) := by decide +kernel
theorem dX12_late_166 : decode cX12_late 166 = .ok (.iconst 4, 1) := by decide +kernel
theorem dX12_late_167 : decode cX12_late 167 = .ok (.invokevirtual 143, 3) := by decide +kernel
theorem dX12_late_170 : decode cX12_late 170 = .ok (.iastore, 1) := by decide +kernel
theorem dX12_late_171 : decode cX12_late 171 = .ok (.aload_n 0, 1) := by decide +kernel
theorem dX12_late_172 : decode cX12_late 172 = .ok (.iload_n 1, 1) := by decide +kernel
theorem dX12_late_173 : decode cX12_late 173 = .ok (.bipush 6, 2) := by decide +kernel
theorem dX12_late_175 : decode cX12_late 175 = .ok (.invokevirtual 302, 3) := by decide +kernel
theorem dX12_late_178 : decode cX12_late 178 = .ok (.iload_n 3, 1) := by decide +kernel
theorem dX12_late_179 : decode cX12_late 179 = .ok (.aload_n 0, 1) := by decide +kernel
theorem dX12_late_180 : decode cX12_late 180 = .ok (.getfield 293, 3) := by decide +kernel
theorem dX12_late_183 : decode cX12_late 183 = .ok (.ifCond .eq 7, 3) := by decide +kernel
theorem dX12_late_186 : decode cX12_late 186 = .ok (.iconst 1, 1) := by decide +kernel
theorem dX12_late_187 : decode cX12_late 187 = .ok (.goto 4, 3) := by decide +kernel
theorem dX12_late_190 : decode cX12_late 190 = .ok (.iconst 0, 1) := by decide +kernel
theorem dX12_late_191 : decode cX12_late 191 = .ok (.iadd, 1) := by decide +kernel
theorem dX12_late_192 : decode cX12_late 192 = .ok (.istore_n 3, 1) := by decide +kernel
theorem dX12_late_193 : decode cX12_late 193 = .ok (.iinc 4 1, 3) := by decide +kernel
theorem dX12_late_196 : decode cX12_late 196 = .ok (.goto (-168), 3) := by decide +kernel
theorem dX12_late_199 : decode cX12_late 199 = .ok (.iload_n 3, 1) := by decide +kernel
theorem dX12_late_200 : decode cX12_late 200 = .ok (.ireturn, 1) := by decide +kernel
theorem dX12_next_0 : decode cX12_next 0 = .ok (.iload_n 1, 1) := by decide +kernel
theorem dX12_next_1 : decode cX12_next 1 = .ok (.iconst 0, 1) := by decide +kernel
theorem dX12_next_2 : decode cX12_next 2 = .ok (.iconst 1, 1) := by decide +kernel
theorem dX12_next_3 : decode cX12_next 3 = .ok (.invokestatic 113, 3) := by decide +kernel
theorem dX12_next_6 : decode cX12_next 6 = .ok (.ifCond .ne 5, 3) := by decide +kernel
theorem dX12_next_9 : decode cX12_next 9 = .ok (.iconst (-1), 1) := by decide +kernel
theorem dX12_next_10 : decode cX12_next 10 = .ok (.ireturn, 1) := by decide +kernel
theorem dX12_next_11 : decode cX12_next 11 = .ok (.iconst (-1), 1) := by decide +kernel
theorem dX12_next_12 : decode cX12_next 12 = .ok (.istore_n 2, 1) := by decide +kernel
theorem dX12_next_13 : decode cX12_next 13 = .ok (.iconst 0, 1) := by decide +kernel
theorem dX12_next_14 : decode cX12_next 14 = .ok (.istore_n 3, 1) := by decide +kernel
theorem dX12_next_15 : decode cX12_next 15 = .ok (.iconst 0, 1) := by decide +kernel
theorem dX12_next_16 : decode cX12_next 16 = .ok (.istore 4, 2) := by decide +kernel
theorem dX12_next_18 : decode cX12_next 18 = .ok (.iload 4, 2) := by decide +kernel
theorem dX12_next_20 : decode cX12_next 20 = .ok (.aload_n 0, 1) := by decide +kernel
theorem dX12_next_21 : decode cX12_next 21 = .ok (.invokevirtual 124, 3) := by decide +kernel
theorem dX12_next_24 : decode cX12_next 24 = .ok (.if_icmp .ge 96, 3) := by decide +kernel
theorem dX12_next_27 : decode cX12_next 27 = .ok (.aload_n 0, 1) := by decide +kernel
theorem dX12_next_28 : decode cX12_next 28 = .ok (.iload 4, 2) := by decide +kernel
theorem dX12_next_30 : decode cX12_next 30 = .ok (.iconst 2, 1) := by decide +kernel
theorem dX12_next_31 : decode cX12_next 31 = .ok (.invokevirtual 299, 3) := by decide +kernel
theorem dX12_next_34 : decode cX12_next 34 = .ok (.iconst 1, 1) := by decide +kernel
theorem dX12_next_35 : decode cX12_next 35 = .ok (.if_icmp .ne 6, 3) := by decide +kernel
theorem dX12_next_38 : decode cX12_next 38 = .ok (.goto 76, 3) := by decide +kernel
theorem dX12_next_41 : decode cX12_next 41 = .ok (.iconst 0, 1) := by decide +kernel
theorem dX12_next_42 : decode cX12_next 42 = .ok (.istore 5, 2) := by decide +kernel
theorem dX12_next_44 : decode cX12_next 44 = .ok (.iconst 0, 1) := by decide +kernel
theorem dX12_next_45 : decode cX12_next 45 = .ok (.istore 6, 2) := by decide +kernel
theorem dX12_next_47 : decode cX12_next 47 = .ok (.iload 6, 2) := by decide +kernel
theorem dX12_next_49 : decode cX12_next 49 = .ok (.aload_n 0, 1) := by decide +kernel
theorem dX12_next_50 : decode cX12_next 50 = .ok (.invokevirtual 124, 3) := by decide +kernel
theorem dX12_next_53 : decode cX12_next 53 = .ok (.if_icmp .ge 41, 3) := by decide +kernel
theorem dX12_next_56 : decode cX12_next 56 = .ok (.iload 5, 2) := by decide +kernel
theorem dX12_next_58 : decode cX12_next 58 = .ok (.aload_n 0, 1) := by decide +kernel
theorem dX12_next_59 : decode cX12_next 59 = .ok (.iload 6, 2) := by decide +kernel
theorem dX12_next_61 : decode cX12_next 61 = .ok (.iconst 2, 1) := by decide +kernel
theorem dX12_next_62 : decode cX12_next 62 = .ok (.invokevirtual 299, 3) := by decide +kernel
theorem dX12_next_65 : decode cX12_next 65 = .ok (.iconst 1, 1) := by decide +kernel
theorem dX12_next_66 : decode cX12_next 66 = .ok (.if_icmp .ne 18, 3) := by decide +kernel
theorem dX12_next_69 : decode cX12_next 69 = .ok (.aload_n 0, 1) := by decide +kernel
theorem dX12_next_70 : decode cX12_next 70 = .ok (.iload 4, 2) := by decide +kernel
theorem dX12_next_72 : decode cX12_next 72 = .ok (.iload 6, 2) := by decide +kernel
theorem dX12_next_74 : decode cX12_next 74 = .ok (.invokevirtual 317, 3) := by decide +kernel
theorem dX12_next_77 : decode cX12_next 77 = .ok (.ifCond .eq 7, 3) := by decide +kernel
theorem dX12_next_80 : decode cX12_next 80 = .ok (.iconst 1, 1) := by decide +kernel
theorem dX12_next_81 : decode cX12_next 81 = .ok (.goto 4, 3) := by decide +kernel
theorem dX12_next_84 : decode cX12_next 84 = .ok (.iconst 0, 1) := by decide +kernel
theorem dX12_next_85 : decode cX12_next 85 = .ok (.iadd, 1) := by decide +kernel
theorem dX12_next_86 : decode cX12_next 86 = .ok (.istore 5, 2) := by decide +kernel
theorem dX12_next_88 : decode cX12_next 88 = .ok (.iinc 6 1, 3) := by decide +kernel
theorem dX12_next_91 : decode cX12_next 91 = .ok (.goto (-44), 3) := by decide +kernel
theorem dX12_next_94 : decode cX12_next 94 = .ok (.iload_n 2, 1) := by decide +kernel
theorem dX12_next_95 : decode cX12_next 95 = .ok (.iconst (-1), 1) := by decide +kernel
theorem dX12_next_96 : decode cX12_next 96 = .ok (.if_icmp .eq 12, 3) := by decide +kernel
theorem dX12_next_99 : decode cX12_next 99 = .ok (.iload 5, 2) := by decide +kernel
theorem dX12_next_101 : decode cX12_next 101 = .ok (.iload_n 3, 1) := by decide +kernel
theorem dX12_next_102 : decode cX12_next 102 = .ok (.if_icmp .gt 6, 3) := by decide +kernel
theorem dX12_next_105 : decode cX12_next 105 = .ok (.goto 9, 3) := by decide +kernel
theorem dX12_next_108 : decode cX12_next 108 = .ok (.iload 4, 2) := by decide +kernel
theorem dX12_next_110 : decode cX12_next 110 = .ok (.istore_n 2, 1) := by decide +kernel
theorem dX12_next_111 : decode cX12_next 111 = .ok (.iload 5, 2) := by decide +kernel
theorem dX12_next_113 : decode cX12_next 113 = .ok (.istore_n 3, 1) := by decide +kernel
theorem dX12_next_114 : decode cX12_next 114 = .ok (.iinc 4 1, 3) := by decide +kernel
theorem dX12_next_117 : decode cX12_next 117 = .ok (.goto (-99), 3) := by decide +kernel
theorem dX12_next_120 : decode cX12_next 120 = .ok (.iload_n 2, 1) := by decide +kernel
theorem dX12_next_121 : decode cX12_next 121 = .ok (.iconst (-1), 1) := by decide +kernel
theorem dX12_next_122 : decode cX12_next 122 = .ok (.if_icmp .ne 7, 3) := by decide +kernel
theorem dX12_next_125 : decode cX12_next 125 = .ok (.iconst (-1), 1) := by decide +kernel
theorem dX12_next_126 : decode cX12_next 126 = .ok (.goto 12, 3) := by decide +kernel
theorem dX12_next_129 : decode cX12_next 129 = .ok (.iload_n 1, 1) := by decide +kernel
theorem dX12_next_130 : decode cX12_next 130 = .ok (.ifCond .ne 7, 3) := by decide +kernel
theorem dX12_next_133 : decode cX12_next 133 = .ok (.iload_n 2, 1) := by decide +kernel
theorem dX12_next_134 : decode cX12_next 134 = .ok (.goto 4, 3) := by decide +kernel
theorem dX12_next_137 : decode cX12_next 137 = .ok (.iload_n 3, 1) := by decide +kernel
theorem dX12_next_138 : decode cX12_next 138 = .ok (.ireturn, 1) := by decide +kernel
theorem dX12_draws_0 : decode cX12_draws 0 = .ok (.aload_n 0, 1) := by decide +kernel
theorem dX12_draws_1 : decode cX12_draws 1 = .ok (.ldc2_w 423, 3) := by decide +kernel
theorem dX12_draws_4 : decode cX12_draws 4 = .ok (.aload_n 0, 1) := by decide +kernel
theorem dX12_draws_5 : decode cX12_draws 5 = .ok (.getfield 425, 3) := by decide +kernel
theorem dX12_draws_8 : decode cX12_draws 8 = .ok (.i2l, 1) := by decide +kernel
theorem dX12_draws_9 : decode cX12_draws 9 = .ok (.lmul, 1) := by decide +kernel
theorem dX12_draws_10 : decode cX12_draws 10 = .ok (.ldc2_w 428, 3) := by decide +kernel
theorem dX12_draws_13 : decode cX12_draws 13 = .ok (.ladd, 1) := by decide +kernel
theorem dX12_draws_14 : decode cX12_draws 14 = .ok (.ldc2_w 430, 3) := by decide +kernel
theorem dX12_draws_17 : decode cX12_draws 17 = .ok (.lrem, 1) := by decide +kernel
theorem dX12_draws_18 : decode cX12_draws 18 = .ok (.l2i, 1) := by decide +kernel
theorem dX12_draws_19 : decode cX12_draws 19 = .ok (.putfield 425, 3) := by decide +kernel
theorem dX12_draws_22 : decode cX12_draws 22 = .ok (.aload_n 0, 1) := by decide +kernel
theorem dX12_draws_23 : decode cX12_draws 23 = .ok (.getfield 425, 3) := by decide +kernel
theorem dX12_draws_26 : decode cX12_draws 26 = .ok (.iload_n 1, 1) := by decide +kernel
theorem dX12_draws_27 : decode cX12_draws 27 = .ok (.irem, 1) := by decide +kernel
theorem dX12_draws_28 : decode cX12_draws 28 = .ok (.ireturn, 1) := by decide +kernel
theorem dX12_draw_0 : decode cX12_draw 0 = .ok (.aload_n 0, 1) := by decide +kernel
theorem dX12_draw_1 : decode cX12_draw 1 = .ok (.iload_n 1, 1) := by decide +kernel
theorem dX12_draw_2 : decode cX12_draw 2 = .ok (.iconst 0, 1) := by decide +kernel
theorem dX12_draw_3 : decode cX12_draw 3 = .ok (.invokevirtual 404, 3) := by decide +kernel
theorem dX12_draw_6 : decode cX12_draw 6 = .ok (.aload_n 0, 1) := by decide +kernel
theorem dX12_draw_7 : decode cX12_draw 7 = .ok (.iconst 4, 1) := by decide +kernel
theorem dX12_draw_8 : decode cX12_draw 8 = .ok (.invokevirtual 407, 3) := by decide +kernel
theorem dX12_draw_11 : decode cX12_draw 11 = .ok (.istore_n 3, 1) := by decide +kernel
theorem dX12_draw_12 : decode cX12_draw 12 = .ok (.aload_n 0, 1) := by decide +kernel
theorem dX12_draw_13 : decode cX12_draw 13 = .ok (.getfield 67, 3) := by decide +kernel
theorem dX12_draw_16 : decode cX12_draw 16 = .ok (.iload_n 1, 1) := by decide +kernel
theorem dX12_draw_17 : decode cX12_draw 17 = .ok (.iaload, 1) := by decide +kernel
theorem dX12_draw_18 : decode cX12_draw 18 = .ok (.istore 4, 2) := by decide +kernel
theorem dX12_draw_20 : decode cX12_draw 20 = .ok (.aload_n 0, 1) := by decide +kernel
theorem dX12_draw_21 : decode cX12_draw 21 = .ok (.getfield 104, 3) := by decide +kernel
theorem dX12_draw_24 : decode cX12_draw 24 = .ok (.iload_n 1, 1) := by decide +kernel
theorem dX12_draw_25 : decode cX12_draw 25 = .ok (.iconst 0, 1) := by decide +kernel
theorem dX12_draw_26 : decode cX12_draw 26 = .ok (.iastore, 1) := by decide +kernel
theorem dX12_draw_27 : decode cX12_draw 27 = .ok (.iconst 0, 1) := by decide +kernel
theorem dX12_draw_28 : decode cX12_draw 28 = .ok (.istore 5, 2) := by decide +kernel
theorem dX12_draw_30 : decode cX12_draw 30 = .ok (.iload 4, 2) := by decide +kernel
theorem dX12_draw_32 : decode cX12_draw 32 = .ok (.bipush 12, 2) := by decide +kernel
theorem dX12_draw_34 : decode cX12_draw 34 = .ok (.if_icmp .eq 75, 3) := by decide +kernel
theorem dX12_draw_37 : decode cX12_draw 37 = .ok (.iload 5, 2) := by decide +kernel
theorem dX12_draw_39 : decode cX12_draw 39 = .ok (.aload_n 0, 1) := by decide +kernel
theorem dX12_draw_40 : decode cX12_draw 40 = .ok (.getfield 104, 3) := by decide +kernel
theorem dX12_draw_43 : decode cX12_draw 43 = .ok (.iload 4, 2) := by decide +kernel
theorem dX12_draw_45 : decode cX12_draw 45 = .ok (.iaload, 1) := by decide +kernel
theorem dX12_draw_46 : decode cX12_draw 46 = .ok (.if_icmp .ge 63, 3) := by decide +kernel
theorem dX12_draw_49 : decode cX12_draw 49 = .ok (.aload_n 0, 1) := by decide +kernel
theorem dX12_draw_50 : decode cX12_draw 50 = .ok (.bipush 100, 2) := by decide +kernel
theorem dX12_draw_52 : decode cX12_draw 52 = .ok (.invokevirtual 432, 3) := by decide +kernel
theorem dX12_draw_55 : decode cX12_draw 55 = .ok (.iload_n 3, 1) := by decide +kernel
theorem dX12_draw_56 : decode cX12_draw 56 = .ok (.if_icmp .lt 6, 3) := by decide +kernel
theorem dX12_draw_59 : decode cX12_draw 59 = .ok (.goto 44, 3) := by decide +kernel
theorem dX12_draw_62 : decode cX12_draw 62 = .ok (.aload_n 0, 1) := by decide +kernel
theorem dX12_draw_63 : decode cX12_draw 63 = .ok (.getfield 101, 3) := by decide +kernel
theorem dX12_draw_66 : decode cX12_draw 66 = .ok (.sipush 144, 3) := by decide +kernel
theorem dX12_draw_69 : decode cX12_draw 69 = .ok (.iload_n 1, 1) := by decide +kernel
theorem dX12_draw_70 : decode cX12_draw 70 = .ok (.imul, 1) := by decide +kernel
theorem dX12_draw_71 : decode cX12_draw 71 = .ok (.aload_n 0, 1) := by decide +kernel
theorem dX12_draw_72 : decode cX12_draw 72 = .ok (.getfield 104, 3) := by decide +kernel
theorem dX12_draw_75 : decode cX12_draw 75 = .ok (.iload_n 1, 1) := by decide +kernel
theorem dX12_draw_76 : decode cX12_draw 76 = .ok (.iaload, 1) := by decide +kernel
theorem dX12_draw_77 : decode cX12_draw 77 = .ok (.iadd, 1) := by decide +kernel
theorem dX12_draw_78 : decode cX12_draw 78 = .ok (.aload_n 0, 1) := by decide +kernel
theorem dX12_draw_79 : decode cX12_draw 79 = .ok (.getfield 101, 3) := by decide +kernel
theorem dX12_draw_82 : decode cX12_draw 82 = .ok (.sipush 144, 3) := by decide +kernel
theorem dX12_draw_85 : decode cX12_draw 85 = .ok (.iload 4, 2) := by decide +kernel
theorem dX12_draw_87 : decode cX12_draw 87 = .ok (.imul, 1) := by decide +kernel
theorem dX12_draw_88 : decode cX12_draw 88 = .ok (.iload 5, 2) := by decide +kernel
theorem dX12_draw_90 : decode cX12_draw 90 = .ok (.iadd, 1) := by decide +kernel
theorem dX12_draw_91 : decode cX12_draw 91 = .ok (.iaload, 1) := by decide +kernel
theorem dX12_draw_92 : decode cX12_draw 92 = .ok (.iastore, 1) := by decide +kernel
theorem dX12_draw_93 : decode cX12_draw 93 = .ok (.aload_n 0, 1) := by decide +kernel
theorem dX12_draw_94 : decode cX12_draw 94 = .ok (.getfield 104, 3) := by decide +kernel
theorem dX12_draw_97 : decode cX12_draw 97 = .ok (.iload_n 1, 1) := by decide +kernel
theorem dX12_draw_98 : decode cX12_draw 98 = .ok (.dup2, 1) := by decide +kernel
theorem dX12_draw_99 : decode cX12_draw 99 = .ok (.iaload, 1) := by decide +kernel
theorem dX12_draw_100 : decode cX12_draw 100 = .ok (.iconst 1, 1) := by decide +kernel
theorem dX12_draw_101 : decode cX12_draw 101 = .ok (.iadd, 1) := by decide +kernel
theorem dX12_draw_102 : decode cX12_draw 102 = .ok (.iastore, 1) := by decide +kernel
theorem dX12_draw_103 : decode cX12_draw 103 = .ok (.iinc 5 1, 3) := by decide +kernel
theorem dX12_draw_106 : decode cX12_draw 106 = .ok (.goto (-76), 3) := by decide +kernel
theorem dX12_draw_109 : decode cX12_draw 109 = .ok (.aload_n 0, 1) := by decide +kernel
theorem dX12_draw_110 : decode cX12_draw 110 = .ok (.getfield 107, 3) := by decide +kernel
theorem dX12_draw_113 : decode cX12_draw 113 = .ok (.iload_n 1, 1) := by decide +kernel
theorem dX12_draw_114 : decode cX12_draw 114 = .ok (.aload_n 0, 1) := by decide +kernel
theorem dX12_draw_115 : decode cX12_draw 115 = .ok (.getfield 104, 3) := by decide +kernel
theorem dX12_draw_118 : decode cX12_draw 118 = .ok (.iload_n 1, 1) := by decide +kernel
theorem dX12_draw_119 : decode cX12_draw 119 = .ok (.iaload, 1) := by decide +kernel
theorem dX12_draw_120 : decode cX12_draw 120 = .ok (.iastore, 1) := by decide +kernel
theorem dX12_draw_121 : decode cX12_draw 121 = .ok (.iload_n 2, 1) := by decide +kernel
theorem dX12_draw_122 : decode cX12_draw 122 = .ok (.istore 5, 2) := by decide +kernel
theorem dX12_draw_124 : decode cX12_draw 124 = .ok (.iconst 0, 1) := by decide +kernel
theorem dX12_draw_125 : decode cX12_draw 125 = .ok (.istore 6, 2) := by decide +kernel
theorem dX12_draw_127 : decode cX12_draw 127 = .ok (.iload 6, 2) := by decide +kernel
theorem dX12_draw_129 : decode cX12_draw 129 = .ok (.bipush 12, 2) := by decide +kernel
theorem dX12_draw_131 : decode cX12_draw 131 = .ok (.if_icmp .ge 69, 3) := by decide +kernel
theorem dX12_draw_134 : decode cX12_draw 134 = .ok (.aload_n 0, 1) := by decide +kernel
theorem dX12_draw_135 : decode cX12_draw 135 = .ok (.iload_n 1, 1) := by decide +kernel
theorem dX12_draw_136 : decode cX12_draw 136 = .ok (.iload 6, 2) := by decide +kernel
theorem dX12_draw_138 : decode cX12_draw 138 = .ok (.invokevirtual 404, 3) := by decide +kernel
theorem dX12_draw_141 : decode cX12_draw 141 = .ok (.aload_n 0, 1) := by decide +kernel
theorem dX12_draw_142 : decode cX12_draw 142 = .ok (.iconst 5, 1) := by decide +kernel
theorem dX12_draw_143 : decode cX12_draw 143 = .ok (.invokevirtual 407, 3) := by decide +kernel
theorem dX12_draw_146 : decode cX12_draw 146 = .ok (.istore 7, 2) := by decide +kernel
theorem dX12_draw_148 : decode cX12_draw 148 = .ok (.aload_n 0, 1) := by decide +kernel
theorem dX12_draw_149 : decode cX12_draw 149 = .ok (.bipush 100, 2) := by decide +kernel
theorem dX12_draw_151 : decode cX12_draw 151 = .ok (.invokevirtual 432, 3) := by decide +kernel
theorem dX12_draw_154 : decode cX12_draw 154 = .ok (.iload 7, 2) := by decide +kernel
theorem dX12_draw_156 : decode cX12_draw 156 = .ok (.if_icmp .lt 6, 3) := by decide +kernel
theorem dX12_draw_159 : decode cX12_draw 159 = .ok (.goto 35, 3) := by decide +kernel
theorem dX12_draw_162 : decode cX12_draw 162 = .ok (.aload_n 0, 1) := by decide +kernel
theorem dX12_draw_163 : decode cX12_draw 163 = .ok (.getfield 101, 3) := by decide +kernel
theorem dX12_draw_166 : decode cX12_draw 166 = .ok (.sipush 144, 3) := by decide +kernel
theorem dX12_draw_169 : decode cX12_draw 169 = .ok (.iload_n 1, 1) := by decide +kernel
theorem dX12_draw_170 : decode cX12_draw 170 = .ok (.imul, 1) := by decide +kernel
theorem dX12_draw_171 : decode cX12_draw 171 = .ok (.aload_n 0, 1) := by decide +kernel
theorem dX12_draw_172 : decode cX12_draw 172 = .ok (.getfield 104, 3) := by decide +kernel
theorem dX12_draw_175 : decode cX12_draw 175 = .ok (.iload_n 1, 1) := by decide +kernel
theorem dX12_draw_176 : decode cX12_draw 176 = .ok (.iaload, 1) := by decide +kernel
theorem dX12_draw_177 : decode cX12_draw 177 = .ok (.iadd, 1) := by decide +kernel
theorem dX12_draw_178 : decode cX12_draw 178 = .ok (.iload 5, 2) := by decide +kernel
theorem dX12_draw_180 : decode cX12_draw 180 = .ok (.iastore, 1) := by decide +kernel
theorem dX12_draw_181 : decode cX12_draw 181 = .ok (.aload_n 0, 1) := by decide +kernel
theorem dX12_draw_182 : decode cX12_draw 182 = .ok (.getfield 104, 3) := by decide +kernel
theorem dX12_draw_185 : decode cX12_draw 185 = .ok (.iload_n 1, 1) := by decide +kernel
theorem dX12_draw_186 : decode cX12_draw 186 = .ok (.dup2, 1) := by decide +kernel
theorem dX12_draw_187 : decode cX12_draw 187 = .ok (.iaload, 1) := by decide +kernel
theorem dX12_draw_188 : decode cX12_draw 188 = .ok (.iconst 1, 1) := by decide +kernel
theorem dX12_draw_189 : decode cX12_draw 189 = .ok (.iadd, 1) := by decide +kernel
theorem dX12_draw_190 : decode cX12_draw 190 = .ok (.iastore, 1) := by decide +kernel
theorem dX12_draw_191 : decode cX12_draw 191 = .ok (.iinc 5 1, 3) := by decide +kernel
theorem dX12_draw_194 : decode cX12_draw 194 = .ok (.iinc 6 1, 3) := by decide +kernel
theorem dX12_draw_197 : decode cX12_draw 197 = .ok (.goto (-70), 3) := by decide +kernel
theorem dX12_draw_200 : decode cX12_draw 200 = .ok (.return_, 1) := by decide +kernel
theorem dX12_run_0 : decode cX12_run 0 = .ok (.iload_n 1, 1) := by decide +kernel
theorem dX12_run_1 : decode cX12_run 1 = .ok (.iconst 0, 1) := by decide +kernel
theorem dX12_run_2 : decode cX12_run 2 = .ok (.ldc 181, 2) := by decide +kernel
theorem dX12_run_4 : decode cX12_run 4 = .ok (.invokestatic 113, 3) := by decide +kernel
theorem dX12_run_7 : decode cX12_run 7 = .ok (.ifCond .ne 9, 3) := by decide +kernel
theorem dX12_run_10 : decode cX12_run 10 = .ok (.aload_n 0, 1) := by decide +kernel
theorem dX12_run_11 : decode cX12_run 11 = .ok (.iconst (-1), 1) := by decide +kernel
theorem dX12_run_12 : decode cX12_run 12 = .ok (.invokevirtual 117, 3) := by decide +kernel
theorem dX12_run_15 : decode cX12_run 15 = .ok (.ireturn, 1) := by decide +kernel
theorem dX12_run_16 : decode cX12_run 16 = .ok (.aload_n 0, 1) := by decide +kernel
theorem dX12_run_17 : decode cX12_run 17 = .ok (.invokevirtual 346, 3) := by decide +kernel
theorem dX12_run_20 : decode cX12_run 20 = .ok (.aload_n 0, 1) := by decide +kernel
theorem dX12_run_21 : decode cX12_run 21 = .ok (.iload_n 1, 1) := by decide +kernel
theorem dX12_run_22 : decode cX12_run 22 = .ok (.putfield 425, 3) := by decide +kernel
theorem dX12_run_25 : decode cX12_run 25 = .ok (.aload_n 0, 1) := by decide +kernel
theorem dX12_run_26 : decode cX12_run 26 = .ok (.aload_n 0, 1) := by decide +kernel
theorem dX12_run_27 : decode cX12_run 27 = .ok (.invokevirtual 124, 3) := by decide +kernel
theorem dX12_run_30 : decode cX12_run 30 = .ok (.putfield 110, 3) := by decide +kernel
theorem dX12_run_33 : decode cX12_run 33 = .ok (.iconst 0, 1) := by decide +kernel
theorem dX12_run_34 : decode cX12_run 34 = .ok (.istore_n 2, 1) := by decide +kernel
theorem dX12_run_35 : decode cX12_run 35 = .ok (.iconst 0, 1) := by decide +kernel
theorem dX12_run_36 : decode cX12_run 36 = .ok (.istore_n 3, 1) := by decide +kernel
theorem dX12_run_37 : decode cX12_run 37 = .ok (.iconst 0, 1) := by decide +kernel
theorem dX12_run_38 : decode cX12_run 38 = .ok (.istore 4, 2) := by decide +kernel
theorem dX12_run_40 : decode cX12_run 40 = .ok (.iload 4, 2) := by decide +kernel
theorem dX12_run_42 : decode cX12_run 42 = .ok (.aload_n 0, 1) := by decide +kernel
theorem dX12_run_43 : decode cX12_run 43 = .ok (.getfield 110, 3) := by decide +kernel
theorem dX12_run_46 : decode cX12_run 46 = .ok (.if_icmp .ge 82, 3) := by decide +kernel
theorem dX12_run_49 : decode cX12_run 49 = .ok (.iconst 0, 1) := by decide +kernel
theorem dX12_run_50 : decode cX12_run 50 = .ok (.istore 5, 2) := by decide +kernel
theorem dX12_run_52 : decode cX12_run 52 = .ok (.iload_n 2, 1) := by decide +kernel
theorem dX12_run_53 : decode cX12_run 53 = .ok (.iload 5, 2) := by decide +kernel
theorem dX12_run_55 : decode cX12_run 55 = .ok (.ishr, 1) := by decide +kernel
theorem dX12_run_56 : decode cX12_run 56 = .ok (.iconst 1, 1) := by decide +kernel
theorem dX12_run_57 : decode cX12_run 57 = .ok (.iand, 1) := by decide +kernel
theorem dX12_run_58 : decode cX12_run 58 = .ok (.iconst 1, 1) := by decide +kernel
theorem dX12_run_59 : decode cX12_run 59 = .ok (.if_icmp .eq 29, 3) := by decide +kernel
theorem dX12_run_62 : decode cX12_run 62 = .ok (.aload_n 0, 1) := by decide +kernel
theorem dX12_run_63 : decode cX12_run 63 = .ok (.getfield 67, 3) := by decide +kernel
theorem dX12_run_66 : decode cX12_run 66 = .ok (.iload 5, 2) := by decide +kernel
theorem dX12_run_68 : decode cX12_run 68 = .ok (.iaload, 1) := by decide +kernel
theorem dX12_run_69 : decode cX12_run 69 = .ok (.bipush 12, 2) := by decide +kernel
theorem dX12_run_71 : decode cX12_run 71 = .ok (.if_icmp .eq 23, 3) := by decide +kernel
theorem dX12_run_74 : decode cX12_run 74 = .ok (.iload_n 2, 1) := by decide +kernel
theorem dX12_run_75 : decode cX12_run 75 = .ok (.aload_n 0, 1) := by decide +kernel
theorem dX12_run_76 : decode cX12_run 76 = .ok (.getfield 67, 3) := by decide +kernel
theorem dX12_run_79 : decode cX12_run 79 = .ok (.iload 5, 2) := by decide +kernel
theorem dX12_run_81 : decode cX12_run 81 = .ok (.iaload, 1) := by decide +kernel
theorem dX12_run_82 : decode cX12_run 82 = .ok (.ishr, 1) := by decide +kernel
theorem dX12_run_83 : decode cX12_run 83 = .ok (.iconst 1, 1) := by decide +kernel
theorem dX12_run_84 : decode cX12_run 84 = .ok (.iand, 1) := by decide +kernel
theorem dX12_run_85 : decode cX12_run 85 = .ok (.ifCond .ne 9, 3) := by decide +kernel
theorem dX12_run_88 : decode cX12_run 88 = .ok (.iinc 5 1, 3) := by decide +kernel
theorem dX12_run_91 : decode cX12_run 91 = .ok (.goto (-39), 3) := by decide +kernel
theorem dX12_run_94 : decode cX12_run 94 = .ok (.aload_n 0, 1) := by decide +kernel
theorem dX12_run_95 : decode cX12_run 95 = .ok (.iload 5, 2) := by decide +kernel
theorem dX12_run_97 : decode cX12_run 97 = .ok (.bipush 12, 2) := by decide +kernel
theorem dX12_run_99 : decode cX12_run 99 = .ok (.iload 4, 2) := by decide +kernel
theorem dX12_run_101 : decode cX12_run 101 = .ok (.imul, 1) := by decide +kernel
theorem dX12_run_102 : decode cX12_run 102 = .ok (.invokevirtual 435, 3) := by decide +kernel
theorem dX12_run_105 : decode cX12_run 105 = .ok (.iload_n 2, 1) := by decide +kernel
theorem dX12_run_106 : decode cX12_run 106 = .ok (.iconst 1, 1) := by decide +kernel
theorem dX12_run_107 : decode cX12_run 107 = .ok (.iload 5, 2) := by decide +kernel
theorem dX12_run_109 : decode cX12_run 109 = .ok (.ishl, 1) := by decide +kernel
theorem dX12_run_110 : decode cX12_run 110 = .ok (.ior, 1) := by decide +kernel
theorem dX12_run_111 : decode cX12_run 111 = .ok (.istore_n 2, 1) := by decide +kernel
theorem dX12_run_112 : decode cX12_run 112 = .ok (.iload_n 3, 1) := by decide +kernel
theorem dX12_run_113 : decode cX12_run 113 = .ok (.aload_n 0, 1) := by decide +kernel
theorem dX12_run_114 : decode cX12_run 114 = .ok (.getfield 104, 3) := by decide +kernel
theorem dX12_run_117 : decode cX12_run 117 = .ok (.iload 5, 2) := by decide +kernel
theorem dX12_run_119 : decode cX12_run 119 = .ok (.iaload, 1) := by decide +kernel
theorem dX12_run_120 : decode cX12_run 120 = .ok (.iadd, 1) := by decide +kernel
theorem dX12_run_121 : decode cX12_run 121 = .ok (.istore_n 3, 1) := by decide +kernel
theorem dX12_run_122 : decode cX12_run 122 = .ok (.iinc 4 1, 3) := by decide +kernel
theorem dX12_run_125 : decode cX12_run 125 = .ok (.goto (-85), 3) := by decide +kernel
theorem dX12_run_128 : decode cX12_run 128 = .ok (.aload_n 0, 1) := by decide +kernel
theorem dX12_run_129 : decode cX12_run 129 = .ok (.iload_n 3, 1) := by decide +kernel
theorem dX12_run_130 : decode cX12_run 130 = .ok (.invokevirtual 121, 3) := by decide +kernel
theorem dX12_run_133 : decode cX12_run 133 = .ok (.ireturn, 1) := by decide +kernel
theorem dX12_hasWorld_0 : decode cX12_hasWorld 0 = .ok (.iconst 0, 1) := by decide +kernel
theorem dX12_hasWorld_1 : decode cX12_hasWorld 1 = .ok (.istore_n 3, 1) := by decide +kernel
theorem dX12_hasWorld_2 : decode cX12_hasWorld 2 = .ok (.iconst 0, 1) := by decide +kernel
theorem dX12_hasWorld_3 : decode cX12_hasWorld 3 = .ok (.istore 4, 2) := by decide +kernel
theorem dX12_hasWorld_5 : decode cX12_hasWorld 5 = .ok (.iload 4, 2) := by decide +kernel
theorem dX12_hasWorld_7 : decode cX12_hasWorld 7 = .ok (.aload_n 0, 1) := by decide +kernel
theorem dX12_hasWorld_8 : decode cX12_hasWorld 8 = .ok (.getfield 104, 3) := by decide +kernel
theorem dX12_hasWorld_11 : decode cX12_hasWorld 11 = .ok (.iload_n 1, 1) := by decide +kernel
theorem dX12_hasWorld_12 : decode cX12_hasWorld 12 = .ok (.iaload, 1) := by decide +kernel
theorem dX12_hasWorld_13 : decode cX12_hasWorld 13 = .ok (.if_icmp .ge 36, 3) := by decide +kernel
theorem dX12_hasWorld_16 : decode cX12_hasWorld 16 = .ok (.iload_n 3, 1) := by decide +kernel
theorem dX12_hasWorld_17 : decode cX12_hasWorld 17 = .ok (.ifCond .ne 20, 3) := by decide +kernel
theorem dX12_hasWorld_20 : decode cX12_hasWorld 20 = .ok (.aload_n 0, 1) := by decide +kernel
theorem dX12_hasWorld_21 : decode cX12_hasWorld 21 = .ok (.getfield 101, 3) := by decide +kernel
theorem dX12_hasWorld_24 : decode cX12_hasWorld 24 = .ok (.sipush 144, 3) := by decide +kernel
theorem dX12_hasWorld_27 : decode cX12_hasWorld 27 = .ok (.iload_n 1, 1) := by decide +kernel
theorem dX12_hasWorld_28 : decode cX12_hasWorld 28 = .ok (.imul, 1) := by decide +kernel
theorem dX12_hasWorld_29 : decode cX12_hasWorld 29 = .ok (.iload 4, 2) := by decide +kernel
theorem dX12_hasWorld_31 : decode cX12_hasWorld 31 = .ok (.iadd, 1) := by decide +kernel
theorem dX12_hasWorld_32 : decode cX12_hasWorld 32 = .ok (.iaload, 1) := by decide +kernel
theorem dX12_hasWorld_33 : decode cX12_hasWorld 33 = .ok (.iload_n 2, 1) := by decide +kernel
theorem dX12_hasWorld_34 : decode cX12_hasWorld 34 = .ok (.if_icmp .ne 7, 3) := by decide +kernel
theorem dX12_hasWorld_37 : decode cX12_hasWorld 37 = .ok (.iconst 1, 1) := by decide +kernel
theorem dX12_hasWorld_38 : decode cX12_hasWorld 38 = .ok (.goto 4, 3) := by decide +kernel
theorem dX12_hasWorld_41 : decode cX12_hasWorld 41 = .ok (.iconst 0, 1) := by decide +kernel
theorem dX12_hasWorld_42 : decode cX12_hasWorld 42 = .ok (.istore_n 3, 1) := by decide +kernel
theorem dX12_hasWorld_43 : decode cX12_hasWorld 43 = .ok (.iinc 4 1, 3) := by decide +kernel
theorem dX12_hasWorld_46 : decode cX12_hasWorld 46 = .ok (.goto (-41), 3) := by decide +kernel
theorem dX12_hasWorld_49 : decode cX12_hasWorld 49 = .ok (.iload_n 3, 1) := by decide +kernel
theorem dX12_hasWorld_50 : decode cX12_hasWorld 50 = .ok (.ireturn, 1) := by decide +kernel
theorem dX12_world_0 : decode cX12_world 0 = .ok (.iload_n 1, 1) := by decide +kernel
theorem dX12_world_1 : decode cX12_world 1 = .ok (.iconst 0, 1) := by decide +kernel
theorem dX12_world_2 : decode cX12_world 2 = .ok (.aload_n 0, 1) := by decide +kernel
theorem dX12_world_3 : decode cX12_world 3 = .ok (.getfield 110, 3) := by decide +kernel
theorem dX12_world_6 : decode cX12_world 6 = .ok (.iconst 1, 1) := by decide +kernel
theorem dX12_world_7 : decode cX12_world 7 = .ok (.isub, 1) := by decide +kernel
theorem dX12_world_8 : decode cX12_world 8 = .ok (.invokestatic 113, 3) := by decide +kernel
theorem dX12_world_11 : decode cX12_world 11 = .ok (.ifCond .eq 12, 3) := by decide +kernel
theorem dX12_world_14 : decode cX12_world 14 = .ok (.iload_n 2, 1) := by decide +kernel
theorem dX12_world_15 : decode cX12_world 15 = .ok (.iconst 0, 1) := by decide +kernel
theorem dX12_world_16 : decode cX12_world 16 = .ok (.iconst 2, 1) := by decide +kernel
theorem dX12_world_17 : decode cX12_world 17 = .ok (.invokestatic 113, 3) := by decide +kernel
theorem dX12_world_20 : decode cX12_world 20 = .ok (.ifCond .ne 5, 3) := by decide +kernel
theorem dX12_world_23 : decode cX12_world 23 = .ok (.iconst (-1), 1) := by decide +kernel
theorem dX12_world_24 : decode cX12_world 24 = .ok (.ireturn, 1) := by decide +kernel
theorem dX12_world_25 : decode cX12_world 25 = .ok (.iload_n 2, 1) := by decide +kernel
theorem dX12_world_26 : decode cX12_world 26 = .ok (.iconst 2, 1) := by decide +kernel
theorem dX12_world_27 : decode cX12_world 27 = .ok (.if_icmp .ge 23, 3) := by decide +kernel
theorem dX12_world_30 : decode cX12_world 30 = .ok (.iload_n 2, 1) := by decide +kernel
theorem dX12_world_31 : decode cX12_world 31 = .ok (.ifCond .ne 12, 3) := by decide +kernel
theorem dX12_world_34 : decode cX12_world 34 = .ok (.aload_n 0, 1) := by decide +kernel
theorem dX12_world_35 : decode cX12_world 35 = .ok (.getfield 104, 3) := by decide +kernel
theorem dX12_world_38 : decode cX12_world 38 = .ok (.iload_n 1, 1) := by decide +kernel
theorem dX12_world_39 : decode cX12_world 39 = .ok (.iaload, 1) := by decide +kernel
theorem dX12_world_40 : decode cX12_world 40 = .ok (.goto 9, 3) := by decide +kernel
theorem dX12_world_43 : decode cX12_world 43 = .ok (.aload_n 0, 1) := by decide +kernel
theorem dX12_world_44 : decode cX12_world 44 = .ok (.getfield 107, 3) := by decide +kernel
theorem dX12_world_47 : decode cX12_world 47 = .ok (.iload_n 1, 1) := by decide +kernel
theorem dX12_world_48 : decode cX12_world 48 = .ok (.iaload, 1) := by decide +kernel
theorem dX12_world_49 : decode cX12_world 49 = .ok (.ireturn, 1) := by decide +kernel
theorem dX12_world_50 : decode cX12_world 50 = .ok (.iconst 0, 1) := by decide +kernel
theorem dX12_world_51 : decode cX12_world 51 = .ok (.istore_n 3, 1) := by decide +kernel
theorem dX12_world_52 : decode cX12_world 52 = .ok (.iconst 0, 1) := by decide +kernel
theorem dX12_world_53 : decode cX12_world 53 = .ok (.istore 4, 2) := by decide +kernel
theorem dX12_world_55 : decode cX12_world 55 = .ok (.iload 4, 2) := by decide +kernel
theorem dX12_world_57 : decode cX12_world 57 = .ok (.aload_n 0, 1) := by decide +kernel
theorem dX12_world_58 : decode cX12_world 58 = .ok (.getfield 110, 3) := by decide +kernel
theorem dX12_world_61 : decode cX12_world 61 = .ok (.if_icmp .ge 45, 3) := by decide +kernel
theorem dX12_world_64 : decode cX12_world 64 = .ok (.aload_n 0, 1) := by decide +kernel
theorem dX12_world_65 : decode cX12_world 65 = .ok (.getfield 104, 3) := by decide +kernel
theorem dX12_world_68 : decode cX12_world 68 = .ok (.iload_n 1, 1) := by decide +kernel
theorem dX12_world_69 : decode cX12_world 69 = .ok (.iaload, 1) := by decide +kernel
theorem dX12_world_70 : decode cX12_world 70 = .ok (.ifCond .le 36, 3) := by decide +kernel
theorem dX12_world_73 : decode cX12_world 73 = .ok (.iload_n 3, 1) := by decide +kernel
theorem dX12_world_74 : decode cX12_world 74 = .ok (.aload_n 0, 1) := by decide +kernel
theorem dX12_world_75 : decode cX12_world 75 = .ok (.iload 4, 2) := by decide +kernel
theorem dX12_world_77 : decode cX12_world 77 = .ok (.aload_n 0, 1) := by decide +kernel
theorem dX12_world_78 : decode cX12_world 78 = .ok (.getfield 101, 3) := by decide +kernel
theorem dX12_world_81 : decode cX12_world 81 = .ok (.sipush 144, 3) := by decide +kernel
theorem dX12_world_84 : decode cX12_world 84 = .ok (.iload_n 1, 1) := by decide +kernel
theorem dX12_world_85 : decode cX12_world 85 = .ok (.imul, 1) := by decide +kernel
theorem dX12_world_86 : decode cX12_world 86 = .ok (.iaload, 1) := by decide +kernel
theorem dX12_world_87 : decode cX12_world 87 = .ok (.invokevirtual 438, 3) := by decide +kernel
theorem dX12_world_90 : decode cX12_world 90 = .ok (.ifCond .eq 7, 3) := by decide +kernel
theorem dX12_world_93 : decode cX12_world 93 = .ok (.iconst 1, 1) := by decide +kernel
theorem dX12_world_94 : decode cX12_world 94 = .ok (.goto 4, 3) := by decide +kernel
theorem dX12_world_97 : decode cX12_world 97 = .ok (.iconst 0, 1) := by decide +kernel
theorem dX12_world_98 : decode cX12_world 98 = .ok (.iadd, 1) := by decide +kernel
theorem dX12_world_99 : decode cX12_world 99 = .ok (.istore_n 3, 1) := by decide +kernel
theorem dX12_world_100 : decode cX12_world 100 = .ok (.iinc 4 1, 3) := by decide +kernel
theorem dX12_world_103 : decode cX12_world 103 = .ok (.goto (-48), 3) := by decide +kernel
theorem dX12_world_106 : decode cX12_world 106 = .ok (.iload_n 3, 1) := by decide +kernel
theorem dX12_world_107 : decode cX12_world 107 = .ok (.ireturn, 1) := by decide +kernel
theorem dX12_count_0 : decode cX12_count 0 = .ok (.iconst 0, 1) := by decide +kernel
theorem dX12_count_1 : decode cX12_count 1 = .ok (.istore_n 2, 1) := by decide +kernel
theorem dX12_count_2 : decode cX12_count 2 = .ok (.iconst 0, 1) := by decide +kernel
theorem dX12_count_3 : decode cX12_count 3 = .ok (.istore_n 3, 1) := by decide +kernel
theorem dX12_count_4 : decode cX12_count 4 = .ok (.iload_n 3, 1) := by decide +kernel
theorem dX12_count_5 : decode cX12_count 5 = .ok (.aload_n 0, 1) := by decide +kernel
theorem dX12_count_6 : decode cX12_count 6 = .ok (.invokevirtual 124, 3) := by decide +kernel
theorem dX12_count_9 : decode cX12_count 9 = .ok (.if_icmp .ge 18, 3) := by decide +kernel
theorem dX12_count_12 : decode cX12_count 12 = .ok (.iload_n 2, 1) := by decide +kernel
theorem dX12_count_13 : decode cX12_count 13 = .ok (.aload_n 0, 1) := by decide +kernel
theorem dX12_count_14 : decode cX12_count 14 = .ok (.iload_n 3, 1) := by decide +kernel
theorem dX12_count_15 : decode cX12_count 15 = .ok (.iconst 2, 1) := by decide +kernel
theorem dX12_count_16 : decode cX12_count 16 = .ok (.invokevirtual 299, 3) := by decide +kernel
theorem dX12_count_19 : decode cX12_count 19 = .ok (.iadd, 1) := by decide +kernel
theorem dX12_count_20 : decode cX12_count 20 = .ok (.istore_n 2, 1) := by decide +kernel
theorem dX12_count_21 : decode cX12_count 21 = .ok (.iinc 3 1, 3) := by decide +kernel
theorem dX12_count_24 : decode cX12_count 24 = .ok (.goto (-20), 3) := by decide +kernel
theorem dX12_count_27 : decode cX12_count 27 = .ok (.iconst 0, 1) := by decide +kernel
theorem dX12_count_28 : decode cX12_count 28 = .ok (.istore_n 3, 1) := by decide +kernel
theorem dX12_count_29 : decode cX12_count 29 = .ok (.iconst 0, 1) := by decide +kernel
theorem dX12_count_30 : decode cX12_count 30 = .ok (.istore 4, 2) := by decide +kernel
theorem dX12_count_32 : decode cX12_count 32 = .ok (.iload 4, 2) := by decide +kernel
theorem dX12_count_34 : decode cX12_count 34 = .ok (.aload_n 0, 1) := by decide +kernel
theorem dX12_count_35 : decode cX12_count 35 = .ok (.getfield 20, 3) := by decide +kernel
theorem dX12_count_38 : decode cX12_count 38 = .ok (.sipush 1347, 3) := by decide +kernel
theorem dX12_count_41 : decode cX12_count 41 = .ok (.iaload, 1) := by decide +kernel
theorem dX12_count_42 : decode cX12_count 42 = .ok (.if_icmp .ge 27, 3) := by decide +kernel
theorem dX12_count_45 : decode cX12_count 45 = .ok (.iload_n 3, 1) := by decide +kernel
theorem dX12_count_46 : decode cX12_count 46 = .ok (.aload_n 0, 1) := by decide +kernel
theorem dX12_count_47 : decode cX12_count 47 = .ok (.iload 4, 2) := by decide +kernel
theorem dX12_count_49 : decode cX12_count 49 = .ok (.iconst 4, 1) := by decide +kernel
theorem dX12_count_50 : decode cX12_count 50 = .ok (.invokevirtual 143, 3) := by decide +kernel
theorem dX12_count_53 : decode cX12_count 53 = .ok (.ifCond .ne 7, 3) := by decide +kernel
theorem dX12_count_56 : decode cX12_count 56 = .ok (.iconst 1, 1) := by decide +kernel
theorem dX12_count_57 : decode cX12_count 57 = .ok (.goto 4, 3) := by decide +kernel
theorem dX12_count_60 : decode cX12_count 60 = .ok (.iconst 0, 1) := by decide +kernel
theorem dX12_count_61 : decode cX12_count 61 = .ok (.iadd, 1) := by decide +kernel
theorem dX12_count_62 : decode cX12_count 62 = .ok (.istore_n 3, 1) := by decide +kernel
theorem dX12_count_63 : decode cX12_count 63 = .ok (.iinc 4 1, 3) := by decide +kernel
theorem dX12_count_66 : decode cX12_count 66 = .ok (.goto (-34), 3) := by decide +kernel
theorem dX12_count_69 : decode cX12_count 69 = .ok (.iload_n 1, 1) := by decide +kernel
theorem dX12_count_70 : decode cX12_count 70 = .ok (.tableswitch 154 0 13 #[70, 75, 84, 93, 102, 111, 113, 115, 120, 120, 120, 130, 137, 145], 70) := by decide +kernel
theorem dX12_count_140 : decode cX12_count 140 = .ok (.aload_n 0, 1) := by decide +kernel
theorem dX12_count_141 : decode cX12_count 141 = .ok (.invokevirtual 124, 3) := by decide +kernel
theorem dX12_count_144 : decode cX12_count 144 = .ok (.ireturn, 1) := by decide +kernel
theorem dX12_count_145 : decode cX12_count 145 = .ok (.aload_n 0, 1) := by decide +kernel
theorem dX12_count_146 : decode cX12_count 146 = .ok (.getfield 20, 3) := by decide +kernel
theorem dX12_count_149 : decode cX12_count 149 = .ok (.sipush 1345, 3) := by decide +kernel
theorem dX12_count_152 : decode cX12_count 152 = .ok (.iaload, 1) := by decide +kernel
theorem dX12_count_153 : decode cX12_count 153 = .ok (.ireturn, 1) := by decide +kernel
theorem dX12_count_154 : decode cX12_count 154 = .ok (.aload_n 0, 1) := by decide +kernel
theorem dX12_count_155 : decode cX12_count 155 = .ok (.getfield 20, 3) := by decide +kernel
theorem dX12_count_158 : decode cX12_count 158 = .ok (.sipush 1346, 3) := by decide +kernel
theorem dX12_count_161 : decode cX12_count 161 = .ok (.iaload, 1) := by decide +kernel
theorem dX12_count_162 : decode cX12_count 162 = .ok (.ireturn, 1) := by decide +kernel
theorem dX12_count_163 : decode cX12_count 163 = .ok (.aload_n 0, 1) := by decide +kernel
theorem dX12_count_164 : decode cX12_count 164 = .ok (.getfield 20, 3) := by decide +kernel
theorem dX12_count_167 : decode cX12_count 167 = .ok (.sipush 1347, 3) := by decide +kernel
theorem dX12_count_170 : decode cX12_count 170 = .ok (.iaload, 1) := by decide +kernel
theorem dX12_count_171 : decode cX12_count 171 = .ok (.ireturn, 1) := by decide +kernel
theorem dX12_count_172 : decode cX12_count 172 = .ok (.aload_n 0, 1) := by decide +kernel
theorem dX12_count_173 : decode cX12_count 173 = .ok (.getfield 20, 3) := by decide +kernel
theorem dX12_count_176 : decode cX12_count 176 = .ok (.sipush 1348, 3) := by decide +kernel
theorem dX12_count_179 : decode cX12_count 179 = .ok (.iaload, 1) := by decide +kernel
theorem dX12_count_180 : decode cX12_count 180 = .ok (.ireturn, 1) := by decide +kernel
theorem dX12_count_181 : decode cX12_count 181 = .ok (.iload_n 2, 1) := by decide +kernel
theorem dX12_count_182 : decode cX12_count 182 = .ok (.ireturn, 1) := by decide +kernel
theorem dX12_count_183 : decode cX12_count 183 = .ok (.iload_n 3, 1) := by decide +kernel
theorem dX12_count_184 : decode cX12_count 184 = .ok (.ireturn, 1) := by decide +kernel
theorem dX12_count_185 : decode cX12_count 185 = .ok (.aload_n 0, 1) := by decide +kernel
theorem dX12_count_186 : decode cX12_count 186 = .ok (.getfield 163, 3) := by decide +kernel
theorem dX12_count_189 : decode cX12_count 189 = .ok (.ireturn, 1) := by decide +kernel
theorem dX12_count_190 : decode cX12_count 190 = .ok (.aload_n 0, 1) := by decide +kernel
theorem dX12_count_191 : decode cX12_count 191 = .ok (.getfield 7, 3) := by decide +kernel
theorem dX12_count_194 : decode cX12_count 194 = .ok (.iload_n 1, 1) := by decide +kernel
theorem dX12_count_195 : decode cX12_count 195 = .ok (.bipush 7, 2) := by decide +kernel
theorem dX12_count_197 : decode cX12_count 197 = .ok (.isub, 1) := by decide +kernel
theorem dX12_count_198 : decode cX12_count 198 = .ok (.iaload, 1) := by decide +kernel
theorem dX12_count_199 : decode cX12_count 199 = .ok (.ireturn, 1) := by decide +kernel
theorem dX12_count_200 : decode cX12_count 200 = .ok (.aload_n 0, 1) := by decide +kernel
theorem dX12_count_201 : decode cX12_count 201 = .ok (.getfield 7, 3) := by decide +kernel
theorem dX12_count_204 : decode cX12_count 204 = .ok (.iconst 5, 1) := by decide +kernel
theorem dX12_count_205 : decode cX12_count 205 = .ok (.iaload, 1) := by decide +kernel
theorem dX12_count_206 : decode cX12_count 206 = .ok (.ireturn, 1) := by decide +kernel
theorem dX12_count_207 : decode cX12_count 207 = .ok (.aload_n 0, 1) := by decide +kernel
theorem dX12_count_208 : decode cX12_count 208 = .ok (.getfield 7, 3) := by decide +kernel
theorem dX12_count_211 : decode cX12_count 211 = .ok (.bipush 6, 2) := by decide +kernel
theorem dX12_count_213 : decode cX12_count 213 = .ok (.iaload, 1) := by decide +kernel
theorem dX12_count_214 : decode cX12_count 214 = .ok (.ireturn, 1) := by decide +kernel
theorem dX12_count_215 : decode cX12_count 215 = .ok (.aload_n 0, 1) := by decide +kernel
theorem dX12_count_216 : decode cX12_count 216 = .ok (.getfield 20, 3) := by decide +kernel
theorem dX12_count_219 : decode cX12_count 219 = .ok (.sipush 1349, 3) := by decide +kernel
theorem dX12_count_222 : decode cX12_count 222 = .ok (.iaload, 1) := by decide +kernel
theorem dX12_count_223 : decode cX12_count 223 = .ok (.ireturn, 1) := by decide +kernel
theorem dX12_count_224 : decode cX12_count 224 = .ok (.iconst (-1), 1) := by decide +kernel
theorem dX12_count_225 : decode cX12_count 225 = .ok (.ireturn, 1) := by decide +kernel
theorem dX12_status_0 : decode cX12_status 0 = .ok (.aload_n 0, 1) := by decide +kernel
theorem dX12_status_1 : decode cX12_status 1 = .ok (.getfield 3, 3) := by decide +kernel
theorem dX12_status_4 : decode cX12_status 4 = .ok (.ireturn, 1) := by decide +kernel
theorem dJ6_numberOfLeadingZeros_0f7a4_0 : decode cJ6_numberOfLeadingZeros_0f7a4 0 = .ok (.iload_n 0, 1) := by decide +kernel
theorem dJ6_numberOfLeadingZeros_0f7a4_1 : decode cJ6_numberOfLeadingZeros_0f7a4 1 = .ok (.ifCond .gt 14, 3) := by decide +kernel
theorem dJ6_numberOfLeadingZeros_0f7a4_4 : decode cJ6_numberOfLeadingZeros_0f7a4 4 = .ok (.iload_n 0, 1) := by decide +kernel
theorem dJ6_numberOfLeadingZeros_0f7a4_5 : decode cJ6_numberOfLeadingZeros_0f7a4 5 = .ok (.ifCond .ne 8, 3) := by decide +kernel
theorem dJ6_numberOfLeadingZeros_0f7a4_8 : decode cJ6_numberOfLeadingZeros_0f7a4 8 = .ok (.bipush 32, 2) := by decide +kernel
theorem dJ6_numberOfLeadingZeros_0f7a4_10 : decode cJ6_numberOfLeadingZeros_0f7a4 10 = .ok (.goto 4, 3) := by decide +kernel
theorem dJ6_numberOfLeadingZeros_0f7a4_13 : decode cJ6_numberOfLeadingZeros_0f7a4 13 = .ok (.iconst 0, 1) := by decide +kernel
theorem dJ6_numberOfLeadingZeros_0f7a4_14 : decode cJ6_numberOfLeadingZeros_0f7a4 14 = .ok (.ireturn, 1) := by decide +kernel
theorem dJ6_numberOfLeadingZeros_0f7a4_15 : decode cJ6_numberOfLeadingZeros_0f7a4 15 = .ok (.bipush 31, 2) := by decide +kernel
theorem dJ6_numberOfLeadingZeros_0f7a4_17 : decode cJ6_numberOfLeadingZeros_0f7a4 17 = .ok (.istore_n 1, 1) := by decide +kernel
theorem dJ6_numberOfLeadingZeros_0f7a4_18 : decode cJ6_numberOfLeadingZeros_0f7a4 18 = .ok (.iload_n 0, 1) := by decide +kernel
theorem dJ6_numberOfLeadingZeros_0f7a4_19 : decode cJ6_numberOfLeadingZeros_0f7a4 19 = .ok (.ldc_w 264, 3) := by decide +kernel
theorem dJ6_numberOfLeadingZeros_0f7a4_22 : decode cJ6_numberOfLeadingZeros_0f7a4 22 = .ok (.if_icmp .lt 11, 3) := by decide +kernel
theorem dJ6_numberOfLeadingZeros_0f7a4_25 : decode cJ6_numberOfLeadingZeros_0f7a4 25 = .ok (.iinc 1 (-16), 3) := by decide +kernel
theorem dJ6_numberOfLeadingZeros_0f7a4_28 : decode cJ6_numberOfLeadingZeros_0f7a4 28 = .ok (.iload_n 0, 1) := by decide +kernel
theorem dJ6_numberOfLeadingZeros_0f7a4_29 : decode cJ6_numberOfLeadingZeros_0f7a4 29 = .ok (.bipush 16, 2) := by decide +kernel
theorem dJ6_numberOfLeadingZeros_0f7a4_31 : decode cJ6_numberOfLeadingZeros_0f7a4 31 = .ok (.iushr, 1) := by decide +kernel
theorem dJ6_numberOfLeadingZeros_0f7a4_32 : decode cJ6_numberOfLeadingZeros_0f7a4 32 = .ok (.istore_n 0, 1) := by decide +kernel
theorem dJ6_numberOfLeadingZeros_0f7a4_33 : decode cJ6_numberOfLeadingZeros_0f7a4 33 = .ok (.iload_n 0, 1) := by decide +kernel
theorem dJ6_numberOfLeadingZeros_0f7a4_34 : decode cJ6_numberOfLeadingZeros_0f7a4 34 = .ok (.sipush 256, 3) := by decide +kernel
theorem dJ6_numberOfLeadingZeros_0f7a4_37 : decode cJ6_numberOfLeadingZeros_0f7a4 37 = .ok (.if_icmp .lt 11, 3) := by decide +kernel
theorem dJ6_numberOfLeadingZeros_0f7a4_40 : decode cJ6_numberOfLeadingZeros_0f7a4 40 = .ok (.iinc 1 (-8), 3) := by decide +kernel
theorem dJ6_numberOfLeadingZeros_0f7a4_43 : decode cJ6_numberOfLeadingZeros_0f7a4 43 = .ok (.iload_n 0, 1) := by decide +kernel
theorem dJ6_numberOfLeadingZeros_0f7a4_44 : decode cJ6_numberOfLeadingZeros_0f7a4 44 = .ok (.bipush 8, 2) := by decide +kernel
theorem dJ6_numberOfLeadingZeros_0f7a4_46 : decode cJ6_numberOfLeadingZeros_0f7a4 46 = .ok (.iushr, 1) := by decide +kernel
theorem dJ6_numberOfLeadingZeros_0f7a4_47 : decode cJ6_numberOfLeadingZeros_0f7a4 47 = .ok (.istore_n 0, 1) := by decide +kernel
theorem dJ6_numberOfLeadingZeros_0f7a4_48 : decode cJ6_numberOfLeadingZeros_0f7a4 48 = .ok (.iload_n 0, 1) := by decide +kernel
theorem dJ6_numberOfLeadingZeros_0f7a4_49 : decode cJ6_numberOfLeadingZeros_0f7a4 49 = .ok (.bipush 16, 2) := by decide +kernel
theorem dJ6_numberOfLeadingZeros_0f7a4_51 : decode cJ6_numberOfLeadingZeros_0f7a4 51 = .ok (.if_icmp .lt 10, 3) := by decide +kernel
theorem dJ6_numberOfLeadingZeros_0f7a4_54 : decode cJ6_numberOfLeadingZeros_0f7a4 54 = .ok (.iinc 1 (-4), 3) := by decide +kernel
theorem dJ6_numberOfLeadingZeros_0f7a4_57 : decode cJ6_numberOfLeadingZeros_0f7a4 57 = .ok (.iload_n 0, 1) := by decide +kernel
theorem dJ6_numberOfLeadingZeros_0f7a4_58 : decode cJ6_numberOfLeadingZeros_0f7a4 58 = .ok (.iconst 4, 1) := by decide +kernel
theorem dJ6_numberOfLeadingZeros_0f7a4_59 : decode cJ6_numberOfLeadingZeros_0f7a4 59 = .ok (.iushr, 1) := by decide +kernel
theorem dJ6_numberOfLeadingZeros_0f7a4_60 : decode cJ6_numberOfLeadingZeros_0f7a4 60 = .ok (.istore_n 0, 1) := by decide +kernel
theorem dJ6_numberOfLeadingZeros_0f7a4_61 : decode cJ6_numberOfLeadingZeros_0f7a4 61 = .ok (.iload_n 0, 1) := by decide +kernel
theorem dJ6_numberOfLeadingZeros_0f7a4_62 : decode cJ6_numberOfLeadingZeros_0f7a4 62 = .ok (.iconst 4, 1) := by decide +kernel
theorem dJ6_numberOfLeadingZeros_0f7a4_63 : decode cJ6_numberOfLeadingZeros_0f7a4 63 = .ok (.if_icmp .lt 10, 3) := by decide +kernel
theorem dJ6_numberOfLeadingZeros_0f7a4_66 : decode cJ6_numberOfLeadingZeros_0f7a4 66 = .ok (.iinc 1 (-2), 3) := by decide +kernel
theorem dJ6_numberOfLeadingZeros_0f7a4_69 : decode cJ6_numberOfLeadingZeros_0f7a4 69 = .ok (.iload_n 0, 1) := by decide +kernel
theorem dJ6_numberOfLeadingZeros_0f7a4_70 : decode cJ6_numberOfLeadingZeros_0f7a4 70 = .ok (.iconst 2, 1) := by decide +kernel
theorem dJ6_numberOfLeadingZeros_0f7a4_71 : decode cJ6_numberOfLeadingZeros_0f7a4 71 = .ok (.iushr, 1) := by decide +kernel
theorem dJ6_numberOfLeadingZeros_0f7a4_72 : decode cJ6_numberOfLeadingZeros_0f7a4 72 = .ok (.istore_n 0, 1) := by decide +kernel
theorem dJ6_numberOfLeadingZeros_0f7a4_73 : decode cJ6_numberOfLeadingZeros_0f7a4 73 = .ok (.iload_n 1, 1) := by decide +kernel
theorem dJ6_numberOfLeadingZeros_0f7a4_74 : decode cJ6_numberOfLeadingZeros_0f7a4 74 = .ok (.iload_n 0, 1) := by decide +kernel
theorem dJ6_numberOfLeadingZeros_0f7a4_75 : decode cJ6_numberOfLeadingZeros_0f7a4 75 = .ok (.iconst 1, 1) := by decide +kernel
theorem dJ6_numberOfLeadingZeros_0f7a4_76 : decode cJ6_numberOfLeadingZeros_0f7a4 76 = .ok (.iushr, 1) := by decide +kernel
theorem dJ6_numberOfLeadingZeros_0f7a4_77 : decode cJ6_numberOfLeadingZeros_0f7a4 77 = .ok (.isub, 1) := by decide +kernel
theorem dJ6_numberOfLeadingZeros_0f7a4_78 : decode cJ6_numberOfLeadingZeros_0f7a4 78 = .ok (.ireturn, 1) := by decide +kernel
theorem dJ6_numberOfTrailingZeros_0f7a4_0 : decode cJ6_numberOfTrailingZeros_0f7a4 0 = .ok (.iload_n 0, 1) := by decide +kernel
theorem dJ6_numberOfTrailingZeros_0f7a4_1 : decode cJ6_numberOfTrailingZeros_0f7a4 1 = .ok (.iconst (-1), 1) := by decide +kernel
theorem dJ6_numberOfTrailingZeros_0f7a4_2 : decode cJ6_numberOfTrailingZeros_0f7a4 2 = .ok (.ixor, 1) := by decide +kernel
theorem dJ6_numberOfTrailingZeros_0f7a4_3 : decode cJ6_numberOfTrailingZeros_0f7a4 3 = .ok (.iload_n 0, 1) := by decide +kernel
theorem dJ6_numberOfTrailingZeros_0f7a4_4 : decode cJ6_numberOfTrailingZeros_0f7a4 4 = .ok (.iconst 1, 1) := by decide +kernel
theorem dJ6_numberOfTrailingZeros_0f7a4_5 : decode cJ6_numberOfTrailingZeros_0f7a4 5 = .ok (.isub, 1) := by decide +kernel
theorem dJ6_numberOfTrailingZeros_0f7a4_6 : decode cJ6_numberOfTrailingZeros_0f7a4 6 = .ok (.iand, 1) := by decide +kernel
theorem dJ6_numberOfTrailingZeros_0f7a4_7 : decode cJ6_numberOfTrailingZeros_0f7a4 7 = .ok (.istore_n 0, 1) := by decide +kernel
theorem dJ6_numberOfTrailingZeros_0f7a4_8 : decode cJ6_numberOfTrailingZeros_0f7a4 8 = .ok (.iload_n 0, 1) := by decide +kernel
theorem dJ6_numberOfTrailingZeros_0f7a4_9 : decode cJ6_numberOfTrailingZeros_0f7a4 9 = .ok (.ifCond .gt 8, 3) := by decide +kernel
theorem dJ6_numberOfTrailingZeros_0f7a4_12 : decode cJ6_numberOfTrailingZeros_0f7a4 12 = .ok (.iload_n 0, 1) := by decide +kernel
theorem dJ6_numberOfTrailingZeros_0f7a4_13 : decode cJ6_numberOfTrailingZeros_0f7a4 13 = .ok (.bipush 32, 2) := by decide +kernel
theorem dJ6_numberOfTrailingZeros_0f7a4_15 : decode cJ6_numberOfTrailingZeros_0f7a4 15 = .ok (.iand, 1) := by decide +kernel
theorem dJ6_numberOfTrailingZeros_0f7a4_16 : decode cJ6_numberOfTrailingZeros_0f7a4 16 = .ok (.ireturn, 1) := by decide +kernel
theorem dJ6_numberOfTrailingZeros_0f7a4_17 : decode cJ6_numberOfTrailingZeros_0f7a4 17 = .ok (.iconst 1, 1) := by decide +kernel
theorem dJ6_numberOfTrailingZeros_0f7a4_18 : decode cJ6_numberOfTrailingZeros_0f7a4 18 = .ok (.istore_n 1, 1) := by decide +kernel
theorem dJ6_numberOfTrailingZeros_0f7a4_19 : decode cJ6_numberOfTrailingZeros_0f7a4 19 = .ok (.iload_n 0, 1) := by decide +kernel
theorem dJ6_numberOfTrailingZeros_0f7a4_20 : decode cJ6_numberOfTrailingZeros_0f7a4 20 = .ok (.ldc_w 264, 3) := by decide +kernel
theorem dJ6_numberOfTrailingZeros_0f7a4_23 : decode cJ6_numberOfTrailingZeros_0f7a4 23 = .ok (.if_icmp .le 11, 3) := by decide +kernel
theorem dJ6_numberOfTrailingZeros_0f7a4_26 : decode cJ6_numberOfTrailingZeros_0f7a4 26 = .ok (.iinc 1 16, 3) := by decide +kernel
theorem dJ6_numberOfTrailingZeros_0f7a4_29 : decode cJ6_numberOfTrailingZeros_0f7a4 29 = .ok (.iload_n 0, 1) := by decide +kernel
theorem dJ6_numberOfTrailingZeros_0f7a4_30 : decode cJ6_numberOfTrailingZeros_0f7a4 30 = .ok (.bipush 16, 2) := by decide +kernel
theorem dJ6_numberOfTrailingZeros_0f7a4_32 : decode cJ6_numberOfTrailingZeros_0f7a4 32 = .ok (.iushr, 1) := by decide +kernel
theorem dJ6_numberOfTrailingZeros_0f7a4_33 : decode cJ6_numberOfTrailingZeros_0f7a4 33 = .ok (.istore_n 0, 1) := by decide +kernel
theorem dJ6_numberOfTrailingZeros_0f7a4_34 : decode cJ6_numberOfTrailingZeros_0f7a4 34 = .ok (.iload_n 0, 1) := by decide +kernel
theorem dJ6_numberOfTrailingZeros_0f7a4_35 : decode cJ6_numberOfTrailingZeros_0f7a4 35 = .ok (.sipush 256, 3) := by decide +kernel
theorem dJ6_numberOfTrailingZeros_0f7a4_38 : decode cJ6_numberOfTrailingZeros_0f7a4 38 = .ok (.if_icmp .le 11, 3) := by decide +kernel
theorem dJ6_numberOfTrailingZeros_0f7a4_41 : decode cJ6_numberOfTrailingZeros_0f7a4 41 = .ok (.iinc 1 8, 3) := by decide +kernel
theorem dJ6_numberOfTrailingZeros_0f7a4_44 : decode cJ6_numberOfTrailingZeros_0f7a4 44 = .ok (.iload_n 0, 1) := by decide +kernel
theorem dJ6_numberOfTrailingZeros_0f7a4_45 : decode cJ6_numberOfTrailingZeros_0f7a4 45 = .ok (.bipush 8, 2) := by decide +kernel
theorem dJ6_numberOfTrailingZeros_0f7a4_47 : decode cJ6_numberOfTrailingZeros_0f7a4 47 = .ok (.iushr, 1) := by decide +kernel
theorem dJ6_numberOfTrailingZeros_0f7a4_48 : decode cJ6_numberOfTrailingZeros_0f7a4 48 = .ok (.istore_n 0, 1) := by decide +kernel
theorem dJ6_numberOfTrailingZeros_0f7a4_49 : decode cJ6_numberOfTrailingZeros_0f7a4 49 = .ok (.iload_n 0, 1) := by decide +kernel
theorem dJ6_numberOfTrailingZeros_0f7a4_50 : decode cJ6_numberOfTrailingZeros_0f7a4 50 = .ok (.bipush 16, 2) := by decide +kernel
theorem dJ6_numberOfTrailingZeros_0f7a4_52 : decode cJ6_numberOfTrailingZeros_0f7a4 52 = .ok (.if_icmp .le 10, 3) := by decide +kernel
theorem dJ6_numberOfTrailingZeros_0f7a4_55 : decode cJ6_numberOfTrailingZeros_0f7a4 55 = .ok (.iinc 1 4, 3) := by decide +kernel
theorem dJ6_numberOfTrailingZeros_0f7a4_58 : decode cJ6_numberOfTrailingZeros_0f7a4 58 = .ok (.iload_n 0, 1) := by decide +kernel
theorem dJ6_numberOfTrailingZeros_0f7a4_59 : decode cJ6_numberOfTrailingZeros_0f7a4 59 = .ok (.iconst 4, 1) := by decide +kernel
theorem dJ6_numberOfTrailingZeros_0f7a4_60 : decode cJ6_numberOfTrailingZeros_0f7a4 60 = .ok (.iushr, 1) := by decide +kernel
theorem dJ6_numberOfTrailingZeros_0f7a4_61 : decode cJ6_numberOfTrailingZeros_0f7a4 61 = .ok (.istore_n 0, 1) := by decide +kernel
theorem dJ6_numberOfTrailingZeros_0f7a4_62 : decode cJ6_numberOfTrailingZeros_0f7a4 62 = .ok (.iload_n 0, 1) := by decide +kernel
theorem dJ6_numberOfTrailingZeros_0f7a4_63 : decode cJ6_numberOfTrailingZeros_0f7a4 63 = .ok (.iconst 4, 1) := by decide +kernel
theorem dJ6_numberOfTrailingZeros_0f7a4_64 : decode cJ6_numberOfTrailingZeros_0f7a4 64 = .ok (.if_icmp .le 10, 3) := by decide +kernel
theorem dJ6_numberOfTrailingZeros_0f7a4_67 : decode cJ6_numberOfTrailingZeros_0f7a4 67 = .ok (.iinc 1 2, 3) := by decide +kernel
theorem dJ6_numberOfTrailingZeros_0f7a4_70 : decode cJ6_numberOfTrailingZeros_0f7a4 70 = .ok (.iload_n 0, 1) := by decide +kernel
theorem dJ6_numberOfTrailingZeros_0f7a4_71 : decode cJ6_numberOfTrailingZeros_0f7a4 71 = .ok (.iconst 2, 1) := by decide +kernel
theorem dJ6_numberOfTrailingZeros_0f7a4_72 : decode cJ6_numberOfTrailingZeros_0f7a4 72 = .ok (.iushr, 1) := by decide +kernel
theorem dJ6_numberOfTrailingZeros_0f7a4_73 : decode cJ6_numberOfTrailingZeros_0f7a4 73 = .ok (.istore_n 0, 1) := by decide +kernel
theorem dJ6_numberOfTrailingZeros_0f7a4_74 : decode cJ6_numberOfTrailingZeros_0f7a4 74 = .ok (.iload_n 1, 1) := by decide +kernel
theorem dJ6_numberOfTrailingZeros_0f7a4_75 : decode cJ6_numberOfTrailingZeros_0f7a4 75 = .ok (.iload_n 0, 1) := by decide +kernel
theorem dJ6_numberOfTrailingZeros_0f7a4_76 : decode cJ6_numberOfTrailingZeros_0f7a4 76 = .ok (.iconst 1, 1) := by decide +kernel
theorem dJ6_numberOfTrailingZeros_0f7a4_77 : decode cJ6_numberOfTrailingZeros_0f7a4 77 = .ok (.iushr, 1) := by decide +kernel
theorem dJ6_numberOfTrailingZeros_0f7a4_78 : decode cJ6_numberOfTrailingZeros_0f7a4 78 = .ok (.iadd, 1) := by decide +kernel
theorem dJ6_numberOfTrailingZeros_0f7a4_79 : decode cJ6_numberOfTrailingZeros_0f7a4 79 = .ok (.ireturn, 1) := by decide +kernel
theorem dJ6_bitCount_0f7a4_0 : decode cJ6_bitCount_0f7a4 0 = .ok (.iload_n 0, 1) := by decide +kernel
theorem dJ6_bitCount_0f7a4_1 : decode cJ6_bitCount_0f7a4 1 = .ok (.iload_n 0, 1) := by decide +kernel
theorem dJ6_bitCount_0f7a4_2 : decode cJ6_bitCount_0f7a4 2 = .ok (.iconst 1, 1) := by decide +kernel
theorem dJ6_bitCount_0f7a4_3 : decode cJ6_bitCount_0f7a4 3 = .ok (.iushr, 1) := by decide +kernel
theorem dJ6_bitCount_0f7a4_4 : decode cJ6_bitCount_0f7a4 4 = .ok (.ldc_w 265, 3) := by decide +kernel
theorem dJ6_bitCount_0f7a4_7 : decode cJ6_bitCount_0f7a4 7 = .ok (.iand, 1) := by decide +kernel
theorem dJ6_bitCount_0f7a4_8 : decode cJ6_bitCount_0f7a4 8 = .ok (.isub, 1) := by decide +kernel
theorem dJ6_bitCount_0f7a4_9 : decode cJ6_bitCount_0f7a4 9 = .ok (.istore_n 0, 1) := by decide +kernel
theorem dJ6_bitCount_0f7a4_10 : decode cJ6_bitCount_0f7a4 10 = .ok (.iload_n 0, 1) := by decide +kernel
theorem dJ6_bitCount_0f7a4_11 : decode cJ6_bitCount_0f7a4 11 = .ok (.ldc_w 266, 3) := by decide +kernel
theorem dJ6_bitCount_0f7a4_14 : decode cJ6_bitCount_0f7a4 14 = .ok (.iand, 1) := by decide +kernel
theorem dJ6_bitCount_0f7a4_15 : decode cJ6_bitCount_0f7a4 15 = .ok (.iload_n 0, 1) := by decide +kernel
theorem dJ6_bitCount_0f7a4_16 : decode cJ6_bitCount_0f7a4 16 = .ok (.iconst 2, 1) := by decide +kernel
theorem dJ6_bitCount_0f7a4_17 : decode cJ6_bitCount_0f7a4 17 = .ok (.iushr, 1) := by decide +kernel
theorem dJ6_bitCount_0f7a4_18 : decode cJ6_bitCount_0f7a4 18 = .ok (.ldc_w 266, 3) := by decide +kernel
theorem dJ6_bitCount_0f7a4_21 : decode cJ6_bitCount_0f7a4 21 = .ok (.iand, 1) := by decide +kernel
theorem dJ6_bitCount_0f7a4_22 : decode cJ6_bitCount_0f7a4 22 = .ok (.iadd, 1) := by decide +kernel
theorem dJ6_bitCount_0f7a4_23 : decode cJ6_bitCount_0f7a4 23 = .ok (.istore_n 0, 1) := by decide +kernel
theorem dJ6_bitCount_0f7a4_24 : decode cJ6_bitCount_0f7a4 24 = .ok (.iload_n 0, 1) := by decide +kernel
theorem dJ6_bitCount_0f7a4_25 : decode cJ6_bitCount_0f7a4 25 = .ok (.iload_n 0, 1) := by decide +kernel
theorem dJ6_bitCount_0f7a4_26 : decode cJ6_bitCount_0f7a4 26 = .ok (.iconst 4, 1) := by decide +kernel
theorem dJ6_bitCount_0f7a4_27 : decode cJ6_bitCount_0f7a4 27 = .ok (.iushr, 1) := by decide +kernel
theorem dJ6_bitCount_0f7a4_28 : decode cJ6_bitCount_0f7a4 28 = .ok (.iadd, 1) := by decide +kernel
theorem dJ6_bitCount_0f7a4_29 : decode cJ6_bitCount_0f7a4 29 = .ok (.ldc_w 267, 3) := by decide +kernel
theorem dJ6_bitCount_0f7a4_32 : decode cJ6_bitCount_0f7a4 32 = .ok (.iand, 1) := by decide +kernel
theorem dJ6_bitCount_0f7a4_33 : decode cJ6_bitCount_0f7a4 33 = .ok (.istore_n 0, 1) := by decide +kernel
theorem dJ6_bitCount_0f7a4_34 : decode cJ6_bitCount_0f7a4 34 = .ok (.iload_n 0, 1) := by decide +kernel
theorem dJ6_bitCount_0f7a4_35 : decode cJ6_bitCount_0f7a4 35 = .ok (.iload_n 0, 1) := by decide +kernel
theorem dJ6_bitCount_0f7a4_36 : decode cJ6_bitCount_0f7a4 36 = .ok (.bipush 8, 2) := by decide +kernel
theorem dJ6_bitCount_0f7a4_38 : decode cJ6_bitCount_0f7a4 38 = .ok (.iushr, 1) := by decide +kernel
theorem dJ6_bitCount_0f7a4_39 : decode cJ6_bitCount_0f7a4 39 = .ok (.iadd, 1) := by decide +kernel
theorem dJ6_bitCount_0f7a4_40 : decode cJ6_bitCount_0f7a4 40 = .ok (.istore_n 0, 1) := by decide +kernel
theorem dJ6_bitCount_0f7a4_41 : decode cJ6_bitCount_0f7a4 41 = .ok (.iload_n 0, 1) := by decide +kernel
theorem dJ6_bitCount_0f7a4_42 : decode cJ6_bitCount_0f7a4 42 = .ok (.iload_n 0, 1) := by decide +kernel
theorem dJ6_bitCount_0f7a4_43 : decode cJ6_bitCount_0f7a4 43 = .ok (.bipush 16, 2) := by decide +kernel
theorem dJ6_bitCount_0f7a4_45 : decode cJ6_bitCount_0f7a4 45 = .ok (.iushr, 1) := by decide +kernel
theorem dJ6_bitCount_0f7a4_46 : decode cJ6_bitCount_0f7a4 46 = .ok (.iadd, 1) := by decide +kernel
theorem dJ6_bitCount_0f7a4_47 : decode cJ6_bitCount_0f7a4 47 = .ok (.istore_n 0, 1) := by decide +kernel
theorem dJ6_bitCount_0f7a4_48 : decode cJ6_bitCount_0f7a4 48 = .ok (.iload_n 0, 1) := by decide +kernel
theorem dJ6_bitCount_0f7a4_49 : decode cJ6_bitCount_0f7a4 49 = .ok (.bipush 63, 2) := by decide +kernel
theorem dJ6_bitCount_0f7a4_51 : decode cJ6_bitCount_0f7a4 51 = .ok (.iand, 1) := by decide +kernel
theorem dJ6_bitCount_0f7a4_52 : decode cJ6_bitCount_0f7a4 52 = .ok (.ireturn, 1) := by decide +kernel
theorem dJ13_bitCount_95d88_0 : decode cJ13_bitCount_95d88 0 = .ok (.lload_n 0, 1) := by decide +kernel
theorem dJ13_bitCount_95d88_1 : decode cJ13_bitCount_95d88 1 = .ok (.lload_n 0, 1) := by decide +kernel
theorem dJ13_bitCount_95d88_2 : decode cJ13_bitCount_95d88 2 = .ok (.iconst 1, 1) := by decide +kernel
theorem dJ13_bitCount_95d88_3 : decode cJ13_bitCount_95d88 3 = .ok (.lushr, 1) := by decide +kernel
theorem dJ13_bitCount_95d88_4 : decode cJ13_bitCount_95d88 4 = .ok (.ldc2_w 314, 3) := by decide +kernel
theorem dJ13_bitCount_95d88_7 : decode cJ13_bitCount_95d88 7 = .ok (.land, 1) := by decide +kernel
theorem dJ13_bitCount_95d88_8 : decode cJ13_bitCount_95d88 8 = .ok (.lsub, 1) := by decide +kernel
theorem dJ13_bitCount_95d88_9 : decode cJ13_bitCount_95d88 9 = .ok (.lstore_n 0, 1) := by decide +kernel
theorem dJ13_bitCount_95d88_10 : decode cJ13_bitCount_95d88 10 = .ok (.lload_n 0, 1) := by decide +kernel
theorem dJ13_bitCount_95d88_11 : decode cJ13_bitCount_95d88 11 = .ok (.ldc2_w 316, 3) := by decide +kernel
theorem dJ13_bitCount_95d88_14 : decode cJ13_bitCount_95d88 14 = .ok (.land, 1) := by decide +kernel
theorem dJ13_bitCount_95d88_15 : decode cJ13_bitCount_95d88 15 = .ok (.lload_n 0, 1) := by decide +kernel
theorem dJ13_bitCount_95d88_16 : decode cJ13_bitCount_95d88 16 = .ok (.iconst 2, 1) := by decide +kernel
theorem dJ13_bitCount_95d88_17 : decode cJ13_bitCount_95d88 17 = .ok (.lushr, 1) := by decide +kernel
theorem dJ13_bitCount_95d88_18 : decode cJ13_bitCount_95d88 18 = .ok (.ldc2_w 316, 3) := by decide +kernel
theorem dJ13_bitCount_95d88_21 : decode cJ13_bitCount_95d88 21 = .ok (.land, 1) := by decide +kernel
theorem dJ13_bitCount_95d88_22 : decode cJ13_bitCount_95d88 22 = .ok (.ladd, 1) := by decide +kernel
theorem dJ13_bitCount_95d88_23 : decode cJ13_bitCount_95d88 23 = .ok (.lstore_n 0, 1) := by decide +kernel
theorem dJ13_bitCount_95d88_24 : decode cJ13_bitCount_95d88 24 = .ok (.lload_n 0, 1) := by decide +kernel
theorem dJ13_bitCount_95d88_25 : decode cJ13_bitCount_95d88 25 = .ok (.lload_n 0, 1) := by decide +kernel
theorem dJ13_bitCount_95d88_26 : decode cJ13_bitCount_95d88 26 = .ok (.iconst 4, 1) := by decide +kernel
theorem dJ13_bitCount_95d88_27 : decode cJ13_bitCount_95d88 27 = .ok (.lushr, 1) := by decide +kernel
theorem dJ13_bitCount_95d88_28 : decode cJ13_bitCount_95d88 28 = .ok (.ladd, 1) := by decide +kernel
theorem dJ13_bitCount_95d88_29 : decode cJ13_bitCount_95d88 29 = .ok (.ldc2_w 318, 3) := by decide +kernel
theorem dJ13_bitCount_95d88_32 : decode cJ13_bitCount_95d88 32 = .ok (.land, 1) := by decide +kernel
theorem dJ13_bitCount_95d88_33 : decode cJ13_bitCount_95d88 33 = .ok (.lstore_n 0, 1) := by decide +kernel
theorem dJ13_bitCount_95d88_34 : decode cJ13_bitCount_95d88 34 = .ok (.lload_n 0, 1) := by decide +kernel
theorem dJ13_bitCount_95d88_35 : decode cJ13_bitCount_95d88 35 = .ok (.lload_n 0, 1) := by decide +kernel
theorem dJ13_bitCount_95d88_36 : decode cJ13_bitCount_95d88 36 = .ok (.bipush 8, 2) := by decide +kernel
theorem dJ13_bitCount_95d88_38 : decode cJ13_bitCount_95d88 38 = .ok (.lushr, 1) := by decide +kernel
theorem dJ13_bitCount_95d88_39 : decode cJ13_bitCount_95d88 39 = .ok (.ladd, 1) := by decide +kernel
theorem dJ13_bitCount_95d88_40 : decode cJ13_bitCount_95d88 40 = .ok (.lstore_n 0, 1) := by decide +kernel
theorem dJ13_bitCount_95d88_41 : decode cJ13_bitCount_95d88 41 = .ok (.lload_n 0, 1) := by decide +kernel
theorem dJ13_bitCount_95d88_42 : decode cJ13_bitCount_95d88 42 = .ok (.lload_n 0, 1) := by decide +kernel
theorem dJ13_bitCount_95d88_43 : decode cJ13_bitCount_95d88 43 = .ok (.bipush 16, 2) := by decide +kernel
theorem dJ13_bitCount_95d88_45 : decode cJ13_bitCount_95d88 45 = .ok (.lushr, 1) := by decide +kernel
theorem dJ13_bitCount_95d88_46 : decode cJ13_bitCount_95d88 46 = .ok (.ladd, 1) := by decide +kernel
theorem dJ13_bitCount_95d88_47 : decode cJ13_bitCount_95d88 47 = .ok (.lstore_n 0, 1) := by decide +kernel
theorem dJ13_bitCount_95d88_48 : decode cJ13_bitCount_95d88 48 = .ok (.lload_n 0, 1) := by decide +kernel
theorem dJ13_bitCount_95d88_49 : decode cJ13_bitCount_95d88 49 = .ok (.lload_n 0, 1) := by decide +kernel
theorem dJ13_bitCount_95d88_50 : decode cJ13_bitCount_95d88 50 = .ok (.bipush 32, 2) := by decide +kernel
theorem dJ13_bitCount_95d88_52 : decode cJ13_bitCount_95d88 52 = .ok (.lushr, 1) := by decide +kernel
theorem dJ13_bitCount_95d88_53 : decode cJ13_bitCount_95d88 53 = .ok (.ladd, 1) := by decide +kernel
theorem dJ13_bitCount_95d88_54 : decode cJ13_bitCount_95d88 54 = .ok (.lstore_n 0, 1) := by decide +kernel
theorem dJ13_bitCount_95d88_55 : decode cJ13_bitCount_95d88 55 = .ok (.lload_n 0, 1) := by decide +kernel
theorem dJ13_bitCount_95d88_56 : decode cJ13_bitCount_95d88 56 = .ok (.l2i, 1) := by decide +kernel
theorem dJ13_bitCount_95d88_57 : decode cJ13_bitCount_95d88 57 = .ok (.bipush 127, 2) := by decide +kernel
theorem dJ13_bitCount_95d88_59 : decode cJ13_bitCount_95d88 59 = .ok (.iand, 1) := by decide +kernel
theorem dJ13_bitCount_95d88_60 : decode cJ13_bitCount_95d88 60 = .ok (.ireturn, 1) := by decide +kernel
theorem dJ9_max_7cf53_0 : decode cJ9_max_7cf53 0 = .ok (.iload_n 0, 1) := by decide +kernel
theorem dJ9_max_7cf53_1 : decode cJ9_max_7cf53 1 = .ok (.iload_n 1, 1) := by decide +kernel
theorem dJ9_max_7cf53_2 : decode cJ9_max_7cf53 2 = .ok (.if_icmp .lt 7, 3) := by decide +kernel
theorem dJ9_max_7cf53_5 : decode cJ9_max_7cf53 5 = .ok (.iload_n 0, 1) := by decide +kernel
theorem dJ9_max_7cf53_6 : decode cJ9_max_7cf53 6 = .ok (.goto 4, 3) := by decide +kernel
theorem dJ9_max_7cf53_9 : decode cJ9_max_7cf53 9 = .ok (.iload_n 1, 1) := by decide +kernel
theorem dJ9_max_7cf53_10 : decode cJ9_max_7cf53 10 = .ok (.ireturn, 1) := by decide +kernel
theorem dJ9_max_f86c9_0 : decode cJ9_max_f86c9 0 = .ok (.lload_n 0, 1) := by decide +kernel
theorem dJ9_max_f86c9_1 : decode cJ9_max_f86c9 1 = .ok (.lload_n 2, 1) := by decide +kernel
theorem dJ9_max_f86c9_2 : decode cJ9_max_f86c9 2 = .ok (.lcmp, 1) := by decide +kernel
theorem dJ9_max_f86c9_3 : decode cJ9_max_f86c9 3 = .ok (.ifCond .lt 7, 3) := by decide +kernel
theorem dJ9_max_f86c9_6 : decode cJ9_max_f86c9 6 = .ok (.lload_n 0, 1) := by decide +kernel
theorem dJ9_max_f86c9_7 : decode cJ9_max_f86c9 7 = .ok (.goto 4, 3) := by decide +kernel
theorem dJ9_max_f86c9_10 : decode cJ9_max_f86c9 10 = .ok (.lload_n 2, 1) := by decide +kernel
theorem dJ9_max_f86c9_11 : decode cJ9_max_f86c9 11 = .ok (.lreturn, 1) := by decide +kernel
theorem dJ9_min_7cf53_0 : decode cJ9_min_7cf53 0 = .ok (.iload_n 0, 1) := by decide +kernel
theorem dJ9_min_7cf53_1 : decode cJ9_min_7cf53 1 = .ok (.iload_n 1, 1) := by decide +kernel
theorem dJ9_min_7cf53_2 : decode cJ9_min_7cf53 2 = .ok (.if_icmp .gt 7, 3) := by decide +kernel
theorem dJ9_min_7cf53_5 : decode cJ9_min_7cf53 5 = .ok (.iload_n 0, 1) := by decide +kernel
theorem dJ9_min_7cf53_6 : decode cJ9_min_7cf53 6 = .ok (.goto 4, 3) := by decide +kernel
theorem dJ9_min_7cf53_9 : decode cJ9_min_7cf53 9 = .ok (.iload_n 1, 1) := by decide +kernel
theorem dJ9_min_7cf53_10 : decode cJ9_min_7cf53 10 = .ok (.ireturn, 1) := by decide +kernel
theorem dJ9_min_f86c9_0 : decode cJ9_min_f86c9 0 = .ok (.lload_n 0, 1) := by decide +kernel
theorem dJ9_min_f86c9_1 : decode cJ9_min_f86c9 1 = .ok (.lload_n 2, 1) := by decide +kernel
theorem dJ9_min_f86c9_2 : decode cJ9_min_f86c9 2 = .ok (.lcmp, 1) := by decide +kernel
theorem dJ9_min_f86c9_3 : decode cJ9_min_f86c9 3 = .ok (.ifCond .gt 7, 3) := by decide +kernel
theorem dJ9_min_f86c9_6 : decode cJ9_min_f86c9 6 = .ok (.lload_n 0, 1) := by decide +kernel
theorem dJ9_min_f86c9_7 : decode cJ9_min_f86c9 7 = .ok (.goto 4, 3) := by decide +kernel
theorem dJ9_min_f86c9_10 : decode cJ9_min_f86c9 10 = .ok (.lload_n 2, 1) := by decide +kernel
theorem dJ9_min_f86c9_11 : decode cJ9_min_f86c9 11 = .ok (.lreturn, 1) := by decide +kernel
theorem dJ0_length_8abf5_0 : decode cJ0_length_8abf5 0 = .ok (.aload_n 0, 1) := by decide +kernel
theorem dJ0_length_8abf5_1 : decode cJ0_length_8abf5 1 = .ok (.getfield 9, 3) := by decide +kernel
theorem dJ0_length_8abf5_4 : decode cJ0_length_8abf5 4 = .ok (.arraylength, 1) := by decide +kernel
theorem dJ0_length_8abf5_5 : decode cJ0_length_8abf5 5 = .ok (.aload_n 0, 1) := by decide +kernel
theorem dJ0_length_8abf5_6 : decode cJ0_length_8abf5 6 = .ok (.invokevirtual 335, 3) := by decide +kernel
theorem dJ0_length_8abf5_9 : decode cJ0_length_8abf5 9 = .ok (.ishr, 1) := by decide +kernel
theorem dJ0_length_8abf5_10 : decode cJ0_length_8abf5 10 = .ok (.ireturn, 1) := by decide +kernel
theorem dJ0_charAt_5068e_0 : decode cJ0_charAt_5068e 0 = .ok (.aload_n 0, 1) := by decide +kernel
theorem dJ0_charAt_5068e_1 : decode cJ0_charAt_5068e 1 = .ok (.invokevirtual 492, 3) := by decide +kernel
theorem dJ0_charAt_5068e_4 : decode cJ0_charAt_5068e 4 = .ok (.ifCond .eq 12, 3) := by decide +kernel
theorem dJ0_charAt_5068e_7 : decode cJ0_charAt_5068e 7 = .ok (.aload_n 0, 1) := by decide +kernel
theorem dJ0_charAt_5068e_8 : decode cJ0_charAt_5068e 8 = .ok (.getfield 9, 3) := by decide +kernel
theorem dJ0_charAt_5068e_11 : decode cJ0_charAt_5068e 11 = .ok (.iload_n 1, 1) := by decide +kernel
theorem dJ0_charAt_5068e_12 : decode cJ0_charAt_5068e 12 = .ok (.invokestatic 495, 3) := by decide +kernel
theorem dJ0_charAt_5068e_15 : decode cJ0_charAt_5068e 15 = .ok (.ireturn, 1) := by decide +kernel
theorem dJ0_charAt_5068e_16 : decode cJ0_charAt_5068e 16 = .ok (.aload_n 0, 1) := by decide +kernel
theorem dJ0_charAt_5068e_17 : decode cJ0_charAt_5068e 17 = .ok (.getfield 9, 3) := by decide +kernel
theorem dJ0_charAt_5068e_20 : decode cJ0_charAt_5068e 20 = .ok (.iload_n 1, 1) := by decide +kernel
theorem dJ0_charAt_5068e_21 : decode cJ0_charAt_5068e 21 = .ok (.invokestatic 498, 3) := by decide +kernel
theorem dJ0_charAt_5068e_24 : decode cJ0_charAt_5068e 24 = .ok (.ireturn, 1) := by decide +kernel
theorem dJ0_coder_7d493_0 : decode cJ0_coder_7d493 0 = .ok (.getstatic 38, 3) := by decide +kernel
theorem dJ0_coder_7d493_3 : decode cJ0_coder_7d493 3 = .ok (.ifCond .eq 10, 3) := by decide +kernel
theorem dJ0_coder_7d493_6 : decode cJ0_coder_7d493 6 = .ok (.aload_n 0, 1) := by decide +kernel
theorem dJ0_coder_7d493_7 : decode cJ0_coder_7d493 7 = .ok (.getfield 15, 3) := by decide +kernel
theorem dJ0_coder_7d493_10 : decode cJ0_coder_7d493 10 = .ok (.goto 4, 3) := by decide +kernel
theorem dJ0_coder_7d493_13 : decode cJ0_coder_7d493 13 = .ok (.iconst 1, 1) := by decide +kernel
theorem dJ0_coder_7d493_14 : decode cJ0_coder_7d493 14 = .ok (.ireturn, 1) := by decide +kernel
theorem dJ0_isLatin1_aae02_0 : decode cJ0_isLatin1_aae02 0 = .ok (.getstatic 38, 3) := by decide +kernel
theorem dJ0_isLatin1_aae02_3 : decode cJ0_isLatin1_aae02 3 = .ok (.ifCond .eq 14, 3) := by decide +kernel
theorem dJ0_isLatin1_aae02_6 : decode cJ0_isLatin1_aae02 6 = .ok (.aload_n 0, 1) := by decide +kernel
theorem dJ0_isLatin1_aae02_7 : decode cJ0_isLatin1_aae02 7 = .ok (.getfield 15, 3) := by decide +kernel
theorem dJ0_isLatin1_aae02_10 : decode cJ0_isLatin1_aae02 10 = .ok (.ifCond .ne 7, 3) := by decide +kernel
theorem dJ0_isLatin1_aae02_13 : decode cJ0_isLatin1_aae02 13 = .ok (.iconst 1, 1) := by decide +kernel
theorem dJ0_isLatin1_aae02_14 : decode cJ0_isLatin1_aae02 14 = .ok (.goto 4, 3) := by decide +kernel
theorem dJ0_isLatin1_aae02_17 : decode cJ0_isLatin1_aae02 17 = .ok (.iconst 0, 1) := by decide +kernel
theorem dJ0_isLatin1_aae02_18 : decode cJ0_isLatin1_aae02 18 = .ok (.ireturn, 1) := by decide +kernel
theorem dJ0_checkIndex_df160_0 : decode cJ0_checkIndex_df160 0 = .ok (.iload_n 0, 1) := by decide +kernel
theorem dJ0_checkIndex_df160_1 : decode cJ0_checkIndex_df160 1 = .ok (.iload_n 1, 1) := by decide +kernel
theorem dJ0_checkIndex_df160_2 : decode cJ0_checkIndex_df160 2 = .ok (.getstatic 1053, 3) := by decide +kernel
theorem dJ0_checkIndex_df160_5 : decode cJ0_checkIndex_df160 5 = .ok (.invokestatic 1059, 3) := by decide +kernel
theorem dJ0_checkIndex_df160_8 : decode cJ0_checkIndex_df160 8 = .ok (.pop, 1) := by decide +kernel
theorem dJ0_checkIndex_df160_9 : decode cJ0_checkIndex_df160 9 = .ok (.return_, 1) := by decide +kernel
theorem dJ1_charAt_3b067_0 : decode cJ1_charAt_3b067 0 = .ok (.iload_n 1, 1) := by decide +kernel
theorem dJ1_charAt_3b067_1 : decode cJ1_charAt_3b067 1 = .ok (.aload_n 0, 1) := by decide +kernel
theorem dJ1_charAt_3b067_2 : decode cJ1_charAt_3b067 2 = .ok (.arraylength, 1) := by decide +kernel
theorem dJ1_charAt_3b067_3 : decode cJ1_charAt_3b067 3 = .ok (.invokestatic 9, 3) := by decide +kernel
theorem dJ1_charAt_3b067_6 : decode cJ1_charAt_3b067 6 = .ok (.aload_n 0, 1) := by decide +kernel
theorem dJ1_charAt_3b067_7 : decode cJ1_charAt_3b067 7 = .ok (.iload_n 1, 1) := by decide +kernel
theorem dJ1_charAt_3b067_8 : decode cJ1_charAt_3b067 8 = .ok (.baload, 1) := by decide +kernel
theorem dJ1_charAt_3b067_9 : decode cJ1_charAt_3b067 9 = .ok (.sipush 255, 3) := by decide +kernel
theorem dJ1_charAt_3b067_12 : decode cJ1_charAt_3b067 12 = .ok (.iand, 1) := by decide +kernel
theorem dJ1_charAt_3b067_13 : decode cJ1_charAt_3b067 13 = .ok (.i2c, 1) := by decide +kernel
theorem dJ1_charAt_3b067_14 : decode cJ1_charAt_3b067 14 = .ok (.ireturn, 1) := by decide +kernel
theorem dJ2_getChar_3b067_0 : decode cJ2_getChar_3b067 0 = .ok (.getstatic 44, 3) := by decide +kernel
theorem dJ2_getChar_3b067_3 : decode cJ2_getChar_3b067 3 = .ok (.ifCond .ne 25, 3) := by decide +kernel
theorem dJ2_getChar_3b067_6 : decode cJ2_getChar_3b067 6 = .ok (.iload_n 1, 1) := by decide +kernel
theorem dJ2_getChar_3b067_7 : decode cJ2_getChar_3b067 7 = .ok (.ifCond .lt 11, 3) := by decide +kernel
theorem dJ2_getChar_3b067_10 : decode cJ2_getChar_3b067 10 = .ok (.iload_n 1, 1) := by decide +kernel
theorem dJ2_getChar_3b067_11 : decode cJ2_getChar_3b067 11 = .ok (.aload_n 0, 1) := by decide +kernel
theorem dJ2_getChar_3b067_12 : decode cJ2_getChar_3b067 12 = .ok (.invokestatic 48, 3) := by decide +kernel
theorem dJ2_getChar_3b067_15 : decode cJ2_getChar_3b067 15 = .ok (.if_icmp .lt 13, 3) := by decide +kernel
theorem dJ2_getChar_3b067_18 : decode cJ2_getChar_3b067 18 = .ok (.new 52, 3) := by decide +kernel
theorem dJ2_getChar_3b067_21 : decode cJ2_getChar_3b067 21 = .ok (.dup, 1) := by decide +kernel
theorem dJ2_getChar_3b067_22 : decode cJ2_getChar_3b067 22 = .ok (.ldc 54, 2) := by decide +kernel
theorem dJ2_getChar_3b067_24 : decode cJ2_getChar_3b067 24 = .ok (.invokespecial 56, 3) := by decide +kernel
theorem dJ2_getChar_3b067_27 : decode cJ2_getChar_3b067 27 = .ok (.athrow, 1) := by decide +kernel
theorem dJ2_getChar_3b067_28 : decode cJ2_getChar_3b067 28 = .ok (.iload_n 1, 1) := by decide +kernel
theorem dJ2_getChar_3b067_29 : decode cJ2_getChar_3b067 29 = .ok (.iconst 1, 1) := by decide +kernel
theorem dJ2_getChar_3b067_30 : decode cJ2_getChar_3b067 30 = .ok (.ishl, 1) := by decide +kernel
theorem dJ2_getChar_3b067_31 : decode cJ2_getChar_3b067 31 = .ok (.istore_n 1, 1) := by decide +kernel
theorem dJ2_getChar_3b067_32 : decode cJ2_getChar_3b067 32 = .ok (.aload_n 0, 1) := by decide +kernel
theorem dJ2_getChar_3b067_33 : decode cJ2_getChar_3b067 33 = .ok (.iload_n 1, 1) := by decide +kernel
theorem dJ2_getChar_3b067_34 : decode cJ2_getChar_3b067 34 = .ok (.iinc 1 1, 3) := by decide +kernel
theorem dJ2_getChar_3b067_37 : decode cJ2_getChar_3b067 37 = .ok (.baload, 1) := by decide +kernel
theorem dJ2_getChar_3b067_38 : decode cJ2_getChar_3b067 38 = .ok (.sipush 255, 3) := by decide +kernel
theorem dJ2_getChar_3b067_41 : decode cJ2_getChar_3b067 41 = .ok (.iand, 1) := by decide +kernel
theorem dJ2_getChar_3b067_42 : decode cJ2_getChar_3b067 42 = .ok (.getstatic 59, 3) := by decide +kernel
theorem dJ2_getChar_3b067_45 : decode cJ2_getChar_3b067 45 = .ok (.ishl, 1) := by decide +kernel
theorem dJ2_getChar_3b067_46 : decode cJ2_getChar_3b067 46 = .ok (.aload_n 0, 1) := by decide +kernel
theorem dJ2_getChar_3b067_47 : decode cJ2_getChar_3b067 47 = .ok (.iload_n 1, 1) := by decide +kernel
theorem dJ2_getChar_3b067_48 : decode cJ2_getChar_3b067 48 = .ok (.baload, 1) := by decide +kernel
theorem dJ2_getChar_3b067_49 : decode cJ2_getChar_3b067 49 = .ok (.sipush 255, 3) := by decide +kernel
theorem dJ2_getChar_3b067_52 : decode cJ2_getChar_3b067 52 = .ok (.iand, 1) := by decide +kernel
theorem dJ2_getChar_3b067_53 : decode cJ2_getChar_3b067 53 = .ok (.getstatic 63, 3) := by decide +kernel
theorem dJ2_getChar_3b067_56 : decode cJ2_getChar_3b067 56 = .ok (.ishl, 1) := by decide +kernel
theorem dJ2_getChar_3b067_57 : decode cJ2_getChar_3b067 57 = .ok (.ior, 1) := by decide +kernel
theorem dJ2_getChar_3b067_58 : decode cJ2_getChar_3b067 58 = .ok (.i2c, 1) := by decide +kernel
theorem dJ2_getChar_3b067_59 : decode cJ2_getChar_3b067 59 = .ok (.ireturn, 1) := by decide +kernel
theorem dJ2_length_9d52b_0 : decode cJ2_length_9d52b 0 = .ok (.aload_n 0, 1) := by decide +kernel
theorem dJ2_length_9d52b_1 : decode cJ2_length_9d52b 1 = .ok (.arraylength, 1) := by decide +kernel
theorem dJ2_length_9d52b_2 : decode cJ2_length_9d52b 2 = .ok (.iconst 1, 1) := by decide +kernel
theorem dJ2_length_9d52b_3 : decode cJ2_length_9d52b 3 = .ok (.ishr, 1) := by decide +kernel
theorem dJ2_length_9d52b_4 : decode cJ2_length_9d52b 4 = .ok (.ireturn, 1) := by decide +kernel
theorem dJ2_charAt_3b067_0 : decode cJ2_charAt_3b067 0 = .ok (.iload_n 1, 1) := by decide +kernel
theorem dJ2_charAt_3b067_1 : decode cJ2_charAt_3b067 1 = .ok (.aload_n 0, 1) := by decide +kernel
theorem dJ2_charAt_3b067_2 : decode cJ2_charAt_3b067 2 = .ok (.invokestatic 67, 3) := by decide +kernel
theorem dJ2_charAt_3b067_5 : decode cJ2_charAt_3b067 5 = .ok (.aload_n 0, 1) := by decide +kernel
theorem dJ2_charAt_3b067_6 : decode cJ2_charAt_3b067 6 = .ok (.iload_n 1, 1) := by decide +kernel
theorem dJ2_charAt_3b067_7 : decode cJ2_charAt_3b067 7 = .ok (.invokestatic 71, 3) := by decide +kernel
theorem dJ2_charAt_3b067_10 : decode cJ2_charAt_3b067 10 = .ok (.ireturn, 1) := by decide +kernel
theorem dJ2_checkIndex_2214a_0 : decode cJ2_checkIndex_2214a 0 = .ok (.iload_n 0, 1) := by decide +kernel
theorem dJ2_checkIndex_2214a_1 : decode cJ2_checkIndex_2214a 1 = .ok (.aload_n 1, 1) := by decide +kernel
theorem dJ2_checkIndex_2214a_2 : decode cJ2_checkIndex_2214a 2 = .ok (.invokestatic 48, 3) := by decide +kernel
theorem dJ2_checkIndex_2214a_5 : decode cJ2_checkIndex_2214a 5 = .ok (.invokestatic 414, 3) := by decide +kernel
theorem dJ2_checkIndex_2214a_8 : decode cJ2_checkIndex_2214a 8 = .ok (.return_, 1) := by decide +kernel
theorem dJ7_fill_d0a16_0 : decode cJ7_fill_d0a16 0 = .ok (.iconst 0, 1) := by decide +kernel
theorem dJ7_fill_d0a16_1 : decode cJ7_fill_d0a16 1 = .ok (.istore_n 3, 1) := by decide +kernel
theorem dJ7_fill_d0a16_2 : decode cJ7_fill_d0a16 2 = .ok (.aload_n 0, 1) := by decide +kernel
theorem dJ7_fill_d0a16_3 : decode cJ7_fill_d0a16 3 = .ok (.arraylength, 1) := by decide +kernel
theorem dJ7_fill_d0a16_4 : decode cJ7_fill_d0a16 4 = .ok (.istore 4, 2) := by decide +kernel
theorem dJ7_fill_d0a16_6 : decode cJ7_fill_d0a16 6 = .ok (.iload_n 3, 1) := by decide +kernel
theorem dJ7_fill_d0a16_7 : decode cJ7_fill_d0a16 7 = .ok (.iload 4, 2) := by decide +kernel
theorem dJ7_fill_d0a16_9 : decode cJ7_fill_d0a16 9 = .ok (.if_icmp .ge 13, 3) := by decide +kernel
theorem dJ7_fill_d0a16_12 : decode cJ7_fill_d0a16 12 = .ok (.aload_n 0, 1) := by decide +kernel
theorem dJ7_fill_d0a16_13 : decode cJ7_fill_d0a16 13 = .ok (.iload_n 3, 1) := by decide +kernel
theorem dJ7_fill_d0a16_14 : decode cJ7_fill_d0a16 14 = .ok (.lload_n 1, 1) := by decide +kernel
theorem dJ7_fill_d0a16_15 : decode cJ7_fill_d0a16 15 = .ok (.lastore, 1) := by decide +kernel
theorem dJ7_fill_d0a16_16 : decode cJ7_fill_d0a16 16 = .ok (.iinc 3 1, 3) := by decide +kernel
theorem dJ7_fill_d0a16_19 : decode cJ7_fill_d0a16 19 = .ok (.goto (-13), 3) := by decide +kernel
theorem dJ7_fill_d0a16_22 : decode cJ7_fill_d0a16 22 = .ok (.return_, 1) := by decide +kernel
theorem dJ7_fill_53178_0 : decode cJ7_fill_53178 0 = .ok (.iconst 0, 1) := by decide +kernel
theorem dJ7_fill_53178_1 : decode cJ7_fill_53178 1 = .ok (.istore_n 2, 1) := by decide +kernel
theorem dJ7_fill_53178_2 : decode cJ7_fill_53178 2 = .ok (.aload_n 0, 1) := by decide +kernel
theorem dJ7_fill_53178_3 : decode cJ7_fill_53178 3 = .ok (.arraylength, 1) := by decide +kernel
theorem dJ7_fill_53178_4 : decode cJ7_fill_53178 4 = .ok (.istore_n 3, 1) := by decide +kernel
theorem dJ7_fill_53178_5 : decode cJ7_fill_53178 5 = .ok (.iload_n 2, 1) := by decide +kernel
theorem dJ7_fill_53178_6 : decode cJ7_fill_53178 6 = .ok (.iload_n 3, 1) := by decide +kernel
theorem dJ7_fill_53178_7 : decode cJ7_fill_53178 7 = .ok (.if_icmp .ge 13, 3) := by decide +kernel
theorem dJ7_fill_53178_10 : decode cJ7_fill_53178 10 = .ok (.aload_n 0, 1) := by decide +kernel
theorem dJ7_fill_53178_11 : decode cJ7_fill_53178 11 = .ok (.iload_n 2, 1) := by decide +kernel
theorem dJ7_fill_53178_12 : decode cJ7_fill_53178 12 = .ok (.iload_n 1, 1) := by decide +kernel
theorem dJ7_fill_53178_13 : decode cJ7_fill_53178 13 = .ok (.iastore, 1) := by decide +kernel
theorem dJ7_fill_53178_14 : decode cJ7_fill_53178 14 = .ok (.iinc 2 1, 3) := by decide +kernel
theorem dJ7_fill_53178_17 : decode cJ7_fill_53178 17 = .ok (.goto (-12), 3) := by decide +kernel
theorem dJ7_fill_53178_20 : decode cJ7_fill_53178 20 = .ok (.return_, 1) := by decide +kernel
theorem dJ7_copyOf_59c91_0 : decode cJ7_copyOf_59c91 0 = .ok (.iload_n 1, 1) := by decide +kernel
theorem dJ7_copyOf_59c91_1 : decode cJ7_copyOf_59c91 1 = .ok (.aload_n 0, 1) := by decide +kernel
theorem dJ7_copyOf_59c91_2 : decode cJ7_copyOf_59c91 2 = .ok (.arraylength, 1) := by decide +kernel
theorem dJ7_copyOf_59c91_3 : decode cJ7_copyOf_59c91 3 = .ok (.if_icmp .ne 11, 3) := by decide +kernel
theorem dJ7_copyOf_59c91_6 : decode cJ7_copyOf_59c91 6 = .ok (.aload_n 0, 1) := by decide +kernel
theorem dJ7_copyOf_59c91_7 : decode cJ7_copyOf_59c91 7 = .ok (.invokevirtual 316, 3) := by decide +kernel
theorem dJ7_copyOf_59c91_10 : decode cJ7_copyOf_59c91 10 = .ok (.checkcast 317, 3) := by decide +kernel
theorem dJ7_copyOf_59c91_13 : decode cJ7_copyOf_59c91 13 = .ok (.areturn, 1) := by decide +kernel
theorem dJ7_copyOf_59c91_14 : decode cJ7_copyOf_59c91 14 = .ok (.iload_n 1, 1) := by decide +kernel
theorem dJ7_copyOf_59c91_15 : decode cJ7_copyOf_59c91 15 = .ok (.newarray .int, 2) := by decide +kernel
theorem dJ7_copyOf_59c91_17 : decode cJ7_copyOf_59c91 17 = .ok (.astore_n 2, 1) := by decide +kernel
theorem dJ7_copyOf_59c91_18 : decode cJ7_copyOf_59c91 18 = .ok (.aload_n 0, 1) := by decide +kernel
theorem dJ7_copyOf_59c91_19 : decode cJ7_copyOf_59c91 19 = .ok (.iconst 0, 1) := by decide +kernel
theorem dJ7_copyOf_59c91_20 : decode cJ7_copyOf_59c91 20 = .ok (.aload_n 2, 1) := by decide +kernel
theorem dJ7_copyOf_59c91_21 : decode cJ7_copyOf_59c91 21 = .ok (.iconst 0, 1) := by decide +kernel
theorem dJ7_copyOf_59c91_22 : decode cJ7_copyOf_59c91 22 = .ok (.aload_n 0, 1) := by decide +kernel
theorem dJ7_copyOf_59c91_23 : decode cJ7_copyOf_59c91 23 = .ok (.arraylength, 1) := by decide +kernel
theorem dJ7_copyOf_59c91_24 : decode cJ7_copyOf_59c91 24 = .ok (.iload_n 1, 1) := by decide +kernel
theorem dJ7_copyOf_59c91_25 : decode cJ7_copyOf_59c91 25 = .ok (.invokestatic 304, 3) := by decide +kernel
theorem dJ7_copyOf_59c91_28 : decode cJ7_copyOf_59c91 28 = .ok (.invokestatic 150, 3) := by decide +kernel
theorem dJ7_copyOf_59c91_31 : decode cJ7_copyOf_59c91 31 = .ok (.aload_n 2, 1) := by decide +kernel
theorem dJ7_copyOf_59c91_32 : decode cJ7_copyOf_59c91 32 = .ok (.areturn, 1) := by decide +kernel
theorem dJ3_checkIndex_8e157_0 : decode cJ3_checkIndex_8e157 0 = .ok (.iload_n 0, 1) := by decide +kernel
theorem dJ3_checkIndex_8e157_1 : decode cJ3_checkIndex_8e157 1 = .ok (.ifCond .lt 8, 3) := by decide +kernel
theorem dJ3_checkIndex_8e157_4 : decode cJ3_checkIndex_8e157 4 = .ok (.iload_n 0, 1) := by decide +kernel
theorem dJ3_checkIndex_8e157_5 : decode cJ3_checkIndex_8e157 5 = .ok (.iload_n 1, 1) := by decide +kernel
theorem dJ3_checkIndex_8e157_6 : decode cJ3_checkIndex_8e157 6 = .ok (.if_icmp .lt 10, 3) := by decide +kernel
theorem dJ3_checkIndex_8e157_9 : decode cJ3_checkIndex_8e157 9 = .ok (.aload_n 2, 1) := by decide +kernel
theorem dJ3_checkIndex_8e157_10 : decode cJ3_checkIndex_8e157 10 = .ok (.iload_n 0, 1) := by decide +kernel
theorem dJ3_checkIndex_8e157_11 : decode cJ3_checkIndex_8e157 11 = .ok (.iload_n 1, 1) := by decide +kernel
theorem dJ3_checkIndex_8e157_12 : decode cJ3_checkIndex_8e157 12 = .ok (.invokestatic 95, 3) := by decide +kernel
theorem dJ3_checkIndex_8e157_15 : decode cJ3_checkIndex_8e157 15 = .ok (.athrow, 1) := by decide +kernel
theorem dJ3_checkIndex_8e157_16 : decode cJ3_checkIndex_8e157 16 = .ok (.iload_n 0, 1) := by decide +kernel
theorem dJ3_checkIndex_8e157_17 : decode cJ3_checkIndex_8e157 17 = .ok (.ireturn, 1) := by decide +kernel
theorem dL_law_0 : decode cL_law 0 = .ok (.new 7, 3) := by decide +kernel
theorem dL_law_3 : decode cL_law 3 = .ok (.dup, 1) := by decide +kernel
theorem dL_law_4 : decode cL_law 4 = .ok (.invokespecial 9, 3) := by decide +kernel
theorem dL_law_7 : decode cL_law 7 = .ok (.astore_n 1, 1) := by decide +kernel
theorem dL_law_8 : decode cL_law 8 = .ok (.new 10, 3) := by decide +kernel
theorem dL_law_11 : decode cL_law 11 = .ok (.dup, 1) := by decide +kernel
theorem dL_law_12 : decode cL_law 12 = .ok (.invokespecial 12, 3) := by decide +kernel
theorem dL_law_15 : decode cL_law 15 = .ok (.astore_n 2, 1) := by decide +kernel
theorem dL_law_16 : decode cL_law 16 = .ok (.iconst 0, 1) := by decide +kernel
theorem dL_law_17 : decode cL_law 17 = .ok (.istore_n 3, 1) := by decide +kernel
theorem dL_law_18 : decode cL_law 18 = .ok (.iload_n 3, 1) := by decide +kernel
theorem dL_law_19 : decode cL_law 19 = .ok (.aload_n 0, 1) := by decide +kernel
theorem dL_law_20 : decode cL_law 20 = .ok (.arraylength, 1) := by decide +kernel
theorem dL_law_21 : decode cL_law 21 = .ok (.bipush 6, 2) := by decide +kernel
theorem dL_law_23 : decode cL_law 23 = .ok (.isub, 1) := by decide +kernel
theorem dL_law_24 : decode cL_law 24 = .ok (.if_icmp .gt 1535, 3) := by decide +kernel
theorem dL_law_27 : decode cL_law 27 = .ok (.aload_n 0, 1) := by decide +kernel
theorem dL_law_28 : decode cL_law 28 = .ok (.iload_n 3, 1) := by decide +kernel
theorem dL_law_29 : decode cL_law 29 = .ok (.iaload, 1) := by decide +kernel
theorem dL_law_30 : decode cL_law 30 = .ok (.bipush 63, 2) := by decide +kernel
theorem dL_law_32 : decode cL_law 32 = .ok (.iand, 1) := by decide +kernel
theorem dL_law_33 : decode cL_law 33 = .ok (.tableswitch 1520 0 44 #[195, 228, 261, 314, 347, 390, 433, 496, 529, 562, 625, 648, 671, 684, 697, 710, 733, 766, 799, 832, 845, 868, 891, 924, 957, 990, 1003, 1026, 1049, 1092, 1115, 1138, 1171, 1204, 1237, 1270, 1283, 1326, 1359, 1382, 1405, 1438, 1461, 1484, 1507], 195) := by decide +kernel
theorem dL_law_228 : decode cL_law 228 = .ok (.aload_n 1, 1) := by decide +kernel
theorem dL_law_229 : decode cL_law 229 = .ok (.aload_n 0, 1) := by decide +kernel
theorem dL_law_230 : decode cL_law 230 = .ok (.iload_n 3, 1) := by decide +kernel
theorem dL_law_231 : decode cL_law 231 = .ok (.iconst 1, 1) := by decide +kernel
theorem dL_law_232 : decode cL_law 232 = .ok (.iadd, 1) := by decide +kernel
theorem dL_law_233 : decode cL_law 233 = .ok (.iaload, 1) := by decide +kernel
theorem dL_law_234 : decode cL_law 234 = .ok (.aload_n 0, 1) := by decide +kernel
theorem dL_law_235 : decode cL_law 235 = .ok (.iload_n 3, 1) := by decide +kernel
theorem dL_law_236 : decode cL_law 236 = .ok (.iconst 2, 1) := by decide +kernel
theorem dL_law_237 : decode cL_law 237 = .ok (.iadd, 1) := by decide +kernel
theorem dL_law_238 : decode cL_law 238 = .ok (.iaload, 1) := by decide +kernel
theorem dL_law_239 : decode cL_law 239 = .ok (.invokevirtual 13, 3) := by decide +kernel
theorem dL_law_242 : decode cL_law 242 = .ok (.aload_n 2, 1) := by decide +kernel
theorem dL_law_243 : decode cL_law 243 = .ok (.aload_n 0, 1) := by decide +kernel
theorem dL_law_244 : decode cL_law 244 = .ok (.iload_n 3, 1) := by decide +kernel
theorem dL_law_245 : decode cL_law 245 = .ok (.iconst 1, 1) := by decide +kernel
theorem dL_law_246 : decode cL_law 246 = .ok (.iadd, 1) := by decide +kernel
theorem dL_law_247 : decode cL_law 247 = .ok (.iaload, 1) := by decide +kernel
theorem dL_law_248 : decode cL_law 248 = .ok (.aload_n 0, 1) := by decide +kernel
theorem dL_law_249 : decode cL_law 249 = .ok (.iload_n 3, 1) := by decide +kernel
theorem dL_law_250 : decode cL_law 250 = .ok (.iconst 2, 1) := by decide +kernel
theorem dL_law_251 : decode cL_law 251 = .ok (.iadd, 1) := by decide +kernel
theorem dL_law_252 : decode cL_law 252 = .ok (.iaload, 1) := by decide +kernel
theorem dL_law_253 : decode cL_law 253 = .ok (.invokevirtual 17, 3) := by decide +kernel
theorem dL_law_256 : decode cL_law 256 = .ok (.if_icmp .eq 1297, 3) := by decide +kernel
theorem dL_law_259 : decode cL_law 259 = .ok (.iconst 0, 1) := by decide +kernel
theorem dL_law_260 : decode cL_law 260 = .ok (.ireturn, 1) := by decide +kernel
theorem dL_law_261 : decode cL_law 261 = .ok (.aload_n 1, 1) := by decide +kernel
theorem dL_law_262 : decode cL_law 262 = .ok (.aload_n 0, 1) := by decide +kernel
theorem dL_law_263 : decode cL_law 263 = .ok (.iload_n 3, 1) := by decide +kernel
theorem dL_law_264 : decode cL_law 264 = .ok (.iconst 1, 1) := by decide +kernel
theorem dL_law_265 : decode cL_law 265 = .ok (.iadd, 1) := by decide +kernel
theorem dL_law_266 : decode cL_law 266 = .ok (.iaload, 1) := by decide +kernel
theorem dL_law_267 : decode cL_law 267 = .ok (.aload_n 0, 1) := by decide +kernel
theorem dL_law_268 : decode cL_law 268 = .ok (.iload_n 3, 1) := by decide +kernel
theorem dL_law_269 : decode cL_law 269 = .ok (.iconst 2, 1) := by decide +kernel
theorem dL_law_270 : decode cL_law 270 = .ok (.iadd, 1) := by decide +kernel
theorem dL_law_271 : decode cL_law 271 = .ok (.iaload, 1) := by decide +kernel
theorem dL_law_272 : decode cL_law 272 = .ok (.invokevirtual 18, 3) := by decide +kernel
theorem dL_law_275 : decode cL_law 275 = .ok (.aload_n 2, 1) := by decide +kernel
theorem dL_law_276 : decode cL_law 276 = .ok (.aload_n 0, 1) := by decide +kernel
theorem dL_law_277 : decode cL_law 277 = .ok (.iload_n 3, 1) := by decide +kernel
theorem dL_law_278 : decode cL_law 278 = .ok (.iconst 1, 1) := by decide +kernel
theorem dL_law_279 : decode cL_law 279 = .ok (.iadd, 1) := by decide +kernel
theorem dL_law_280 : decode cL_law 280 = .ok (.iaload, 1) := by decide +kernel
theorem dL_law_281 : decode cL_law 281 = .ok (.aload_n 0, 1) := by decide +kernel
theorem dL_law_282 : decode cL_law 282 = .ok (.iload_n 3, 1) := by decide +kernel
theorem dL_law_283 : decode cL_law 283 = .ok (.iconst 2, 1) := by decide +kernel
theorem dL_law_284 : decode cL_law 284 = .ok (.iadd, 1) := by decide +kernel
theorem dL_law_285 : decode cL_law 285 = .ok (.iaload, 1) := by decide +kernel
theorem dL_law_286 : decode cL_law 286 = .ok (.invokevirtual 21, 3) := by decide +kernel
theorem dL_law_289 : decode cL_law 289 = .ok (.if_icmp .eq 1264, 3) := by decide +kernel
theorem dL_law_292 : decode cL_law 292 = .ok (.iconst 0, 1) := by decide +kernel
theorem dL_law_293 : decode cL_law 293 = .ok (.ireturn, 1) := by decide +kernel
theorem dL_law_294 : decode cL_law 294 = .ok (.aload_n 1, 1) := by decide +kernel
theorem dL_law_295 : decode cL_law 295 = .ok (.aload_n 0, 1) := by decide +kernel
theorem dL_law_296 : decode cL_law 296 = .ok (.iload_n 3, 1) := by decide +kernel
theorem dL_law_297 : decode cL_law 297 = .ok (.iconst 1, 1) := by decide +kernel
theorem dL_law_298 : decode cL_law 298 = .ok (.iadd, 1) := by decide +kernel
theorem dL_law_299 : decode cL_law 299 = .ok (.iaload, 1) := by decide +kernel
theorem dL_law_300 : decode cL_law 300 = .ok (.aload_n 0, 1) := by decide +kernel
theorem dL_law_301 : decode cL_law 301 = .ok (.iload_n 3, 1) := by decide +kernel
theorem dL_law_302 : decode cL_law 302 = .ok (.iconst 2, 1) := by decide +kernel
theorem dL_law_303 : decode cL_law 303 = .ok (.iadd, 1) := by decide +kernel
theorem dL_law_304 : decode cL_law 304 = .ok (.iaload, 1) := by decide +kernel
theorem dL_law_305 : decode cL_law 305 = .ok (.aload_n 0, 1) := by decide +kernel
theorem dL_law_306 : decode cL_law 306 = .ok (.iload_n 3, 1) := by decide +kernel
theorem dL_law_307 : decode cL_law 307 = .ok (.iconst 3, 1) := by decide +kernel
theorem dL_law_308 : decode cL_law 308 = .ok (.iadd, 1) := by decide +kernel
theorem dL_law_309 : decode cL_law 309 = .ok (.iaload, 1) := by decide +kernel
theorem dL_law_310 : decode cL_law 310 = .ok (.aload_n 0, 1) := by decide +kernel
theorem dL_law_311 : decode cL_law 311 = .ok (.iload_n 3, 1) := by decide +kernel
theorem dL_law_312 : decode cL_law 312 = .ok (.iconst 4, 1) := by decide +kernel
theorem dL_law_313 : decode cL_law 313 = .ok (.iadd, 1) := by decide +kernel
theorem dL_law_314 : decode cL_law 314 = .ok (.iaload, 1) := by decide +kernel
theorem dL_law_315 : decode cL_law 315 = .ok (.invokevirtual 22, 3) := by decide +kernel
theorem dL_law_318 : decode cL_law 318 = .ok (.aload_n 2, 1) := by decide +kernel
theorem dL_law_319 : decode cL_law 319 = .ok (.aload_n 0, 1) := by decide +kernel
theorem dL_law_320 : decode cL_law 320 = .ok (.iload_n 3, 1) := by decide +kernel
theorem dL_law_321 : decode cL_law 321 = .ok (.iconst 1, 1) := by decide +kernel
theorem dL_law_322 : decode cL_law 322 = .ok (.iadd, 1) := by decide +kernel
theorem dL_law_323 : decode cL_law 323 = .ok (.iaload, 1) := by decide +kernel
theorem dL_law_324 : decode cL_law 324 = .ok (.aload_n 0, 1) := by decide +kernel
theorem dL_law_325 : decode cL_law 325 = .ok (.iload_n 3, 1) := by decide +kernel
theorem dL_law_326 : decode cL_law 326 = .ok (.iconst 2, 1) := by decide +kernel
theorem dL_law_327 : decode cL_law 327 = .ok (.iadd, 1) := by decide +kernel
theorem dL_law_328 : decode cL_law 328 = .ok (.iaload, 1) := by decide +kernel
theorem dL_law_329 : decode cL_law 329 = .ok (.aload_n 0, 1) := by decide +kernel
theorem dL_law_330 : decode cL_law 330 = .ok (.iload_n 3, 1) := by decide +kernel
theorem dL_law_331 : decode cL_law 331 = .ok (.iconst 3, 1) := by decide +kernel
theorem dL_law_332 : decode cL_law 332 = .ok (.iadd, 1) := by decide +kernel
theorem dL_law_333 : decode cL_law 333 = .ok (.iaload, 1) := by decide +kernel
theorem dL_law_334 : decode cL_law 334 = .ok (.aload_n 0, 1) := by decide +kernel
theorem dL_law_335 : decode cL_law 335 = .ok (.iload_n 3, 1) := by decide +kernel
theorem dL_law_336 : decode cL_law 336 = .ok (.iconst 4, 1) := by decide +kernel
theorem dL_law_337 : decode cL_law 337 = .ok (.iadd, 1) := by decide +kernel
theorem dL_law_338 : decode cL_law 338 = .ok (.iaload, 1) := by decide +kernel
theorem dL_law_339 : decode cL_law 339 = .ok (.invokevirtual 26, 3) := by decide +kernel
theorem dL_law_342 : decode cL_law 342 = .ok (.if_icmp .eq 1211, 3) := by decide +kernel
theorem dL_law_345 : decode cL_law 345 = .ok (.iconst 0, 1) := by decide +kernel
theorem dL_law_346 : decode cL_law 346 = .ok (.ireturn, 1) := by decide +kernel
theorem dL_law_347 : decode cL_law 347 = .ok (.aload_n 1, 1) := by decide +kernel
theorem dL_law_348 : decode cL_law 348 = .ok (.aload_n 0, 1) := by decide +kernel
theorem dL_law_349 : decode cL_law 349 = .ok (.iload_n 3, 1) := by decide +kernel
theorem dL_law_350 : decode cL_law 350 = .ok (.iconst 1, 1) := by decide +kernel
theorem dL_law_351 : decode cL_law 351 = .ok (.iadd, 1) := by decide +kernel
theorem dL_law_352 : decode cL_law 352 = .ok (.iaload, 1) := by decide +kernel
theorem dL_law_353 : decode cL_law 353 = .ok (.aload_n 0, 1) := by decide +kernel
theorem dL_law_354 : decode cL_law 354 = .ok (.iload_n 3, 1) := by decide +kernel
theorem dL_law_355 : decode cL_law 355 = .ok (.iconst 2, 1) := by decide +kernel
theorem dL_law_356 : decode cL_law 356 = .ok (.iadd, 1) := by decide +kernel
theorem dL_law_357 : decode cL_law 357 = .ok (.iaload, 1) := by decide +kernel
theorem dL_law_358 : decode cL_law 358 = .ok (.invokevirtual 27, 3) := by decide +kernel
theorem dL_law_361 : decode cL_law 361 = .ok (.aload_n 2, 1) := by decide +kernel
theorem dL_law_362 : decode cL_law 362 = .ok (.aload_n 0, 1) := by decide +kernel
theorem dL_law_363 : decode cL_law 363 = .ok (.iload_n 3, 1) := by decide +kernel
theorem dL_law_364 : decode cL_law 364 = .ok (.iconst 1, 1) := by decide +kernel
theorem dL_law_365 : decode cL_law 365 = .ok (.iadd, 1) := by decide +kernel
theorem dL_law_366 : decode cL_law 366 = .ok (.iaload, 1) := by decide +kernel
theorem dL_law_367 : decode cL_law 367 = .ok (.aload_n 0, 1) := by decide +kernel
theorem dL_law_368 : decode cL_law 368 = .ok (.iload_n 3, 1) := by decide +kernel
theorem dL_law_369 : decode cL_law 369 = .ok (.iconst 2, 1) := by decide +kernel
theorem dL_law_370 : decode cL_law 370 = .ok (.iadd, 1) := by decide +kernel
theorem dL_law_371 : decode cL_law 371 = .ok (.iaload, 1) := by decide +kernel
theorem dL_law_372 : decode cL_law 372 = .ok (.invokevirtual 30, 3) := by decide +kernel
theorem dL_law_375 : decode cL_law 375 = .ok (.if_icmp .eq 1178, 3) := by decide +kernel
theorem dL_law_378 : decode cL_law 378 = .ok (.iconst 0, 1) := by decide +kernel
theorem dL_law_379 : decode cL_law 379 = .ok (.ireturn, 1) := by decide +kernel
theorem dL_law_380 : decode cL_law 380 = .ok (.aload_n 1, 1) := by decide +kernel
theorem dL_law_381 : decode cL_law 381 = .ok (.aload_n 0, 1) := by decide +kernel
theorem dL_law_382 : decode cL_law 382 = .ok (.iload_n 3, 1) := by decide +kernel
theorem dL_law_383 : decode cL_law 383 = .ok (.iconst 1, 1) := by decide +kernel
theorem dL_law_384 : decode cL_law 384 = .ok (.iadd, 1) := by decide +kernel
theorem dL_law_385 : decode cL_law 385 = .ok (.iaload, 1) := by decide +kernel
theorem dL_law_386 : decode cL_law 386 = .ok (.aload_n 0, 1) := by decide +kernel
theorem dL_law_387 : decode cL_law 387 = .ok (.iload_n 3, 1) := by decide +kernel
theorem dL_law_388 : decode cL_law 388 = .ok (.iconst 2, 1) := by decide +kernel
theorem dL_law_389 : decode cL_law 389 = .ok (.iadd, 1) := by decide +kernel
theorem dL_law_390 : decode cL_law 390 = .ok (.iaload, 1) := by decide +kernel
theorem dL_law_391 : decode cL_law 391 = .ok (.aload_n 0, 1) := by decide +kernel
theorem dL_law_392 : decode cL_law 392 = .ok (.iload_n 3, 1) := by decide +kernel
theorem dL_law_393 : decode cL_law 393 = .ok (.iconst 3, 1) := by decide +kernel
theorem dL_law_394 : decode cL_law 394 = .ok (.iadd, 1) := by decide +kernel
theorem dL_law_395 : decode cL_law 395 = .ok (.iaload, 1) := by decide +kernel
theorem dL_law_396 : decode cL_law 396 = .ok (.invokevirtual 31, 3) := by decide +kernel
theorem dL_law_399 : decode cL_law 399 = .ok (.aload_n 2, 1) := by decide +kernel
theorem dL_law_400 : decode cL_law 400 = .ok (.aload_n 0, 1) := by decide +kernel
theorem dL_law_401 : decode cL_law 401 = .ok (.iload_n 3, 1) := by decide +kernel
theorem dL_law_402 : decode cL_law 402 = .ok (.iconst 1, 1) := by decide +kernel
theorem dL_law_403 : decode cL_law 403 = .ok (.iadd, 1) := by decide +kernel
theorem dL_law_404 : decode cL_law 404 = .ok (.iaload, 1) := by decide +kernel
theorem dL_law_405 : decode cL_law 405 = .ok (.aload_n 0, 1) := by decide +kernel
theorem dL_law_406 : decode cL_law 406 = .ok (.iload_n 3, 1) := by decide +kernel
theorem dL_law_407 : decode cL_law 407 = .ok (.iconst 2, 1) := by decide +kernel
theorem dL_law_408 : decode cL_law 408 = .ok (.iadd, 1) := by decide +kernel
theorem dL_law_409 : decode cL_law 409 = .ok (.iaload, 1) := by decide +kernel
theorem dL_law_410 : decode cL_law 410 = .ok (.aload_n 0, 1) := by decide +kernel
theorem dL_law_411 : decode cL_law 411 = .ok (.iload_n 3, 1) := by decide +kernel
theorem dL_law_412 : decode cL_law 412 = .ok (.iconst 3, 1) := by decide +kernel
theorem dL_law_413 : decode cL_law 413 = .ok (.iadd, 1) := by decide +kernel
theorem dL_law_414 : decode cL_law 414 = .ok (.iaload, 1) := by decide +kernel
theorem dL_law_415 : decode cL_law 415 = .ok (.invokevirtual 35, 3) := by decide +kernel
theorem dL_law_418 : decode cL_law 418 = .ok (.if_icmp .eq 1135, 3) := by decide +kernel
theorem dL_law_421 : decode cL_law 421 = .ok (.iconst 0, 1) := by decide +kernel
theorem dL_law_422 : decode cL_law 422 = .ok (.ireturn, 1) := by decide +kernel
theorem dL_law_423 : decode cL_law 423 = .ok (.aload_n 1, 1) := by decide +kernel
theorem dL_law_424 : decode cL_law 424 = .ok (.aload_n 0, 1) := by decide +kernel
theorem dL_law_425 : decode cL_law 425 = .ok (.iload_n 3, 1) := by decide +kernel
theorem dL_law_426 : decode cL_law 426 = .ok (.iconst 1, 1) := by decide +kernel
theorem dL_law_427 : decode cL_law 427 = .ok (.iadd, 1) := by decide +kernel
theorem dL_law_428 : decode cL_law 428 = .ok (.iaload, 1) := by decide +kernel
theorem dL_law_429 : decode cL_law 429 = .ok (.aload_n 0, 1) := by decide +kernel
theorem dL_law_430 : decode cL_law 430 = .ok (.iload_n 3, 1) := by decide +kernel
theorem dL_law_431 : decode cL_law 431 = .ok (.iconst 2, 1) := by decide +kernel
theorem dL_law_432 : decode cL_law 432 = .ok (.iadd, 1) := by decide +kernel
theorem dL_law_433 : decode cL_law 433 = .ok (.iaload, 1) := by decide +kernel
theorem dL_law_434 : decode cL_law 434 = .ok (.aload_n 0, 1) := by decide +kernel
theorem dL_law_435 : decode cL_law 435 = .ok (.iload_n 3, 1) := by decide +kernel
theorem dL_law_436 : decode cL_law 436 = .ok (.iconst 3, 1) := by decide +kernel
theorem dL_law_437 : decode cL_law 437 = .ok (.iadd, 1) := by decide +kernel
theorem dL_law_438 : decode cL_law 438 = .ok (.iaload, 1) := by decide +kernel
theorem dL_law_439 : decode cL_law 439 = .ok (.invokevirtual 36, 3) := by decide +kernel
theorem dL_law_442 : decode cL_law 442 = .ok (.aload_n 2, 1) := by decide +kernel
theorem dL_law_443 : decode cL_law 443 = .ok (.aload_n 0, 1) := by decide +kernel
theorem dL_law_444 : decode cL_law 444 = .ok (.iload_n 3, 1) := by decide +kernel
theorem dL_law_445 : decode cL_law 445 = .ok (.iconst 1, 1) := by decide +kernel
theorem dL_law_446 : decode cL_law 446 = .ok (.iadd, 1) := by decide +kernel
theorem dL_law_447 : decode cL_law 447 = .ok (.iaload, 1) := by decide +kernel
theorem dL_law_448 : decode cL_law 448 = .ok (.aload_n 0, 1) := by decide +kernel
theorem dL_law_449 : decode cL_law 449 = .ok (.iload_n 3, 1) := by decide +kernel
theorem dL_law_450 : decode cL_law 450 = .ok (.iconst 2, 1) := by decide +kernel
theorem dL_law_451 : decode cL_law 451 = .ok (.iadd, 1) := by decide +kernel
theorem dL_law_452 : decode cL_law 452 = .ok (.iaload, 1) := by decide +kernel
theorem dL_law_453 : decode cL_law 453 = .ok (.aload_n 0, 1) := by decide +kernel
theorem dL_law_454 : decode cL_law 454 = .ok (.iload_n 3, 1) := by decide +kernel
theorem dL_law_455 : decode cL_law 455 = .ok (.iconst 3, 1) := by decide +kernel
theorem dL_law_456 : decode cL_law 456 = .ok (.iadd, 1) := by decide +kernel
theorem dL_law_457 : decode cL_law 457 = .ok (.iaload, 1) := by decide +kernel
theorem dL_law_458 : decode cL_law 458 = .ok (.invokevirtual 39, 3) := by decide +kernel
theorem dL_law_461 : decode cL_law 461 = .ok (.if_icmp .eq 1092, 3) := by decide +kernel
theorem dL_law_464 : decode cL_law 464 = .ok (.iconst 0, 1) := by decide +kernel
theorem dL_law_465 : decode cL_law 465 = .ok (.ireturn, 1) := by decide +kernel
theorem dL_law_466 : decode cL_law 466 = .ok (.aload_n 1, 1) := by decide +kernel
theorem dL_law_467 : decode cL_law 467 = .ok (.aload_n 0, 1) := by decide +kernel
theorem dL_law_468 : decode cL_law 468 = .ok (.iload_n 3, 1) := by decide +kernel
theorem dL_law_469 : decode cL_law 469 = .ok (.iconst 1, 1) := by decide +kernel
theorem dL_law_470 : decode cL_law 470 = .ok (.iadd, 1) := by decide +kernel
theorem dL_law_471 : decode cL_law 471 = .ok (.iaload, 1) := by decide +kernel
theorem dL_law_472 : decode cL_law 472 = .ok (.aload_n 0, 1) := by decide +kernel
theorem dL_law_473 : decode cL_law 473 = .ok (.iload_n 3, 1) := by decide +kernel
theorem dL_law_474 : decode cL_law 474 = .ok (.iconst 2, 1) := by decide +kernel
theorem dL_law_475 : decode cL_law 475 = .ok (.iadd, 1) := by decide +kernel
theorem dL_law_476 : decode cL_law 476 = .ok (.iaload, 1) := by decide +kernel
theorem dL_law_477 : decode cL_law 477 = .ok (.aload_n 0, 1) := by decide +kernel
theorem dL_law_478 : decode cL_law 478 = .ok (.iload_n 3, 1) := by decide +kernel
theorem dL_law_479 : decode cL_law 479 = .ok (.iconst 3, 1) := by decide +kernel
theorem dL_law_480 : decode cL_law 480 = .ok (.iadd, 1) := by decide +kernel
theorem dL_law_481 : decode cL_law 481 = .ok (.iaload, 1) := by decide +kernel
theorem dL_law_482 : decode cL_law 482 = .ok (.aload_n 0, 1) := by decide +kernel
theorem dL_law_483 : decode cL_law 483 = .ok (.iload_n 3, 1) := by decide +kernel
theorem dL_law_484 : decode cL_law 484 = .ok (.iconst 4, 1) := by decide +kernel
theorem dL_law_485 : decode cL_law 485 = .ok (.iadd, 1) := by decide +kernel
theorem dL_law_486 : decode cL_law 486 = .ok (.iaload, 1) := by decide +kernel
theorem dL_law_487 : decode cL_law 487 = .ok (.aload_n 0, 1) := by decide +kernel
theorem dL_law_488 : decode cL_law 488 = .ok (.iload_n 3, 1) := by decide +kernel
theorem dL_law_489 : decode cL_law 489 = .ok (.iconst 5, 1) := by decide +kernel
theorem dL_law_490 : decode cL_law 490 = .ok (.iadd, 1) := by decide +kernel
theorem dL_law_491 : decode cL_law 491 = .ok (.iaload, 1) := by decide +kernel
theorem dL_law_492 : decode cL_law 492 = .ok (.invokevirtual 40, 3) := by decide +kernel
theorem dL_law_495 : decode cL_law 495 = .ok (.aload_n 2, 1) := by decide +kernel
theorem dL_law_496 : decode cL_law 496 = .ok (.aload_n 0, 1) := by decide +kernel
theorem dL_law_497 : decode cL_law 497 = .ok (.iload_n 3, 1) := by decide +kernel
theorem dL_law_498 : decode cL_law 498 = .ok (.iconst 1, 1) := by decide +kernel
theorem dL_law_499 : decode cL_law 499 = .ok (.iadd, 1) := by decide +kernel
theorem dL_law_500 : decode cL_law 500 = .ok (.iaload, 1) := by decide +kernel
theorem dL_law_501 : decode cL_law 501 = .ok (.aload_n 0, 1) := by decide +kernel
theorem dL_law_502 : decode cL_law 502 = .ok (.iload_n 3, 1) := by decide +kernel
theorem dL_law_503 : decode cL_law 503 = .ok (.iconst 2, 1) := by decide +kernel
theorem dL_law_504 : decode cL_law 504 = .ok (.iadd, 1) := by decide +kernel
theorem dL_law_505 : decode cL_law 505 = .ok (.iaload, 1) := by decide +kernel
theorem dL_law_506 : decode cL_law 506 = .ok (.aload_n 0, 1) := by decide +kernel
theorem dL_law_507 : decode cL_law 507 = .ok (.iload_n 3, 1) := by decide +kernel
theorem dL_law_508 : decode cL_law 508 = .ok (.iconst 3, 1) := by decide +kernel
theorem dL_law_509 : decode cL_law 509 = .ok (.iadd, 1) := by decide +kernel
theorem dL_law_510 : decode cL_law 510 = .ok (.iaload, 1) := by decide +kernel
theorem dL_law_511 : decode cL_law 511 = .ok (.aload_n 0, 1) := by decide +kernel
theorem dL_law_512 : decode cL_law 512 = .ok (.iload_n 3, 1) := by decide +kernel
theorem dL_law_513 : decode cL_law 513 = .ok (.iconst 4, 1) := by decide +kernel
theorem dL_law_514 : decode cL_law 514 = .ok (.iadd, 1) := by decide +kernel
theorem dL_law_515 : decode cL_law 515 = .ok (.iaload, 1) := by decide +kernel
theorem dL_law_516 : decode cL_law 516 = .ok (.aload_n 0, 1) := by decide +kernel
theorem dL_law_517 : decode cL_law 517 = .ok (.iload_n 3, 1) := by decide +kernel
theorem dL_law_518 : decode cL_law 518 = .ok (.iconst 5, 1) := by decide +kernel
theorem dL_law_519 : decode cL_law 519 = .ok (.iadd, 1) := by decide +kernel
theorem dL_law_520 : decode cL_law 520 = .ok (.iaload, 1) := by decide +kernel
theorem dL_law_521 : decode cL_law 521 = .ok (.invokevirtual 44, 3) := by decide +kernel
theorem dL_law_524 : decode cL_law 524 = .ok (.if_icmp .eq 1029, 3) := by decide +kernel
theorem dL_law_527 : decode cL_law 527 = .ok (.iconst 0, 1) := by decide +kernel
theorem dL_law_528 : decode cL_law 528 = .ok (.ireturn, 1) := by decide +kernel
theorem dL_law_529 : decode cL_law 529 = .ok (.aload_n 1, 1) := by decide +kernel
theorem dL_law_530 : decode cL_law 530 = .ok (.aload_n 0, 1) := by decide +kernel
theorem dL_law_531 : decode cL_law 531 = .ok (.iload_n 3, 1) := by decide +kernel
theorem dL_law_532 : decode cL_law 532 = .ok (.iconst 1, 1) := by decide +kernel
theorem dL_law_533 : decode cL_law 533 = .ok (.iadd, 1) := by decide +kernel
theorem dL_law_534 : decode cL_law 534 = .ok (.iaload, 1) := by decide +kernel
theorem dL_law_535 : decode cL_law 535 = .ok (.aload_n 0, 1) := by decide +kernel
theorem dL_law_536 : decode cL_law 536 = .ok (.iload_n 3, 1) := by decide +kernel
theorem dL_law_537 : decode cL_law 537 = .ok (.iconst 2, 1) := by decide +kernel
theorem dL_law_538 : decode cL_law 538 = .ok (.iadd, 1) := by decide +kernel
theorem dL_law_539 : decode cL_law 539 = .ok (.iaload, 1) := by decide +kernel
theorem dL_law_540 : decode cL_law 540 = .ok (.invokevirtual 45, 3) := by decide +kernel
theorem dL_law_543 : decode cL_law 543 = .ok (.aload_n 2, 1) := by decide +kernel
theorem dL_law_544 : decode cL_law 544 = .ok (.aload_n 0, 1) := by decide +kernel
theorem dL_law_545 : decode cL_law 545 = .ok (.iload_n 3, 1) := by decide +kernel
theorem dL_law_546 : decode cL_law 546 = .ok (.iconst 1, 1) := by decide +kernel
theorem dL_law_547 : decode cL_law 547 = .ok (.iadd, 1) := by decide +kernel
theorem dL_law_548 : decode cL_law 548 = .ok (.iaload, 1) := by decide +kernel
theorem dL_law_549 : decode cL_law 549 = .ok (.aload_n 0, 1) := by decide +kernel
theorem dL_law_550 : decode cL_law 550 = .ok (.iload_n 3, 1) := by decide +kernel
theorem dL_law_551 : decode cL_law 551 = .ok (.iconst 2, 1) := by decide +kernel
theorem dL_law_552 : decode cL_law 552 = .ok (.iadd, 1) := by decide +kernel
theorem dL_law_553 : decode cL_law 553 = .ok (.iaload, 1) := by decide +kernel
theorem dL_law_554 : decode cL_law 554 = .ok (.invokevirtual 48, 3) := by decide +kernel
theorem dL_law_557 : decode cL_law 557 = .ok (.if_icmp .eq 996, 3) := by decide +kernel
theorem dL_law_560 : decode cL_law 560 = .ok (.iconst 0, 1) := by decide +kernel
theorem dL_law_561 : decode cL_law 561 = .ok (.ireturn, 1) := by decide +kernel
theorem dL_law_562 : decode cL_law 562 = .ok (.aload_n 1, 1) := by decide +kernel
theorem dL_law_563 : decode cL_law 563 = .ok (.aload_n 0, 1) := by decide +kernel
theorem dL_law_564 : decode cL_law 564 = .ok (.iload_n 3, 1) := by decide +kernel
theorem dL_law_565 : decode cL_law 565 = .ok (.iconst 1, 1) := by decide +kernel
theorem dL_law_566 : decode cL_law 566 = .ok (.iadd, 1) := by decide +kernel
theorem dL_law_567 : decode cL_law 567 = .ok (.iaload, 1) := by decide +kernel
theorem dL_law_568 : decode cL_law 568 = .ok (.aload_n 0, 1) := by decide +kernel
theorem dL_law_569 : decode cL_law 569 = .ok (.iload_n 3, 1) := by decide +kernel
theorem dL_law_570 : decode cL_law 570 = .ok (.iconst 2, 1) := by decide +kernel
theorem dL_law_571 : decode cL_law 571 = .ok (.iadd, 1) := by decide +kernel
theorem dL_law_572 : decode cL_law 572 = .ok (.iaload, 1) := by decide +kernel
theorem dL_law_573 : decode cL_law 573 = .ok (.invokevirtual 49, 3) := by decide +kernel
theorem dL_law_576 : decode cL_law 576 = .ok (.aload_n 2, 1) := by decide +kernel
theorem dL_law_577 : decode cL_law 577 = .ok (.aload_n 0, 1) := by decide +kernel
theorem dL_law_578 : decode cL_law 578 = .ok (.iload_n 3, 1) := by decide +kernel
theorem dL_law_579 : decode cL_law 579 = .ok (.iconst 1, 1) := by decide +kernel
theorem dL_law_580 : decode cL_law 580 = .ok (.iadd, 1) := by decide +kernel
theorem dL_law_581 : decode cL_law 581 = .ok (.iaload, 1) := by decide +kernel
theorem dL_law_582 : decode cL_law 582 = .ok (.aload_n 0, 1) := by decide +kernel
theorem dL_law_583 : decode cL_law 583 = .ok (.iload_n 3, 1) := by decide +kernel
theorem dL_law_584 : decode cL_law 584 = .ok (.iconst 2, 1) := by decide +kernel
theorem dL_law_585 : decode cL_law 585 = .ok (.iadd, 1) := by decide +kernel
theorem dL_law_586 : decode cL_law 586 = .ok (.iaload, 1) := by decide +kernel
theorem dL_law_587 : decode cL_law 587 = .ok (.invokevirtual 52, 3) := by decide +kernel
theorem dL_law_590 : decode cL_law 590 = .ok (.if_icmp .eq 963, 3) := by decide +kernel
theorem dL_law_593 : decode cL_law 593 = .ok (.iconst 0, 1) := by decide +kernel
theorem dL_law_594 : decode cL_law 594 = .ok (.ireturn, 1) := by decide +kernel
theorem dL_law_595 : decode cL_law 595 = .ok (.aload_n 1, 1) := by decide +kernel
theorem dL_law_596 : decode cL_law 596 = .ok (.aload_n 0, 1) := by decide +kernel
theorem dL_law_597 : decode cL_law 597 = .ok (.iload_n 3, 1) := by decide +kernel
theorem dL_law_598 : decode cL_law 598 = .ok (.iconst 1, 1) := by decide +kernel
theorem dL_law_599 : decode cL_law 599 = .ok (.iadd, 1) := by decide +kernel
theorem dL_law_600 : decode cL_law 600 = .ok (.iaload, 1) := by decide +kernel
theorem dL_law_601 : decode cL_law 601 = .ok (.aload_n 0, 1) := by decide +kernel
theorem dL_law_602 : decode cL_law 602 = .ok (.iload_n 3, 1) := by decide +kernel
theorem dL_law_603 : decode cL_law 603 = .ok (.iconst 2, 1) := by decide +kernel
theorem dL_law_604 : decode cL_law 604 = .ok (.iadd, 1) := by decide +kernel
theorem dL_law_605 : decode cL_law 605 = .ok (.iaload, 1) := by decide +kernel
theorem dL_law_606 : decode cL_law 606 = .ok (.aload_n 0, 1) := by decide +kernel
theorem dL_law_607 : decode cL_law 607 = .ok (.iload_n 3, 1) := by decide +kernel
theorem dL_law_608 : decode cL_law 608 = .ok (.iconst 3, 1) := by decide +kernel
theorem dL_law_609 : decode cL_law 609 = .ok (.iadd, 1) := by decide +kernel
theorem dL_law_610 : decode cL_law 610 = .ok (.iaload, 1) := by decide +kernel
theorem dL_law_611 : decode cL_law 611 = .ok (.aload_n 0, 1) := by decide +kernel
theorem dL_law_612 : decode cL_law 612 = .ok (.iload_n 3, 1) := by decide +kernel
theorem dL_law_613 : decode cL_law 613 = .ok (.iconst 4, 1) := by decide +kernel
theorem dL_law_614 : decode cL_law 614 = .ok (.iadd, 1) := by decide +kernel
theorem dL_law_615 : decode cL_law 615 = .ok (.iaload, 1) := by decide +kernel
theorem dL_law_616 : decode cL_law 616 = .ok (.aload_n 0, 1) := by decide +kernel
theorem dL_law_617 : decode cL_law 617 = .ok (.iload_n 3, 1) := by decide +kernel
theorem dL_law_618 : decode cL_law 618 = .ok (.iconst 5, 1) := by decide +kernel
theorem dL_law_619 : decode cL_law 619 = .ok (.iadd, 1) := by decide +kernel
theorem dL_law_620 : decode cL_law 620 = .ok (.iaload, 1) := by decide +kernel
theorem dL_law_621 : decode cL_law 621 = .ok (.invokevirtual 53, 3) := by decide +kernel
theorem dL_law_624 : decode cL_law 624 = .ok (.aload_n 2, 1) := by decide +kernel
theorem dL_law_625 : decode cL_law 625 = .ok (.aload_n 0, 1) := by decide +kernel
theorem dL_law_626 : decode cL_law 626 = .ok (.iload_n 3, 1) := by decide +kernel
theorem dL_law_627 : decode cL_law 627 = .ok (.iconst 1, 1) := by decide +kernel
theorem dL_law_628 : decode cL_law 628 = .ok (.iadd, 1) := by decide +kernel
theorem dL_law_629 : decode cL_law 629 = .ok (.iaload, 1) := by decide +kernel
theorem dL_law_630 : decode cL_law 630 = .ok (.aload_n 0, 1) := by decide +kernel
theorem dL_law_631 : decode cL_law 631 = .ok (.iload_n 3, 1) := by decide +kernel
theorem dL_law_632 : decode cL_law 632 = .ok (.iconst 2, 1) := by decide +kernel
theorem dL_law_633 : decode cL_law 633 = .ok (.iadd, 1) := by decide +kernel
theorem dL_law_634 : decode cL_law 634 = .ok (.iaload, 1) := by decide +kernel
theorem dL_law_635 : decode cL_law 635 = .ok (.aload_n 0, 1) := by decide +kernel
theorem dL_law_636 : decode cL_law 636 = .ok (.iload_n 3, 1) := by decide +kernel
theorem dL_law_637 : decode cL_law 637 = .ok (.iconst 3, 1) := by decide +kernel
theorem dL_law_638 : decode cL_law 638 = .ok (.iadd, 1) := by decide +kernel
theorem dL_law_639 : decode cL_law 639 = .ok (.iaload, 1) := by decide +kernel
theorem dL_law_640 : decode cL_law 640 = .ok (.aload_n 0, 1) := by decide +kernel
theorem dL_law_641 : decode cL_law 641 = .ok (.iload_n 3, 1) := by decide +kernel
theorem dL_law_642 : decode cL_law 642 = .ok (.iconst 4, 1) := by decide +kernel
theorem dL_law_643 : decode cL_law 643 = .ok (.iadd, 1) := by decide +kernel
theorem dL_law_644 : decode cL_law 644 = .ok (.iaload, 1) := by decide +kernel
theorem dL_law_645 : decode cL_law 645 = .ok (.aload_n 0, 1) := by decide +kernel
theorem dL_law_646 : decode cL_law 646 = .ok (.iload_n 3, 1) := by decide +kernel
theorem dL_law_647 : decode cL_law 647 = .ok (.iconst 5, 1) := by decide +kernel
theorem dL_law_648 : decode cL_law 648 = .ok (.iadd, 1) := by decide +kernel
theorem dL_law_649 : decode cL_law 649 = .ok (.iaload, 1) := by decide +kernel
theorem dL_law_650 : decode cL_law 650 = .ok (.invokevirtual 56, 3) := by decide +kernel
theorem dL_law_653 : decode cL_law 653 = .ok (.if_icmp .eq 900, 3) := by decide +kernel
theorem dL_law_656 : decode cL_law 656 = .ok (.iconst 0, 1) := by decide +kernel
theorem dL_law_657 : decode cL_law 657 = .ok (.ireturn, 1) := by decide +kernel
theorem dL_law_658 : decode cL_law 658 = .ok (.aload_n 1, 1) := by decide +kernel
theorem dL_law_659 : decode cL_law 659 = .ok (.aload_n 0, 1) := by decide +kernel
theorem dL_law_660 : decode cL_law 660 = .ok (.iload_n 3, 1) := by decide +kernel
theorem dL_law_661 : decode cL_law 661 = .ok (.iconst 1, 1) := by decide +kernel
theorem dL_law_662 : decode cL_law 662 = .ok (.iadd, 1) := by decide +kernel
theorem dL_law_663 : decode cL_law 663 = .ok (.iaload, 1) := by decide +kernel
theorem dL_law_664 : decode cL_law 664 = .ok (.invokevirtual 57, 3) := by decide +kernel
theorem dL_law_667 : decode cL_law 667 = .ok (.aload_n 2, 1) := by decide +kernel
theorem dL_law_668 : decode cL_law 668 = .ok (.aload_n 0, 1) := by decide +kernel
theorem dL_law_669 : decode cL_law 669 = .ok (.iload_n 3, 1) := by decide +kernel
theorem dL_law_670 : decode cL_law 670 = .ok (.iconst 1, 1) := by decide +kernel
theorem dL_law_671 : decode cL_law 671 = .ok (.iadd, 1) := by decide +kernel
theorem dL_law_672 : decode cL_law 672 = .ok (.iaload, 1) := by decide +kernel
theorem dL_law_673 : decode cL_law 673 = .ok (.invokevirtual 61, 3) := by decide +kernel
theorem dL_law_676 : decode cL_law 676 = .ok (.if_icmp .eq 877, 3) := by decide +kernel
theorem dL_law_679 : decode cL_law 679 = .ok (.iconst 0, 1) := by decide +kernel
theorem dL_law_680 : decode cL_law 680 = .ok (.ireturn, 1) := by decide +kernel
theorem dL_law_681 : decode cL_law 681 = .ok (.aload_n 1, 1) := by decide +kernel
theorem dL_law_682 : decode cL_law 682 = .ok (.aload_n 0, 1) := by decide +kernel
theorem dL_law_683 : decode cL_law 683 = .ok (.iload_n 3, 1) := by decide +kernel
theorem dL_law_684 : decode cL_law 684 = .ok (.iconst 1, 1) := by decide +kernel
theorem dL_law_685 : decode cL_law 685 = .ok (.iadd, 1) := by decide +kernel
theorem dL_law_686 : decode cL_law 686 = .ok (.iaload, 1) := by decide +kernel
theorem dL_law_687 : decode cL_law 687 = .ok (.invokevirtual 62, 3) := by decide +kernel
theorem dL_law_690 : decode cL_law 690 = .ok (.aload_n 2, 1) := by decide +kernel
theorem dL_law_691 : decode cL_law 691 = .ok (.aload_n 0, 1) := by decide +kernel
theorem dL_law_692 : decode cL_law 692 = .ok (.iload_n 3, 1) := by decide +kernel
theorem dL_law_693 : decode cL_law 693 = .ok (.iconst 1, 1) := by decide +kernel
theorem dL_law_694 : decode cL_law 694 = .ok (.iadd, 1) := by decide +kernel
theorem dL_law_695 : decode cL_law 695 = .ok (.iaload, 1) := by decide +kernel
theorem dL_law_696 : decode cL_law 696 = .ok (.invokevirtual 65, 3) := by decide +kernel
theorem dL_law_699 : decode cL_law 699 = .ok (.if_icmp .eq 854, 3) := by decide +kernel
theorem dL_law_702 : decode cL_law 702 = .ok (.iconst 0, 1) := by decide +kernel
theorem dL_law_703 : decode cL_law 703 = .ok (.ireturn, 1) := by decide +kernel
theorem dL_law_704 : decode cL_law 704 = .ok (.aload_n 1, 1) := by decide +kernel
theorem dL_law_705 : decode cL_law 705 = .ok (.invokevirtual 66, 3) := by decide +kernel
theorem dL_law_708 : decode cL_law 708 = .ok (.aload_n 2, 1) := by decide +kernel
theorem dL_law_709 : decode cL_law 709 = .ok (.invokevirtual 70, 3) := by decide +kernel
theorem dL_law_712 : decode cL_law 712 = .ok (.if_icmp .eq 841, 3) := by decide +kernel
theorem dL_law_715 : decode cL_law 715 = .ok (.iconst 0, 1) := by decide +kernel
theorem dL_law_716 : decode cL_law 716 = .ok (.ireturn, 1) := by decide +kernel
theorem dL_law_717 : decode cL_law 717 = .ok (.aload_n 1, 1) := by decide +kernel
theorem dL_law_718 : decode cL_law 718 = .ok (.invokevirtual 71, 3) := by decide +kernel
theorem dL_law_721 : decode cL_law 721 = .ok (.aload_n 2, 1) := by decide +kernel
theorem dL_law_722 : decode cL_law 722 = .ok (.invokevirtual 74, 3) := by decide +kernel
theorem dL_law_725 : decode cL_law 725 = .ok (.if_icmp .eq 828, 3) := by decide +kernel
theorem dL_law_728 : decode cL_law 728 = .ok (.iconst 0, 1) := by decide +kernel
theorem dL_law_729 : decode cL_law 729 = .ok (.ireturn, 1) := by decide +kernel
theorem dL_law_730 : decode cL_law 730 = .ok (.aload_n 1, 1) := by decide +kernel
theorem dL_law_731 : decode cL_law 731 = .ok (.invokevirtual 75, 3) := by decide +kernel
theorem dL_law_734 : decode cL_law 734 = .ok (.aload_n 2, 1) := by decide +kernel
theorem dL_law_735 : decode cL_law 735 = .ok (.invokevirtual 78, 3) := by decide +kernel
theorem dL_law_738 : decode cL_law 738 = .ok (.if_icmp .eq 815, 3) := by decide +kernel
theorem dL_law_741 : decode cL_law 741 = .ok (.iconst 0, 1) := by decide +kernel
theorem dL_law_742 : decode cL_law 742 = .ok (.ireturn, 1) := by decide +kernel
theorem dL_law_743 : decode cL_law 743 = .ok (.aload_n 1, 1) := by decide +kernel
theorem dL_law_744 : decode cL_law 744 = .ok (.aload_n 0, 1) := by decide +kernel
theorem dL_law_745 : decode cL_law 745 = .ok (.iload_n 3, 1) := by decide +kernel
theorem dL_law_746 : decode cL_law 746 = .ok (.iconst 1, 1) := by decide +kernel
theorem dL_law_747 : decode cL_law 747 = .ok (.iadd, 1) := by decide +kernel
theorem dL_law_748 : decode cL_law 748 = .ok (.iaload, 1) := by decide +kernel
theorem dL_law_749 : decode cL_law 749 = .ok (.invokevirtual 79, 3) := by decide +kernel
theorem dL_law_752 : decode cL_law 752 = .ok (.aload_n 2, 1) := by decide +kernel
theorem dL_law_753 : decode cL_law 753 = .ok (.aload_n 0, 1) := by decide +kernel
theorem dL_law_754 : decode cL_law 754 = .ok (.iload_n 3, 1) := by decide +kernel
theorem dL_law_755 : decode cL_law 755 = .ok (.iconst 1, 1) := by decide +kernel
theorem dL_law_756 : decode cL_law 756 = .ok (.iadd, 1) := by decide +kernel
theorem dL_law_757 : decode cL_law 757 = .ok (.iaload, 1) := by decide +kernel
theorem dL_law_758 : decode cL_law 758 = .ok (.invokevirtual 82, 3) := by decide +kernel
theorem dL_law_761 : decode cL_law 761 = .ok (.if_icmp .eq 792, 3) := by decide +kernel
theorem dL_law_764 : decode cL_law 764 = .ok (.iconst 0, 1) := by decide +kernel
theorem dL_law_765 : decode cL_law 765 = .ok (.ireturn, 1) := by decide +kernel
theorem dL_law_766 : decode cL_law 766 = .ok (.aload_n 1, 1) := by decide +kernel
theorem dL_law_767 : decode cL_law 767 = .ok (.aload_n 0, 1) := by decide +kernel
theorem dL_law_768 : decode cL_law 768 = .ok (.iload_n 3, 1) := by decide +kernel
theorem dL_law_769 : decode cL_law 769 = .ok (.iconst 1, 1) := by decide +kernel
theorem dL_law_770 : decode cL_law 770 = .ok (.iadd, 1) := by decide +kernel
theorem dL_law_771 : decode cL_law 771 = .ok (.iaload, 1) := by decide +kernel
theorem dL_law_772 : decode cL_law 772 = .ok (.aload_n 0, 1) := by decide +kernel
theorem dL_law_773 : decode cL_law 773 = .ok (.iload_n 3, 1) := by decide +kernel
theorem dL_law_774 : decode cL_law 774 = .ok (.iconst 2, 1) := by decide +kernel
theorem dL_law_775 : decode cL_law 775 = .ok (.iadd, 1) := by decide +kernel
theorem dL_law_776 : decode cL_law 776 = .ok (.iaload, 1) := by decide +kernel
theorem dL_law_777 : decode cL_law 777 = .ok (.invokevirtual 83, 3) := by decide +kernel
theorem dL_law_780 : decode cL_law 780 = .ok (.aload_n 2, 1) := by decide +kernel
theorem dL_law_781 : decode cL_law 781 = .ok (.aload_n 0, 1) := by decide +kernel
theorem dL_law_782 : decode cL_law 782 = .ok (.iload_n 3, 1) := by decide +kernel
theorem dL_law_783 : decode cL_law 783 = .ok (.iconst 1, 1) := by decide +kernel
theorem dL_law_784 : decode cL_law 784 = .ok (.iadd, 1) := by decide +kernel
theorem dL_law_785 : decode cL_law 785 = .ok (.iaload, 1) := by decide +kernel
theorem dL_law_786 : decode cL_law 786 = .ok (.aload_n 0, 1) := by decide +kernel
theorem dL_law_787 : decode cL_law 787 = .ok (.iload_n 3, 1) := by decide +kernel
theorem dL_law_788 : decode cL_law 788 = .ok (.iconst 2, 1) := by decide +kernel
theorem dL_law_789 : decode cL_law 789 = .ok (.iadd, 1) := by decide +kernel
theorem dL_law_790 : decode cL_law 790 = .ok (.iaload, 1) := by decide +kernel
theorem dL_law_791 : decode cL_law 791 = .ok (.invokevirtual 86, 3) := by decide +kernel
theorem dL_law_794 : decode cL_law 794 = .ok (.if_icmp .eq 759, 3) := by decide +kernel
theorem dL_law_797 : decode cL_law 797 = .ok (.iconst 0, 1) := by decide +kernel
theorem dL_law_798 : decode cL_law 798 = .ok (.ireturn, 1) := by decide +kernel
theorem dL_law_799 : decode cL_law 799 = .ok (.aload_n 1, 1) := by decide +kernel
theorem dL_law_800 : decode cL_law 800 = .ok (.aload_n 0, 1) := by decide +kernel
theorem dL_law_801 : decode cL_law 801 = .ok (.iload_n 3, 1) := by decide +kernel
theorem dL_law_802 : decode cL_law 802 = .ok (.iconst 1, 1) := by decide +kernel
theorem dL_law_803 : decode cL_law 803 = .ok (.iadd, 1) := by decide +kernel
theorem dL_law_804 : decode cL_law 804 = .ok (.iaload, 1) := by decide +kernel
theorem dL_law_805 : decode cL_law 805 = .ok (.aload_n 0, 1) := by decide +kernel
theorem dL_law_806 : decode cL_law 806 = .ok (.iload_n 3, 1) := by decide +kernel
theorem dL_law_807 : decode cL_law 807 = .ok (.iconst 2, 1) := by decide +kernel
theorem dL_law_808 : decode cL_law 808 = .ok (.iadd, 1) := by decide +kernel
theorem dL_law_809 : decode cL_law 809 = .ok (.iaload, 1) := by decide +kernel
theorem dL_law_810 : decode cL_law 810 = .ok (.invokevirtual 87, 3) := by decide +kernel
theorem dL_law_813 : decode cL_law 813 = .ok (.aload_n 2, 1) := by decide +kernel
theorem dL_law_814 : decode cL_law 814 = .ok (.aload_n 0, 1) := by decide +kernel
theorem dL_law_815 : decode cL_law 815 = .ok (.iload_n 3, 1) := by decide +kernel
theorem dL_law_816 : decode cL_law 816 = .ok (.iconst 1, 1) := by decide +kernel
theorem dL_law_817 : decode cL_law 817 = .ok (.iadd, 1) := by decide +kernel
theorem dL_law_818 : decode cL_law 818 = .ok (.iaload, 1) := by decide +kernel
theorem dL_law_819 : decode cL_law 819 = .ok (.aload_n 0, 1) := by decide +kernel
theorem dL_law_820 : decode cL_law 820 = .ok (.iload_n 3, 1) := by decide +kernel
theorem dL_law_821 : decode cL_law 821 = .ok (.iconst 2, 1) := by decide +kernel
theorem dL_law_822 : decode cL_law 822 = .ok (.iadd, 1) := by decide +kernel
theorem dL_law_823 : decode cL_law 823 = .ok (.iaload, 1) := by decide +kernel
theorem dL_law_824 : decode cL_law 824 = .ok (.invokevirtual 90, 3) := by decide +kernel
theorem dL_law_827 : decode cL_law 827 = .ok (.if_icmp .eq 726, 3) := by decide +kernel
theorem dL_law_830 : decode cL_law 830 = .ok (.iconst 0, 1) := by decide +kernel
theorem dL_law_831 : decode cL_law 831 = .ok (.ireturn, 1) := by decide +kernel
theorem dL_law_832 : decode cL_law 832 = .ok (.aload_n 1, 1) := by decide +kernel
theorem dL_law_833 : decode cL_law 833 = .ok (.aload_n 0, 1) := by decide +kernel
theorem dL_law_834 : decode cL_law 834 = .ok (.iload_n 3, 1) := by decide +kernel
theorem dL_law_835 : decode cL_law 835 = .ok (.iconst 1, 1) := by decide +kernel
theorem dL_law_836 : decode cL_law 836 = .ok (.iadd, 1) := by decide +kernel
theorem dL_law_837 : decode cL_law 837 = .ok (.iaload, 1) := by decide +kernel
theorem dL_law_838 : decode cL_law 838 = .ok (.aload_n 0, 1) := by decide +kernel
theorem dL_law_839 : decode cL_law 839 = .ok (.iload_n 3, 1) := by decide +kernel
theorem dL_law_840 : decode cL_law 840 = .ok (.iconst 2, 1) := by decide +kernel
theorem dL_law_841 : decode cL_law 841 = .ok (.iadd, 1) := by decide +kernel
theorem dL_law_842 : decode cL_law 842 = .ok (.iaload, 1) := by decide +kernel
theorem dL_law_843 : decode cL_law 843 = .ok (.invokevirtual 91, 3) := by decide +kernel
theorem dL_law_846 : decode cL_law 846 = .ok (.aload_n 2, 1) := by decide +kernel
theorem dL_law_847 : decode cL_law 847 = .ok (.aload_n 0, 1) := by decide +kernel
theorem dL_law_848 : decode cL_law 848 = .ok (.iload_n 3, 1) := by decide +kernel
theorem dL_law_849 : decode cL_law 849 = .ok (.iconst 1, 1) := by decide +kernel
theorem dL_law_850 : decode cL_law 850 = .ok (.iadd, 1) := by decide +kernel
theorem dL_law_851 : decode cL_law 851 = .ok (.iaload, 1) := by decide +kernel
theorem dL_law_852 : decode cL_law 852 = .ok (.aload_n 0, 1) := by decide +kernel
theorem dL_law_853 : decode cL_law 853 = .ok (.iload_n 3, 1) := by decide +kernel
theorem dL_law_854 : decode cL_law 854 = .ok (.iconst 2, 1) := by decide +kernel
theorem dL_law_855 : decode cL_law 855 = .ok (.iadd, 1) := by decide +kernel
theorem dL_law_856 : decode cL_law 856 = .ok (.iaload, 1) := by decide +kernel
theorem dL_law_857 : decode cL_law 857 = .ok (.invokevirtual 94, 3) := by decide +kernel
theorem dL_law_860 : decode cL_law 860 = .ok (.if_icmp .eq 693, 3) := by decide +kernel
theorem dL_law_863 : decode cL_law 863 = .ok (.iconst 0, 1) := by decide +kernel
theorem dL_law_864 : decode cL_law 864 = .ok (.ireturn, 1) := by decide +kernel
theorem dL_law_865 : decode cL_law 865 = .ok (.aload_n 1, 1) := by decide +kernel
theorem dL_law_866 : decode cL_law 866 = .ok (.invokevirtual 95, 3) := by decide +kernel
theorem dL_law_869 : decode cL_law 869 = .ok (.aload_n 2, 1) := by decide +kernel
theorem dL_law_870 : decode cL_law 870 = .ok (.invokevirtual 98, 3) := by decide +kernel
theorem dL_law_873 : decode cL_law 873 = .ok (.if_icmp .eq 680, 3) := by decide +kernel
theorem dL_law_876 : decode cL_law 876 = .ok (.iconst 0, 1) := by decide +kernel
theorem dL_law_877 : decode cL_law 877 = .ok (.ireturn, 1) := by decide +kernel
theorem dL_law_878 : decode cL_law 878 = .ok (.aload_n 1, 1) := by decide +kernel
theorem dL_law_879 : decode cL_law 879 = .ok (.aload_n 0, 1) := by decide +kernel
theorem dL_law_880 : decode cL_law 880 = .ok (.iload_n 3, 1) := by decide +kernel
theorem dL_law_881 : decode cL_law 881 = .ok (.iconst 1, 1) := by decide +kernel
theorem dL_law_882 : decode cL_law 882 = .ok (.iadd, 1) := by decide +kernel
theorem dL_law_883 : decode cL_law 883 = .ok (.iaload, 1) := by decide +kernel
theorem dL_law_884 : decode cL_law 884 = .ok (.invokevirtual 99, 3) := by decide +kernel
theorem dL_law_887 : decode cL_law 887 = .ok (.aload_n 2, 1) := by decide +kernel
theorem dL_law_888 : decode cL_law 888 = .ok (.aload_n 0, 1) := by decide +kernel
theorem dL_law_889 : decode cL_law 889 = .ok (.iload_n 3, 1) := by decide +kernel
theorem dL_law_890 : decode cL_law 890 = .ok (.iconst 1, 1) := by decide +kernel
theorem dL_law_891 : decode cL_law 891 = .ok (.iadd, 1) := by decide +kernel
theorem dL_law_892 : decode cL_law 892 = .ok (.iaload, 1) := by decide +kernel
theorem dL_law_893 : decode cL_law 893 = .ok (.invokevirtual 102, 3) := by decide +kernel
theorem dL_law_896 : decode cL_law 896 = .ok (.if_icmp .eq 657, 3) := by decide +kernel
theorem dL_law_899 : decode cL_law 899 = .ok (.iconst 0, 1) := by decide +kernel
theorem dL_law_900 : decode cL_law 900 = .ok (.ireturn, 1) := by decide +kernel
theorem dL_law_901 : decode cL_law 901 = .ok (.aload_n 1, 1) := by decide +kernel
theorem dL_law_902 : decode cL_law 902 = .ok (.aload_n 0, 1) := by decide +kernel
theorem dL_law_903 : decode cL_law 903 = .ok (.iload_n 3, 1) := by decide +kernel
theorem dL_law_904 : decode cL_law 904 = .ok (.iconst 1, 1) := by decide +kernel
theorem dL_law_905 : decode cL_law 905 = .ok (.iadd, 1) := by decide +kernel
theorem dL_law_906 : decode cL_law 906 = .ok (.iaload, 1) := by decide +kernel
theorem dL_law_907 : decode cL_law 907 = .ok (.invokevirtual 103, 3) := by decide +kernel
theorem dL_law_910 : decode cL_law 910 = .ok (.aload_n 2, 1) := by decide +kernel
theorem dL_law_911 : decode cL_law 911 = .ok (.aload_n 0, 1) := by decide +kernel
theorem dL_law_912 : decode cL_law 912 = .ok (.iload_n 3, 1) := by decide +kernel
theorem dL_law_913 : decode cL_law 913 = .ok (.iconst 1, 1) := by decide +kernel
theorem dL_law_914 : decode cL_law 914 = .ok (.iadd, 1) := by decide +kernel
theorem dL_law_915 : decode cL_law 915 = .ok (.iaload, 1) := by decide +kernel
theorem dL_law_916 : decode cL_law 916 = .ok (.invokevirtual 106, 3) := by decide +kernel
theorem dL_law_919 : decode cL_law 919 = .ok (.if_icmp .eq 634, 3) := by decide +kernel
theorem dL_law_922 : decode cL_law 922 = .ok (.iconst 0, 1) := by decide +kernel
theorem dL_law_923 : decode cL_law 923 = .ok (.ireturn, 1) := by decide +kernel
theorem dL_law_924 : decode cL_law 924 = .ok (.aload_n 1, 1) := by decide +kernel
theorem dL_law_925 : decode cL_law 925 = .ok (.aload_n 0, 1) := by decide +kernel
theorem dL_law_926 : decode cL_law 926 = .ok (.iload_n 3, 1) := by decide +kernel
theorem dL_law_927 : decode cL_law 927 = .ok (.iconst 1, 1) := by decide +kernel
theorem dL_law_928 : decode cL_law 928 = .ok (.iadd, 1) := by decide +kernel
theorem dL_law_929 : decode cL_law 929 = .ok (.iaload, 1) := by decide +kernel
theorem dL_law_930 : decode cL_law 930 = .ok (.aload_n 0, 1) := by decide +kernel
theorem dL_law_931 : decode cL_law 931 = .ok (.iload_n 3, 1) := by decide +kernel
theorem dL_law_932 : decode cL_law 932 = .ok (.iconst 2, 1) := by decide +kernel
theorem dL_law_933 : decode cL_law 933 = .ok (.iadd, 1) := by decide +kernel
theorem dL_law_934 : decode cL_law 934 = .ok (.iaload, 1) := by decide +kernel
theorem dL_law_935 : decode cL_law 935 = .ok (.invokevirtual 107, 3) := by decide +kernel
theorem dL_law_938 : decode cL_law 938 = .ok (.aload_n 2, 1) := by decide +kernel
theorem dL_law_939 : decode cL_law 939 = .ok (.aload_n 0, 1) := by decide +kernel
theorem dL_law_940 : decode cL_law 940 = .ok (.iload_n 3, 1) := by decide +kernel
theorem dL_law_941 : decode cL_law 941 = .ok (.iconst 1, 1) := by decide +kernel
theorem dL_law_942 : decode cL_law 942 = .ok (.iadd, 1) := by decide +kernel
theorem dL_law_943 : decode cL_law 943 = .ok (.iaload, 1) := by decide +kernel
theorem dL_law_944 : decode cL_law 944 = .ok (.aload_n 0, 1) := by decide +kernel
theorem dL_law_945 : decode cL_law 945 = .ok (.iload_n 3, 1) := by decide +kernel
theorem dL_law_946 : decode cL_law 946 = .ok (.iconst 2, 1) := by decide +kernel
theorem dL_law_947 : decode cL_law 947 = .ok (.iadd, 1) := by decide +kernel
theorem dL_law_948 : decode cL_law 948 = .ok (.iaload, 1) := by decide +kernel
theorem dL_law_949 : decode cL_law 949 = .ok (.invokevirtual 110, 3) := by decide +kernel
theorem dL_law_952 : decode cL_law 952 = .ok (.if_icmp .eq 601, 3) := by decide +kernel
theorem dL_law_955 : decode cL_law 955 = .ok (.iconst 0, 1) := by decide +kernel
theorem dL_law_956 : decode cL_law 956 = .ok (.ireturn, 1) := by decide +kernel
theorem dL_law_957 : decode cL_law 957 = .ok (.aload_n 1, 1) := by decide +kernel
theorem dL_law_958 : decode cL_law 958 = .ok (.aload_n 0, 1) := by decide +kernel
theorem dL_law_959 : decode cL_law 959 = .ok (.iload_n 3, 1) := by decide +kernel
theorem dL_law_960 : decode cL_law 960 = .ok (.iconst 1, 1) := by decide +kernel
theorem dL_law_961 : decode cL_law 961 = .ok (.iadd, 1) := by decide +kernel
theorem dL_law_962 : decode cL_law 962 = .ok (.iaload, 1) := by decide +kernel
theorem dL_law_963 : decode cL_law 963 = .ok (.aload_n 0, 1) := by decide +kernel
theorem dL_law_964 : decode cL_law 964 = .ok (.iload_n 3, 1) := by decide +kernel
theorem dL_law_965 : decode cL_law 965 = .ok (.iconst 2, 1) := by decide +kernel
theorem dL_law_966 : decode cL_law 966 = .ok (.iadd, 1) := by decide +kernel
theorem dL_law_967 : decode cL_law 967 = .ok (.iaload, 1) := by decide +kernel
theorem dL_law_968 : decode cL_law 968 = .ok (.invokevirtual 111, 3) := by decide +kernel
theorem dL_law_971 : decode cL_law 971 = .ok (.aload_n 2, 1) := by decide +kernel
theorem dL_law_972 : decode cL_law 972 = .ok (.aload_n 0, 1) := by decide +kernel
theorem dL_law_973 : decode cL_law 973 = .ok (.iload_n 3, 1) := by decide +kernel
theorem dL_law_974 : decode cL_law 974 = .ok (.iconst 1, 1) := by decide +kernel
theorem dL_law_975 : decode cL_law 975 = .ok (.iadd, 1) := by decide +kernel
theorem dL_law_976 : decode cL_law 976 = .ok (.iaload, 1) := by decide +kernel
theorem dL_law_977 : decode cL_law 977 = .ok (.aload_n 0, 1) := by decide +kernel
theorem dL_law_978 : decode cL_law 978 = .ok (.iload_n 3, 1) := by decide +kernel
theorem dL_law_979 : decode cL_law 979 = .ok (.iconst 2, 1) := by decide +kernel
theorem dL_law_980 : decode cL_law 980 = .ok (.iadd, 1) := by decide +kernel
theorem dL_law_981 : decode cL_law 981 = .ok (.iaload, 1) := by decide +kernel
theorem dL_law_982 : decode cL_law 982 = .ok (.invokevirtual 114, 3) := by decide +kernel
theorem dL_law_985 : decode cL_law 985 = .ok (.if_icmp .eq 568, 3) := by decide +kernel
theorem dL_law_988 : decode cL_law 988 = .ok (.iconst 0, 1) := by decide +kernel
theorem dL_law_989 : decode cL_law 989 = .ok (.ireturn, 1) := by decide +kernel
theorem dL_law_990 : decode cL_law 990 = .ok (.aload_n 1, 1) := by decide +kernel
theorem dL_law_991 : decode cL_law 991 = .ok (.aload_n 0, 1) := by decide +kernel
theorem dL_law_992 : decode cL_law 992 = .ok (.iload_n 3, 1) := by decide +kernel
theorem dL_law_993 : decode cL_law 993 = .ok (.iconst 1, 1) := by decide +kernel
theorem dL_law_994 : decode cL_law 994 = .ok (.iadd, 1) := by decide +kernel
theorem dL_law_995 : decode cL_law 995 = .ok (.iaload, 1) := by decide +kernel
theorem dL_law_996 : decode cL_law 996 = .ok (.aload_n 0, 1) := by decide +kernel
theorem dL_law_997 : decode cL_law 997 = .ok (.iload_n 3, 1) := by decide +kernel
theorem dL_law_998 : decode cL_law 998 = .ok (.iconst 2, 1) := by decide +kernel
theorem dL_law_999 : decode cL_law 999 = .ok (.iadd, 1) := by decide +kernel
theorem dL_law_1000 : decode cL_law 1000 = .ok (.iaload, 1) := by decide +kernel
theorem dL_law_1001 : decode cL_law 1001 = .ok (.invokevirtual 115, 3) := by decide +kernel
theorem dL_law_1004 : decode cL_law 1004 = .ok (.aload_n 2, 1) := by decide +kernel
theorem dL_law_1005 : decode cL_law 1005 = .ok (.aload_n 0, 1) := by decide +kernel
theorem dL_law_1006 : decode cL_law 1006 = .ok (.iload_n 3, 1) := by decide +kernel
theorem dL_law_1007 : decode cL_law 1007 = .ok (.iconst 1, 1) := by decide +kernel
theorem dL_law_1008 : decode cL_law 1008 = .ok (.iadd, 1) := by decide +kernel
theorem dL_law_1009 : decode cL_law 1009 = .ok (.iaload, 1) := by decide +kernel
theorem dL_law_1010 : decode cL_law 1010 = .ok (.aload_n 0, 1) := by decide +kernel
theorem dL_law_1011 : decode cL_law 1011 = .ok (.iload_n 3, 1) := by decide +kernel
theorem dL_law_1012 : decode cL_law 1012 = .ok (.iconst 2, 1) := by decide +kernel
theorem dL_law_1013 : decode cL_law 1013 = .ok (.iadd, 1) := by decide +kernel
theorem dL_law_1014 : decode cL_law 1014 = .ok (.iaload, 1) := by decide +kernel
theorem dL_law_1015 : decode cL_law 1015 = .ok (.invokevirtual 118, 3) := by decide +kernel
theorem dL_law_1018 : decode cL_law 1018 = .ok (.if_icmp .eq 535, 3) := by decide +kernel
theorem dL_law_1021 : decode cL_law 1021 = .ok (.iconst 0, 1) := by decide +kernel
theorem dL_law_1022 : decode cL_law 1022 = .ok (.ireturn, 1) := by decide +kernel
theorem dL_law_1023 : decode cL_law 1023 = .ok (.aload_n 1, 1) := by decide +kernel
theorem dL_law_1024 : decode cL_law 1024 = .ok (.invokevirtual 119, 3) := by decide +kernel
theorem dL_law_1027 : decode cL_law 1027 = .ok (.aload_n 2, 1) := by decide +kernel
theorem dL_law_1028 : decode cL_law 1028 = .ok (.invokevirtual 122, 3) := by decide +kernel
theorem dL_law_1031 : decode cL_law 1031 = .ok (.if_icmp .eq 522, 3) := by decide +kernel
theorem dL_law_1034 : decode cL_law 1034 = .ok (.iconst 0, 1) := by decide +kernel
theorem dL_law_1035 : decode cL_law 1035 = .ok (.ireturn, 1) := by decide +kernel
theorem dL_law_1036 : decode cL_law 1036 = .ok (.aload_n 1, 1) := by decide +kernel
theorem dL_law_1037 : decode cL_law 1037 = .ok (.aload_n 0, 1) := by decide +kernel
theorem dL_law_1038 : decode cL_law 1038 = .ok (.iload_n 3, 1) := by decide +kernel
theorem dL_law_1039 : decode cL_law 1039 = .ok (.iconst 1, 1) := by decide +kernel
theorem dL_law_1040 : decode cL_law 1040 = .ok (.iadd, 1) := by decide +kernel
theorem dL_law_1041 : decode cL_law 1041 = .ok (.iaload, 1) := by decide +kernel
theorem dL_law_1042 : decode cL_law 1042 = .ok (.invokevirtual 123, 3) := by decide +kernel
theorem dL_law_1045 : decode cL_law 1045 = .ok (.aload_n 2, 1) := by decide +kernel
theorem dL_law_1046 : decode cL_law 1046 = .ok (.aload_n 0, 1) := by decide +kernel
theorem dL_law_1047 : decode cL_law 1047 = .ok (.iload_n 3, 1) := by decide +kernel
theorem dL_law_1048 : decode cL_law 1048 = .ok (.iconst 1, 1) := by decide +kernel
theorem dL_law_1049 : decode cL_law 1049 = .ok (.iadd, 1) := by decide +kernel
theorem dL_law_1050 : decode cL_law 1050 = .ok (.iaload, 1) := by decide +kernel
theorem dL_law_1051 : decode cL_law 1051 = .ok (.invokevirtual 126, 3) := by decide +kernel
theorem dL_law_1054 : decode cL_law 1054 = .ok (.if_icmp .eq 499, 3) := by decide +kernel
theorem dL_law_1057 : decode cL_law 1057 = .ok (.iconst 0, 1) := by decide +kernel
theorem dL_law_1058 : decode cL_law 1058 = .ok (.ireturn, 1) := by decide +kernel
theorem dL_law_1059 : decode cL_law 1059 = .ok (.aload_n 1, 1) := by decide +kernel
theorem dL_law_1060 : decode cL_law 1060 = .ok (.aload_n 0, 1) := by decide +kernel
theorem dL_law_1061 : decode cL_law 1061 = .ok (.iload_n 3, 1) := by decide +kernel
theorem dL_law_1062 : decode cL_law 1062 = .ok (.iconst 1, 1) := by decide +kernel
theorem dL_law_1063 : decode cL_law 1063 = .ok (.iadd, 1) := by decide +kernel
theorem dL_law_1064 : decode cL_law 1064 = .ok (.iaload, 1) := by decide +kernel
theorem dL_law_1065 : decode cL_law 1065 = .ok (.invokevirtual 127, 3) := by decide +kernel
theorem dL_law_1068 : decode cL_law 1068 = .ok (.aload_n 2, 1) := by decide +kernel
theorem dL_law_1069 : decode cL_law 1069 = .ok (.aload_n 0, 1) := by decide +kernel
theorem dL_law_1070 : decode cL_law 1070 = .ok (.iload_n 3, 1) := by decide +kernel
theorem dL_law_1071 : decode cL_law 1071 = .ok (.iconst 1, 1) := by decide +kernel
theorem dL_law_1072 : decode cL_law 1072 = .ok (.iadd, 1) := by decide +kernel
theorem dL_law_1073 : decode cL_law 1073 = .ok (.iaload, 1) := by decide +kernel
theorem dL_law_1074 : decode cL_law 1074 = .ok (.invokevirtual 130, 3) := by decide +kernel
theorem dL_law_1077 : decode cL_law 1077 = .ok (.if_icmp .eq 476, 3) := by decide +kernel
theorem dL_law_1080 : decode cL_law 1080 = .ok (.iconst 0, 1) := by decide +kernel
theorem dL_law_1081 : decode cL_law 1081 = .ok (.ireturn, 1) := by decide +kernel
theorem dL_law_1082 : decode cL_law 1082 = .ok (.aload_n 1, 1) := by decide +kernel
theorem dL_law_1083 : decode cL_law 1083 = .ok (.aload_n 0, 1) := by decide +kernel
theorem dL_law_1084 : decode cL_law 1084 = .ok (.iload_n 3, 1) := by decide +kernel
theorem dL_law_1085 : decode cL_law 1085 = .ok (.iconst 1, 1) := by decide +kernel
theorem dL_law_1086 : decode cL_law 1086 = .ok (.iadd, 1) := by decide +kernel
theorem dL_law_1087 : decode cL_law 1087 = .ok (.iaload, 1) := by decide +kernel
theorem dL_law_1088 : decode cL_law 1088 = .ok (.aload_n 0, 1) := by decide +kernel
theorem dL_law_1089 : decode cL_law 1089 = .ok (.iload_n 3, 1) := by decide +kernel
theorem dL_law_1090 : decode cL_law 1090 = .ok (.iconst 2, 1) := by decide +kernel
theorem dL_law_1091 : decode cL_law 1091 = .ok (.iadd, 1) := by decide +kernel
theorem dL_law_1092 : decode cL_law 1092 = .ok (.iaload, 1) := by decide +kernel
theorem dL_law_1093 : decode cL_law 1093 = .ok (.aload_n 0, 1) := by decide +kernel
theorem dL_law_1094 : decode cL_law 1094 = .ok (.iload_n 3, 1) := by decide +kernel
theorem dL_law_1095 : decode cL_law 1095 = .ok (.iconst 3, 1) := by decide +kernel
theorem dL_law_1096 : decode cL_law 1096 = .ok (.iadd, 1) := by decide +kernel
theorem dL_law_1097 : decode cL_law 1097 = .ok (.iaload, 1) := by decide +kernel
theorem dL_law_1098 : decode cL_law 1098 = .ok (.invokevirtual 131, 3) := by decide +kernel
theorem dL_law_1101 : decode cL_law 1101 = .ok (.aload_n 2, 1) := by decide +kernel
theorem dL_law_1102 : decode cL_law 1102 = .ok (.aload_n 0, 1) := by decide +kernel
theorem dL_law_1103 : decode cL_law 1103 = .ok (.iload_n 3, 1) := by decide +kernel
theorem dL_law_1104 : decode cL_law 1104 = .ok (.iconst 1, 1) := by decide +kernel
theorem dL_law_1105 : decode cL_law 1105 = .ok (.iadd, 1) := by decide +kernel
theorem dL_law_1106 : decode cL_law 1106 = .ok (.iaload, 1) := by decide +kernel
theorem dL_law_1107 : decode cL_law 1107 = .ok (.aload_n 0, 1) := by decide +kernel
theorem dL_law_1108 : decode cL_law 1108 = .ok (.iload_n 3, 1) := by decide +kernel
theorem dL_law_1109 : decode cL_law 1109 = .ok (.iconst 2, 1) := by decide +kernel
theorem dL_law_1110 : decode cL_law 1110 = .ok (.iadd, 1) := by decide +kernel
theorem dL_law_1111 : decode cL_law 1111 = .ok (.iaload, 1) := by decide +kernel
theorem dL_law_1112 : decode cL_law 1112 = .ok (.aload_n 0, 1) := by decide +kernel
theorem dL_law_1113 : decode cL_law 1113 = .ok (.iload_n 3, 1) := by decide +kernel
theorem dL_law_1114 : decode cL_law 1114 = .ok (.iconst 3, 1) := by decide +kernel
theorem dL_law_1115 : decode cL_law 1115 = .ok (.iadd, 1) := by decide +kernel
theorem dL_law_1116 : decode cL_law 1116 = .ok (.iaload, 1) := by decide +kernel
theorem dL_law_1117 : decode cL_law 1117 = .ok (.invokevirtual 134, 3) := by decide +kernel
theorem dL_law_1120 : decode cL_law 1120 = .ok (.if_icmp .eq 433, 3) := by decide +kernel
theorem dL_law_1123 : decode cL_law 1123 = .ok (.iconst 0, 1) := by decide +kernel
theorem dL_law_1124 : decode cL_law 1124 = .ok (.ireturn, 1) := by decide +kernel
theorem dL_law_1125 : decode cL_law 1125 = .ok (.aload_n 1, 1) := by decide +kernel
theorem dL_law_1126 : decode cL_law 1126 = .ok (.aload_n 0, 1) := by decide +kernel
theorem dL_law_1127 : decode cL_law 1127 = .ok (.iload_n 3, 1) := by decide +kernel
theorem dL_law_1128 : decode cL_law 1128 = .ok (.iconst 1, 1) := by decide +kernel
theorem dL_law_1129 : decode cL_law 1129 = .ok (.iadd, 1) := by decide +kernel
theorem dL_law_1130 : decode cL_law 1130 = .ok (.iaload, 1) := by decide +kernel
theorem dL_law_1131 : decode cL_law 1131 = .ok (.invokevirtual 135, 3) := by decide +kernel
theorem dL_law_1134 : decode cL_law 1134 = .ok (.aload_n 2, 1) := by decide +kernel
theorem dL_law_1135 : decode cL_law 1135 = .ok (.aload_n 0, 1) := by decide +kernel
theorem dL_law_1136 : decode cL_law 1136 = .ok (.iload_n 3, 1) := by decide +kernel
theorem dL_law_1137 : decode cL_law 1137 = .ok (.iconst 1, 1) := by decide +kernel
theorem dL_law_1138 : decode cL_law 1138 = .ok (.iadd, 1) := by decide +kernel
theorem dL_law_1139 : decode cL_law 1139 = .ok (.iaload, 1) := by decide +kernel
theorem dL_law_1140 : decode cL_law 1140 = .ok (.invokevirtual 138, 3) := by decide +kernel
theorem dL_law_1143 : decode cL_law 1143 = .ok (.if_icmp .eq 410, 3) := by decide +kernel
theorem dL_law_1146 : decode cL_law 1146 = .ok (.iconst 0, 1) := by decide +kernel
theorem dL_law_1147 : decode cL_law 1147 = .ok (.ireturn, 1) := by decide +kernel
theorem dL_law_1148 : decode cL_law 1148 = .ok (.aload_n 1, 1) := by decide +kernel
theorem dL_law_1149 : decode cL_law 1149 = .ok (.aload_n 0, 1) := by decide +kernel
theorem dL_law_1150 : decode cL_law 1150 = .ok (.iload_n 3, 1) := by decide +kernel
theorem dL_law_1151 : decode cL_law 1151 = .ok (.iconst 1, 1) := by decide +kernel
theorem dL_law_1152 : decode cL_law 1152 = .ok (.iadd, 1) := by decide +kernel
theorem dL_law_1153 : decode cL_law 1153 = .ok (.iaload, 1) := by decide +kernel
theorem dL_law_1154 : decode cL_law 1154 = .ok (.invokevirtual 139, 3) := by decide +kernel
theorem dL_law_1157 : decode cL_law 1157 = .ok (.aload_n 2, 1) := by decide +kernel
theorem dL_law_1158 : decode cL_law 1158 = .ok (.aload_n 0, 1) := by decide +kernel
theorem dL_law_1159 : decode cL_law 1159 = .ok (.iload_n 3, 1) := by decide +kernel
theorem dL_law_1160 : decode cL_law 1160 = .ok (.iconst 1, 1) := by decide +kernel
theorem dL_law_1161 : decode cL_law 1161 = .ok (.iadd, 1) := by decide +kernel
theorem dL_law_1162 : decode cL_law 1162 = .ok (.iaload, 1) := by decide +kernel
theorem dL_law_1163 : decode cL_law 1163 = .ok (.invokevirtual 142, 3) := by decide +kernel
theorem dL_law_1166 : decode cL_law 1166 = .ok (.if_icmp .eq 387, 3) := by decide +kernel
theorem dL_law_1169 : decode cL_law 1169 = .ok (.iconst 0, 1) := by decide +kernel
theorem dL_law_1170 : decode cL_law 1170 = .ok (.ireturn, 1) := by decide +kernel
theorem dL_law_1171 : decode cL_law 1171 = .ok (.aload_n 1, 1) := by decide +kernel
theorem dL_law_1172 : decode cL_law 1172 = .ok (.aload_n 0, 1) := by decide +kernel
theorem dL_law_1173 : decode cL_law 1173 = .ok (.iload_n 3, 1) := by decide +kernel
theorem dL_law_1174 : decode cL_law 1174 = .ok (.iconst 1, 1) := by decide +kernel
theorem dL_law_1175 : decode cL_law 1175 = .ok (.iadd, 1) := by decide +kernel
theorem dL_law_1176 : decode cL_law 1176 = .ok (.iaload, 1) := by decide +kernel
theorem dL_law_1177 : decode cL_law 1177 = .ok (.aload_n 0, 1) := by decide +kernel
theorem dL_law_1178 : decode cL_law 1178 = .ok (.iload_n 3, 1) := by decide +kernel
theorem dL_law_1179 : decode cL_law 1179 = .ok (.iconst 2, 1) := by decide +kernel
theorem dL_law_1180 : decode cL_law 1180 = .ok (.iadd, 1) := by decide +kernel
theorem dL_law_1181 : decode cL_law 1181 = .ok (.iaload, 1) := by decide +kernel
theorem dL_law_1182 : decode cL_law 1182 = .ok (.invokevirtual 143, 3) := by decide +kernel
theorem dL_law_1185 : decode cL_law 1185 = .ok (.aload_n 2, 1) := by decide +kernel
theorem dL_law_1186 : decode cL_law 1186 = .ok (.aload_n 0, 1) := by decide +kernel
theorem dL_law_1187 : decode cL_law 1187 = .ok (.iload_n 3, 1) := by decide +kernel
theorem dL_law_1188 : decode cL_law 1188 = .ok (.iconst 1, 1) := by decide +kernel
theorem dL_law_1189 : decode cL_law 1189 = .ok (.iadd, 1) := by decide +kernel
theorem dL_law_1190 : decode cL_law 1190 = .ok (.iaload, 1) := by decide +kernel
theorem dL_law_1191 : decode cL_law 1191 = .ok (.aload_n 0, 1) := by decide +kernel
theorem dL_law_1192 : decode cL_law 1192 = .ok (.iload_n 3, 1) := by decide +kernel
theorem dL_law_1193 : decode cL_law 1193 = .ok (.iconst 2, 1) := by decide +kernel
theorem dL_law_1194 : decode cL_law 1194 = .ok (.iadd, 1) := by decide +kernel
theorem dL_law_1195 : decode cL_law 1195 = .ok (.iaload, 1) := by decide +kernel
theorem dL_law_1196 : decode cL_law 1196 = .ok (.invokevirtual 146, 3) := by decide +kernel
theorem dL_law_1199 : decode cL_law 1199 = .ok (.if_icmp .eq 354, 3) := by decide +kernel
theorem dL_law_1202 : decode cL_law 1202 = .ok (.iconst 0, 1) := by decide +kernel
theorem dL_law_1203 : decode cL_law 1203 = .ok (.ireturn, 1) := by decide +kernel
theorem dL_law_1204 : decode cL_law 1204 = .ok (.aload_n 1, 1) := by decide +kernel
theorem dL_law_1205 : decode cL_law 1205 = .ok (.aload_n 0, 1) := by decide +kernel
theorem dL_law_1206 : decode cL_law 1206 = .ok (.iload_n 3, 1) := by decide +kernel
theorem dL_law_1207 : decode cL_law 1207 = .ok (.iconst 1, 1) := by decide +kernel
theorem dL_law_1208 : decode cL_law 1208 = .ok (.iadd, 1) := by decide +kernel
theorem dL_law_1209 : decode cL_law 1209 = .ok (.iaload, 1) := by decide +kernel
theorem dL_law_1210 : decode cL_law 1210 = .ok (.aload_n 0, 1) := by decide +kernel
theorem dL_law_1211 : decode cL_law 1211 = .ok (.iload_n 3, 1) := by decide +kernel
theorem dL_law_1212 : decode cL_law 1212 = .ok (.iconst 2, 1) := by decide +kernel
theorem dL_law_1213 : decode cL_law 1213 = .ok (.iadd, 1) := by decide +kernel
theorem dL_law_1214 : decode cL_law 1214 = .ok (.iaload, 1) := by decide +kernel
theorem dL_law_1215 : decode cL_law 1215 = .ok (.invokevirtual 147, 3) := by decide +kernel
theorem dL_law_1218 : decode cL_law 1218 = .ok (.aload_n 2, 1) := by decide +kernel
theorem dL_law_1219 : decode cL_law 1219 = .ok (.aload_n 0, 1) := by decide +kernel
theorem dL_law_1220 : decode cL_law 1220 = .ok (.iload_n 3, 1) := by decide +kernel
theorem dL_law_1221 : decode cL_law 1221 = .ok (.iconst 1, 1) := by decide +kernel
theorem dL_law_1222 : decode cL_law 1222 = .ok (.iadd, 1) := by decide +kernel
theorem dL_law_1223 : decode cL_law 1223 = .ok (.iaload, 1) := by decide +kernel
theorem dL_law_1224 : decode cL_law 1224 = .ok (.aload_n 0, 1) := by decide +kernel
theorem dL_law_1225 : decode cL_law 1225 = .ok (.iload_n 3, 1) := by decide +kernel
theorem dL_law_1226 : decode cL_law 1226 = .ok (.iconst 2, 1) := by decide +kernel
theorem dL_law_1227 : decode cL_law 1227 = .ok (.iadd, 1) := by decide +kernel
theorem dL_law_1228 : decode cL_law 1228 = .ok (.iaload, 1) := by decide +kernel
theorem dL_law_1229 : decode cL_law 1229 = .ok (.invokevirtual 150, 3) := by decide +kernel
theorem dL_law_1232 : decode cL_law 1232 = .ok (.if_icmp .eq 321, 3) := by decide +kernel
theorem dL_law_1235 : decode cL_law 1235 = .ok (.iconst 0, 1) := by decide +kernel
theorem dL_law_1236 : decode cL_law 1236 = .ok (.ireturn, 1) := by decide +kernel
theorem dL_law_1237 : decode cL_law 1237 = .ok (.aload_n 1, 1) := by decide +kernel
theorem dL_law_1238 : decode cL_law 1238 = .ok (.aload_n 0, 1) := by decide +kernel
theorem dL_law_1239 : decode cL_law 1239 = .ok (.iload_n 3, 1) := by decide +kernel
theorem dL_law_1240 : decode cL_law 1240 = .ok (.iconst 1, 1) := by decide +kernel
theorem dL_law_1241 : decode cL_law 1241 = .ok (.iadd, 1) := by decide +kernel
theorem dL_law_1242 : decode cL_law 1242 = .ok (.iaload, 1) := by decide +kernel
theorem dL_law_1243 : decode cL_law 1243 = .ok (.aload_n 0, 1) := by decide +kernel
theorem dL_law_1244 : decode cL_law 1244 = .ok (.iload_n 3, 1) := by decide +kernel
theorem dL_law_1245 : decode cL_law 1245 = .ok (.iconst 2, 1) := by decide +kernel
theorem dL_law_1246 : decode cL_law 1246 = .ok (.iadd, 1) := by decide +kernel
theorem dL_law_1247 : decode cL_law 1247 = .ok (.iaload, 1) := by decide +kernel
theorem dL_law_1248 : decode cL_law 1248 = .ok (.invokevirtual 151, 3) := by decide +kernel
theorem dL_law_1251 : decode cL_law 1251 = .ok (.aload_n 2, 1) := by decide +kernel
theorem dL_law_1252 : decode cL_law 1252 = .ok (.aload_n 0, 1) := by decide +kernel
theorem dL_law_1253 : decode cL_law 1253 = .ok (.iload_n 3, 1) := by decide +kernel
theorem dL_law_1254 : decode cL_law 1254 = .ok (.iconst 1, 1) := by decide +kernel
theorem dL_law_1255 : decode cL_law 1255 = .ok (.iadd, 1) := by decide +kernel
theorem dL_law_1256 : decode cL_law 1256 = .ok (.iaload, 1) := by decide +kernel
theorem dL_law_1257 : decode cL_law 1257 = .ok (.aload_n 0, 1) := by decide +kernel
theorem dL_law_1258 : decode cL_law 1258 = .ok (.iload_n 3, 1) := by decide +kernel
theorem dL_law_1259 : decode cL_law 1259 = .ok (.iconst 2, 1) := by decide +kernel
theorem dL_law_1260 : decode cL_law 1260 = .ok (.iadd, 1) := by decide +kernel
theorem dL_law_1261 : decode cL_law 1261 = .ok (.iaload, 1) := by decide +kernel
theorem dL_law_1262 : decode cL_law 1262 = .ok (.invokevirtual 154, 3) := by decide +kernel
theorem dL_law_1265 : decode cL_law 1265 = .ok (.if_icmp .eq 288, 3) := by decide +kernel
theorem dL_law_1268 : decode cL_law 1268 = .ok (.iconst 0, 1) := by decide +kernel
theorem dL_law_1269 : decode cL_law 1269 = .ok (.ireturn, 1) := by decide +kernel
theorem dL_law_1270 : decode cL_law 1270 = .ok (.aload_n 1, 1) := by decide +kernel
theorem dL_law_1271 : decode cL_law 1271 = .ok (.aload_n 0, 1) := by decide +kernel
theorem dL_law_1272 : decode cL_law 1272 = .ok (.iload_n 3, 1) := by decide +kernel
theorem dL_law_1273 : decode cL_law 1273 = .ok (.iconst 1, 1) := by decide +kernel
theorem dL_law_1274 : decode cL_law 1274 = .ok (.iadd, 1) := by decide +kernel
theorem dL_law_1275 : decode cL_law 1275 = .ok (.iaload, 1) := by decide +kernel
theorem dL_law_1276 : decode cL_law 1276 = .ok (.aload_n 0, 1) := by decide +kernel
theorem dL_law_1277 : decode cL_law 1277 = .ok (.iload_n 3, 1) := by decide +kernel
theorem dL_law_1278 : decode cL_law 1278 = .ok (.iconst 2, 1) := by decide +kernel
theorem dL_law_1279 : decode cL_law 1279 = .ok (.iadd, 1) := by decide +kernel
theorem dL_law_1280 : decode cL_law 1280 = .ok (.iaload, 1) := by decide +kernel
theorem dL_law_1281 : decode cL_law 1281 = .ok (.invokevirtual 155, 3) := by decide +kernel
theorem dL_law_1284 : decode cL_law 1284 = .ok (.aload_n 2, 1) := by decide +kernel
theorem dL_law_1285 : decode cL_law 1285 = .ok (.aload_n 0, 1) := by decide +kernel
theorem dL_law_1286 : decode cL_law 1286 = .ok (.iload_n 3, 1) := by decide +kernel
theorem dL_law_1287 : decode cL_law 1287 = .ok (.iconst 1, 1) := by decide +kernel
theorem dL_law_1288 : decode cL_law 1288 = .ok (.iadd, 1) := by decide +kernel
theorem dL_law_1289 : decode cL_law 1289 = .ok (.iaload, 1) := by decide +kernel
theorem dL_law_1290 : decode cL_law 1290 = .ok (.aload_n 0, 1) := by decide +kernel
theorem dL_law_1291 : decode cL_law 1291 = .ok (.iload_n 3, 1) := by decide +kernel
theorem dL_law_1292 : decode cL_law 1292 = .ok (.iconst 2, 1) := by decide +kernel
theorem dL_law_1293 : decode cL_law 1293 = .ok (.iadd, 1) := by decide +kernel
theorem dL_law_1294 : decode cL_law 1294 = .ok (.iaload, 1) := by decide +kernel
theorem dL_law_1295 : decode cL_law 1295 = .ok (.invokevirtual 158, 3) := by decide +kernel
theorem dL_law_1298 : decode cL_law 1298 = .ok (.if_icmp .eq 255, 3) := by decide +kernel
theorem dL_law_1301 : decode cL_law 1301 = .ok (.iconst 0, 1) := by decide +kernel
theorem dL_law_1302 : decode cL_law 1302 = .ok (.ireturn, 1) := by decide +kernel
theorem dL_law_1303 : decode cL_law 1303 = .ok (.aload_n 1, 1) := by decide +kernel
theorem dL_law_1304 : decode cL_law 1304 = .ok (.invokevirtual 159, 3) := by decide +kernel
theorem dL_law_1307 : decode cL_law 1307 = .ok (.aload_n 2, 1) := by decide +kernel
theorem dL_law_1308 : decode cL_law 1308 = .ok (.invokevirtual 162, 3) := by decide +kernel
theorem dL_law_1311 : decode cL_law 1311 = .ok (.if_icmp .eq 242, 3) := by decide +kernel
theorem dL_law_1314 : decode cL_law 1314 = .ok (.iconst 0, 1) := by decide +kernel
theorem dL_law_1315 : decode cL_law 1315 = .ok (.ireturn, 1) := by decide +kernel
theorem dL_law_1316 : decode cL_law 1316 = .ok (.aload_n 1, 1) := by decide +kernel
theorem dL_law_1317 : decode cL_law 1317 = .ok (.aload_n 0, 1) := by decide +kernel
theorem dL_law_1318 : decode cL_law 1318 = .ok (.iload_n 3, 1) := by decide +kernel
theorem dL_law_1319 : decode cL_law 1319 = .ok (.iconst 1, 1) := by decide +kernel
theorem dL_law_1320 : decode cL_law 1320 = .ok (.iadd, 1) := by decide +kernel
theorem dL_law_1321 : decode cL_law 1321 = .ok (.iaload, 1) := by decide +kernel
theorem dL_law_1322 : decode cL_law 1322 = .ok (.aload_n 0, 1) := by decide +kernel
theorem dL_law_1323 : decode cL_law 1323 = .ok (.iload_n 3, 1) := by decide +kernel
theorem dL_law_1324 : decode cL_law 1324 = .ok (.iconst 2, 1) := by decide +kernel
theorem dL_law_1325 : decode cL_law 1325 = .ok (.iadd, 1) := by decide +kernel
theorem dL_law_1326 : decode cL_law 1326 = .ok (.iaload, 1) := by decide +kernel
theorem dL_law_1327 : decode cL_law 1327 = .ok (.aload_n 0, 1) := by decide +kernel
theorem dL_law_1328 : decode cL_law 1328 = .ok (.iload_n 3, 1) := by decide +kernel
theorem dL_law_1329 : decode cL_law 1329 = .ok (.iconst 3, 1) := by decide +kernel
theorem dL_law_1330 : decode cL_law 1330 = .ok (.iadd, 1) := by decide +kernel
theorem dL_law_1331 : decode cL_law 1331 = .ok (.iaload, 1) := by decide +kernel
theorem dL_law_1332 : decode cL_law 1332 = .ok (.invokevirtual 163, 3) := by decide +kernel
theorem dL_law_1335 : decode cL_law 1335 = .ok (.aload_n 2, 1) := by decide +kernel
theorem dL_law_1336 : decode cL_law 1336 = .ok (.aload_n 0, 1) := by decide +kernel
theorem dL_law_1337 : decode cL_law 1337 = .ok (.iload_n 3, 1) := by decide +kernel
theorem dL_law_1338 : decode cL_law 1338 = .ok (.iconst 1, 1) := by decide +kernel
theorem dL_law_1339 : decode cL_law 1339 = .ok (.iadd, 1) := by decide +kernel
theorem dL_law_1340 : decode cL_law 1340 = .ok (.iaload, 1) := by decide +kernel
theorem dL_law_1341 : decode cL_law 1341 = .ok (.aload_n 0, 1) := by decide +kernel
theorem dL_law_1342 : decode cL_law 1342 = .ok (.iload_n 3, 1) := by decide +kernel
theorem dL_law_1343 : decode cL_law 1343 = .ok (.iconst 2, 1) := by decide +kernel
theorem dL_law_1344 : decode cL_law 1344 = .ok (.iadd, 1) := by decide +kernel
theorem dL_law_1345 : decode cL_law 1345 = .ok (.iaload, 1) := by decide +kernel
theorem dL_law_1346 : decode cL_law 1346 = .ok (.aload_n 0, 1) := by decide +kernel
theorem dL_law_1347 : decode cL_law 1347 = .ok (.iload_n 3, 1) := by decide +kernel
theorem dL_law_1348 : decode cL_law 1348 = .ok (.iconst 3, 1) := by decide +kernel
theorem dL_law_1349 : decode cL_law 1349 = .ok (.iadd, 1) := by decide +kernel
theorem dL_law_1350 : decode cL_law 1350 = .ok (.iaload, 1) := by decide +kernel
theorem dL_law_1351 : decode cL_law 1351 = .ok (.invokevirtual 166, 3) := by decide +kernel
theorem dL_law_1354 : decode cL_law 1354 = .ok (.if_icmp .eq 199, 3) := by decide +kernel
theorem dL_law_1357 : decode cL_law 1357 = .ok (.iconst 0, 1) := by decide +kernel
theorem dL_law_1358 : decode cL_law 1358 = .ok (.ireturn, 1) := by decide +kernel
theorem dL_law_1359 : decode cL_law 1359 = .ok (.aload_n 1, 1) := by decide +kernel
theorem dL_law_1360 : decode cL_law 1360 = .ok (.aload_n 0, 1) := by decide +kernel
theorem dL_law_1361 : decode cL_law 1361 = .ok (.iload_n 3, 1) := by decide +kernel
theorem dL_law_1362 : decode cL_law 1362 = .ok (.iconst 1, 1) := by decide +kernel
theorem dL_law_1363 : decode cL_law 1363 = .ok (.iadd, 1) := by decide +kernel
theorem dL_law_1364 : decode cL_law 1364 = .ok (.iaload, 1) := by decide +kernel
theorem dL_law_1365 : decode cL_law 1365 = .ok (.aload_n 0, 1) := by decide +kernel
theorem dL_law_1366 : decode cL_law 1366 = .ok (.iload_n 3, 1) := by decide +kernel
theorem dL_law_1367 : decode cL_law 1367 = .ok (.iconst 2, 1) := by decide +kernel
theorem dL_law_1368 : decode cL_law 1368 = .ok (.iadd, 1) := by decide +kernel
theorem dL_law_1369 : decode cL_law 1369 = .ok (.iaload, 1) := by decide +kernel
theorem dL_law_1370 : decode cL_law 1370 = .ok (.invokevirtual 167, 3) := by decide +kernel
theorem dL_law_1373 : decode cL_law 1373 = .ok (.aload_n 2, 1) := by decide +kernel
theorem dL_law_1374 : decode cL_law 1374 = .ok (.aload_n 0, 1) := by decide +kernel
theorem dL_law_1375 : decode cL_law 1375 = .ok (.iload_n 3, 1) := by decide +kernel
theorem dL_law_1376 : decode cL_law 1376 = .ok (.iconst 1, 1) := by decide +kernel
theorem dL_law_1377 : decode cL_law 1377 = .ok (.iadd, 1) := by decide +kernel
theorem dL_law_1378 : decode cL_law 1378 = .ok (.iaload, 1) := by decide +kernel
theorem dL_law_1379 : decode cL_law 1379 = .ok (.aload_n 0, 1) := by decide +kernel
theorem dL_law_1380 : decode cL_law 1380 = .ok (.iload_n 3, 1) := by decide +kernel
theorem dL_law_1381 : decode cL_law 1381 = .ok (.iconst 2, 1) := by decide +kernel
theorem dL_law_1382 : decode cL_law 1382 = .ok (.iadd, 1) := by decide +kernel
theorem dL_law_1383 : decode cL_law 1383 = .ok (.iaload, 1) := by decide +kernel
theorem dL_law_1384 : decode cL_law 1384 = .ok (.invokevirtual 170, 3) := by decide +kernel
theorem dL_law_1387 : decode cL_law 1387 = .ok (.if_icmp .eq 166, 3) := by decide +kernel
theorem dL_law_1390 : decode cL_law 1390 = .ok (.iconst 0, 1) := by decide +kernel
theorem dL_law_1391 : decode cL_law 1391 = .ok (.ireturn, 1) := by decide +kernel
theorem dL_law_1392 : decode cL_law 1392 = .ok (.aload_n 1, 1) := by decide +kernel
theorem dL_law_1393 : decode cL_law 1393 = .ok (.aload_n 0, 1) := by decide +kernel
theorem dL_law_1394 : decode cL_law 1394 = .ok (.iload_n 3, 1) := by decide +kernel
theorem dL_law_1395 : decode cL_law 1395 = .ok (.iconst 1, 1) := by decide +kernel
theorem dL_law_1396 : decode cL_law 1396 = .ok (.iadd, 1) := by decide +kernel
theorem dL_law_1397 : decode cL_law 1397 = .ok (.iaload, 1) := by decide +kernel
theorem dL_law_1398 : decode cL_law 1398 = .ok (.invokevirtual 171, 3) := by decide +kernel
theorem dL_law_1401 : decode cL_law 1401 = .ok (.aload_n 2, 1) := by decide +kernel
theorem dL_law_1402 : decode cL_law 1402 = .ok (.aload_n 0, 1) := by decide +kernel
theorem dL_law_1403 : decode cL_law 1403 = .ok (.iload_n 3, 1) := by decide +kernel
theorem dL_law_1404 : decode cL_law 1404 = .ok (.iconst 1, 1) := by decide +kernel
theorem dL_law_1405 : decode cL_law 1405 = .ok (.iadd, 1) := by decide +kernel
theorem dL_law_1406 : decode cL_law 1406 = .ok (.iaload, 1) := by decide +kernel
theorem dL_law_1407 : decode cL_law 1407 = .ok (.invokevirtual 174, 3) := by decide +kernel
theorem dL_law_1410 : decode cL_law 1410 = .ok (.if_icmp .eq 143, 3) := by decide +kernel
theorem dL_law_1413 : decode cL_law 1413 = .ok (.iconst 0, 1) := by decide +kernel
theorem dL_law_1414 : decode cL_law 1414 = .ok (.ireturn, 1) := by decide +kernel
theorem dL_law_1415 : decode cL_law 1415 = .ok (.aload_n 1, 1) := by decide +kernel
theorem dL_law_1416 : decode cL_law 1416 = .ok (.aload_n 0, 1) := by decide +kernel
theorem dL_law_1417 : decode cL_law 1417 = .ok (.iload_n 3, 1) := by decide +kernel
theorem dL_law_1418 : decode cL_law 1418 = .ok (.iconst 1, 1) := by decide +kernel
theorem dL_law_1419 : decode cL_law 1419 = .ok (.iadd, 1) := by decide +kernel
theorem dL_law_1420 : decode cL_law 1420 = .ok (.iaload, 1) := by decide +kernel
theorem dL_law_1421 : decode cL_law 1421 = .ok (.invokevirtual 175, 3) := by decide +kernel
theorem dL_law_1424 : decode cL_law 1424 = .ok (.aload_n 2, 1) := by decide +kernel
theorem dL_law_1425 : decode cL_law 1425 = .ok (.aload_n 0, 1) := by decide +kernel
theorem dL_law_1426 : decode cL_law 1426 = .ok (.iload_n 3, 1) := by decide +kernel
theorem dL_law_1427 : decode cL_law 1427 = .ok (.iconst 1, 1) := by decide +kernel
theorem dL_law_1428 : decode cL_law 1428 = .ok (.iadd, 1) := by decide +kernel
theorem dL_law_1429 : decode cL_law 1429 = .ok (.iaload, 1) := by decide +kernel
theorem dL_law_1430 : decode cL_law 1430 = .ok (.invokevirtual 178, 3) := by decide +kernel
theorem dL_law_1433 : decode cL_law 1433 = .ok (.if_icmp .eq 120, 3) := by decide +kernel
theorem dL_law_1436 : decode cL_law 1436 = .ok (.iconst 0, 1) := by decide +kernel
theorem dL_law_1437 : decode cL_law 1437 = .ok (.ireturn, 1) := by decide +kernel
theorem dL_law_1438 : decode cL_law 1438 = .ok (.aload_n 1, 1) := by decide +kernel
theorem dL_law_1439 : decode cL_law 1439 = .ok (.aload_n 0, 1) := by decide +kernel
theorem dL_law_1440 : decode cL_law 1440 = .ok (.iload_n 3, 1) := by decide +kernel
theorem dL_law_1441 : decode cL_law 1441 = .ok (.iconst 1, 1) := by decide +kernel
theorem dL_law_1442 : decode cL_law 1442 = .ok (.iadd, 1) := by decide +kernel
theorem dL_law_1443 : decode cL_law 1443 = .ok (.iaload, 1) := by decide +kernel
theorem dL_law_1444 : decode cL_law 1444 = .ok (.aload_n 0, 1) := by decide +kernel
theorem dL_law_1445 : decode cL_law 1445 = .ok (.iload_n 3, 1) := by decide +kernel
theorem dL_law_1446 : decode cL_law 1446 = .ok (.iconst 2, 1) := by decide +kernel
theorem dL_law_1447 : decode cL_law 1447 = .ok (.iadd, 1) := by decide +kernel
theorem dL_law_1448 : decode cL_law 1448 = .ok (.iaload, 1) := by decide +kernel
theorem dL_law_1449 : decode cL_law 1449 = .ok (.invokevirtual 179, 3) := by decide +kernel
theorem dL_law_1452 : decode cL_law 1452 = .ok (.aload_n 2, 1) := by decide +kernel
theorem dL_law_1453 : decode cL_law 1453 = .ok (.aload_n 0, 1) := by decide +kernel
theorem dL_law_1454 : decode cL_law 1454 = .ok (.iload_n 3, 1) := by decide +kernel
theorem dL_law_1455 : decode cL_law 1455 = .ok (.iconst 1, 1) := by decide +kernel
theorem dL_law_1456 : decode cL_law 1456 = .ok (.iadd, 1) := by decide +kernel
theorem dL_law_1457 : decode cL_law 1457 = .ok (.iaload, 1) := by decide +kernel
theorem dL_law_1458 : decode cL_law 1458 = .ok (.aload_n 0, 1) := by decide +kernel
theorem dL_law_1459 : decode cL_law 1459 = .ok (.iload_n 3, 1) := by decide +kernel
theorem dL_law_1460 : decode cL_law 1460 = .ok (.iconst 2, 1) := by decide +kernel
theorem dL_law_1461 : decode cL_law 1461 = .ok (.iadd, 1) := by decide +kernel
theorem dL_law_1462 : decode cL_law 1462 = .ok (.iaload, 1) := by decide +kernel
theorem dL_law_1463 : decode cL_law 1463 = .ok (.invokevirtual 182, 3) := by decide +kernel
theorem dL_law_1466 : decode cL_law 1466 = .ok (.if_icmp .eq 87, 3) := by decide +kernel
theorem dL_law_1469 : decode cL_law 1469 = .ok (.iconst 0, 1) := by decide +kernel
theorem dL_law_1470 : decode cL_law 1470 = .ok (.ireturn, 1) := by decide +kernel
theorem dL_law_1471 : decode cL_law 1471 = .ok (.aload_n 1, 1) := by decide +kernel
theorem dL_law_1472 : decode cL_law 1472 = .ok (.aload_n 0, 1) := by decide +kernel
theorem dL_law_1473 : decode cL_law 1473 = .ok (.iload_n 3, 1) := by decide +kernel
theorem dL_law_1474 : decode cL_law 1474 = .ok (.iconst 1, 1) := by decide +kernel
theorem dL_law_1475 : decode cL_law 1475 = .ok (.iadd, 1) := by decide +kernel
theorem dL_law_1476 : decode cL_law 1476 = .ok (.iaload, 1) := by decide +kernel
theorem dL_law_1477 : decode cL_law 1477 = .ok (.invokevirtual 183, 3) := by decide +kernel
theorem dL_law_1480 : decode cL_law 1480 = .ok (.aload_n 2, 1) := by decide +kernel
theorem dL_law_1481 : decode cL_law 1481 = .ok (.aload_n 0, 1) := by decide +kernel
theorem dL_law_1482 : decode cL_law 1482 = .ok (.iload_n 3, 1) := by decide +kernel
theorem dL_law_1483 : decode cL_law 1483 = .ok (.iconst 1, 1) := by decide +kernel
theorem dL_law_1484 : decode cL_law 1484 = .ok (.iadd, 1) := by decide +kernel
theorem dL_law_1485 : decode cL_law 1485 = .ok (.iaload, 1) := by decide +kernel
theorem dL_law_1486 : decode cL_law 1486 = .ok (.invokevirtual 186, 3) := by decide +kernel
theorem dL_law_1489 : decode cL_law 1489 = .ok (.if_icmp .eq 64, 3) := by decide +kernel
theorem dL_law_1492 : decode cL_law 1492 = .ok (.iconst 0, 1) := by decide +kernel
theorem dL_law_1493 : decode cL_law 1493 = .ok (.ireturn, 1) := by decide +kernel
theorem dL_law_1494 : decode cL_law 1494 = .ok (.aload_n 1, 1) := by decide +kernel
theorem dL_law_1495 : decode cL_law 1495 = .ok (.aload_n 0, 1) := by decide +kernel
theorem dL_law_1496 : decode cL_law 1496 = .ok (.iload_n 3, 1) := by decide +kernel
theorem dL_law_1497 : decode cL_law 1497 = .ok (.iconst 1, 1) := by decide +kernel
theorem dL_law_1498 : decode cL_law 1498 = .ok (.iadd, 1) := by decide +kernel
theorem dL_law_1499 : decode cL_law 1499 = .ok (.iaload, 1) := by decide +kernel
theorem dL_law_1500 : decode cL_law 1500 = .ok (.invokevirtual 187, 3) := by decide +kernel
theorem dL_law_1503 : decode cL_law 1503 = .ok (.aload_n 2, 1) := by decide +kernel
theorem dL_law_1504 : decode cL_law 1504 = .ok (.aload_n 0, 1) := by decide +kernel
theorem dL_law_1505 : decode cL_law 1505 = .ok (.iload_n 3, 1) := by decide +kernel
theorem dL_law_1506 : decode cL_law 1506 = .ok (.iconst 1, 1) := by decide +kernel
theorem dL_law_1507 : decode cL_law 1507 = .ok (.iadd, 1) := by decide +kernel
theorem dL_law_1508 : decode cL_law 1508 = .ok (.iaload, 1) := by decide +kernel
theorem dL_law_1509 : decode cL_law 1509 = .ok (.invokevirtual 190, 3) := by decide +kernel
theorem dL_law_1512 : decode cL_law 1512 = .ok (.if_icmp .eq 41, 3) := by decide +kernel
theorem dL_law_1515 : decode cL_law 1515 = .ok (.iconst 0, 1) := by decide +kernel
theorem dL_law_1516 : decode cL_law 1516 = .ok (.ireturn, 1) := by decide +kernel
theorem dL_law_1517 : decode cL_law 1517 = .ok (.aload_n 1, 1) := by decide +kernel
theorem dL_law_1518 : decode cL_law 1518 = .ok (.aload_n 0, 1) := by decide +kernel
theorem dL_law_1519 : decode cL_law 1519 = .ok (.iload_n 3, 1) := by decide +kernel
theorem dL_law_1520 : decode cL_law 1520 = .ok (.iconst 1, 1) := by decide +kernel
theorem dL_law_1521 : decode cL_law 1521 = .ok (.iadd, 1) := by decide +kernel
theorem dL_law_1522 : decode cL_law 1522 = .ok (.iaload, 1) := by decide +kernel
theorem dL_law_1523 : decode cL_law 1523 = .ok (.invokevirtual 191, 3) := by decide +kernel
theorem dL_law_1526 : decode cL_law 1526 = .ok (.aload_n 2, 1) := by decide +kernel
theorem dL_law_1527 : decode cL_law 1527 = .ok (.aload_n 0, 1) := by decide +kernel
theorem dL_law_1528 : decode cL_law 1528 = .ok (.iload_n 3, 1) := by decide +kernel
theorem dL_law_1529 : decode cL_law 1529 = .ok (.iconst 1, 1) := by decide +kernel
theorem dL_law_1530 : decode cL_law 1530 = .ok (.iadd, 1) := by decide +kernel
theorem dL_law_1531 : decode cL_law 1531 = .ok (.iaload, 1) := by decide +kernel
theorem dL_law_1532 : decode cL_law 1532 = .ok (.invokevirtual 194, 3) := by decide +kernel
theorem dL_law_1535 : decode cL_law 1535 = .ok (.if_icmp .eq 18, 3) := by decide +kernel
theorem dL_law_1538 : decode cL_law 1538 = .ok (.iconst 0, 1) := by decide +kernel
theorem dL_law_1539 : decode cL_law 1539 = .ok (.ireturn, 1) := by decide +kernel
theorem dL_law_1540 : decode cL_law 1540 = .ok (.aload_n 1, 1) := by decide +kernel
theorem dL_law_1541 : decode cL_law 1541 = .ok (.invokevirtual 195, 3) := by decide +kernel
theorem dL_law_1544 : decode cL_law 1544 = .ok (.aload_n 2, 1) := by decide +kernel
theorem dL_law_1545 : decode cL_law 1545 = .ok (.invokevirtual 198, 3) := by decide +kernel
theorem dL_law_1548 : decode cL_law 1548 = .ok (.if_icmp .eq 5, 3) := by decide +kernel
theorem dL_law_1551 : decode cL_law 1551 = .ok (.iconst 0, 1) := by decide +kernel
theorem dL_law_1552 : decode cL_law 1552 = .ok (.ireturn, 1) := by decide +kernel
theorem dL_law_1553 : decode cL_law 1553 = .ok (.iinc 3 6, 3) := by decide +kernel
theorem dL_law_1556 : decode cL_law 1556 = .ok (.goto (-1538), 3) := by decide +kernel
theorem dL_law_1559 : decode cL_law 1559 = .ok (.iconst 1, 1) := by decide +kernel
theorem dL_law_1560 : decode cL_law 1560 = .ok (.ireturn, 1) := by decide +kernel
