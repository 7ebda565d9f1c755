theorem dX9_takesE_42 : decode cX9_takesE 42 = .ok (.ireturn, 1) := by decide +kernel
theorem dX9_takesE_43 : decode cX9_takesE 43 = .ok (.aload_n 0, 1) := by decide +kernel
theorem dX9_takesE_44 : decode cX9_takesE 44 = .ok (.dup, 1) := by decide +kernel
theorem dX9_takesE_45 : decode cX9_takesE 45 = .ok (.getfield 80, 3) := by decide +kernel
theorem dX9_takesE_48 : decode cX9_takesE 48 = .ok (.iconst 1, 1) := by decide +kernel
theorem dX9_takesE_49 : decode cX9_takesE 49 = .ok (.iadd, 1) := by decide +kernel
theorem dX9_takesE_50 : decode cX9_takesE 50 = .ok (.putfield 80, 3) := by decide +kernel
theorem dX9_takesE_53 : decode cX9_takesE 53 = .ok (.aload_n 0, 1) := by decide +kernel
theorem dX9_takesE_54 : decode cX9_takesE 54 = .ok (.getfield 74, 3) := by decide +kernel
theorem dX9_takesE_57 : decode cX9_takesE 57 = .ok (.aload_n 0, 1) := by decide +kernel
theorem dX9_takesE_58 : decode cX9_takesE 58 = .ok (.getfield 77, 3) := by decide +kernel
theorem dX9_takesE_61 : decode cX9_takesE 61 = .ok (.iload_n 2, 1) := by decide +kernel
theorem dX9_takesE_62 : decode cX9_takesE 62 = .ok (.iastore, 1) := by decide +kernel
theorem dX9_takesE_63 : decode cX9_takesE 63 = .ok (.aload_n 0, 1) := by decide +kernel
theorem dX9_takesE_64 : decode cX9_takesE 64 = .ok (.dup, 1) := by decide +kernel
theorem dX9_takesE_65 : decode cX9_takesE 65 = .ok (.getfield 77, 3) := by decide +kernel
theorem dX9_takesE_68 : decode cX9_takesE 68 = .ok (.iconst 1, 1) := by decide +kernel
theorem dX9_takesE_69 : decode cX9_takesE 69 = .ok (.iadd, 1) := by decide +kernel
theorem dX9_takesE_70 : decode cX9_takesE 70 = .ok (.putfield 77, 3) := by decide +kernel
theorem dX9_takesE_73 : decode cX9_takesE 73 = .ok (.aload_n 0, 1) := by decide +kernel
theorem dX9_takesE_74 : decode cX9_takesE 74 = .ok (.dup, 1) := by decide +kernel
theorem dX9_takesE_75 : decode cX9_takesE 75 = .ok (.getfield 44, 3) := by decide +kernel
theorem dX9_takesE_78 : decode cX9_takesE 78 = .ok (.iconst 1, 1) := by decide +kernel
theorem dX9_takesE_79 : decode cX9_takesE 79 = .ok (.iadd, 1) := by decide +kernel
theorem dX9_takesE_80 : decode cX9_takesE 80 = .ok (.putfield 44, 3) := by decide +kernel
theorem dX9_takesE_83 : decode cX9_takesE 83 = .ok (.goto (-71), 3) := by decide +kernel
theorem dX9_takesE_86 : decode cX9_takesE 86 = .ok (.aload_n 0, 1) := by decide +kernel
theorem dX9_takesE_87 : decode cX9_takesE 87 = .ok (.invokevirtual 159, 3) := by decide +kernel
theorem dX9_takesE_90 : decode cX9_takesE 90 = .ok (.ifCond .eq 8, 3) := by decide +kernel
theorem dX9_takesE_93 : decode cX9_takesE 93 = .ok (.iconst 0, 1) := by decide +kernel
theorem dX9_takesE_94 : decode cX9_takesE 94 = .ok (.istore_n 1, 1) := by decide +kernel
theorem dX9_takesE_95 : decode cX9_takesE 95 = .ok (.goto (-83), 3) := by decide +kernel
theorem dX9_takesE_98 : decode cX9_takesE 98 = .ok (.iconst 0, 1) := by decide +kernel
theorem dX9_takesE_99 : decode cX9_takesE 99 = .ok (.ireturn, 1) := by decide +kernel
theorem dX9_takesE_100 : decode cX9_takesE 100 = .ok (.iload_n 2, 1) := by decide +kernel
theorem dX9_takesE_101 : decode cX9_takesE 101 = .ok (.bipush 38, 2) := by decide +kernel
theorem dX9_takesE_103 : decode cX9_takesE 103 = .ok (.if_icmp .eq 9, 3) := by decide +kernel
theorem dX9_takesE_106 : decode cX9_takesE 106 = .ok (.iload_n 2, 1) := by decide +kernel
theorem dX9_takesE_107 : decode cX9_takesE 107 = .ok (.bipush 124, 2) := by decide +kernel
theorem dX9_takesE_109 : decode cX9_takesE 109 = .ok (.if_icmp .ne 43, 3) := by decide +kernel
theorem dX9_takesE_112 : decode cX9_takesE 112 = .ok (.aload_n 0, 1) := by decide +kernel
theorem dX9_takesE_113 : decode cX9_takesE 113 = .ok (.iload_n 2, 1) := by decide +kernel
theorem dX9_takesE_114 : decode cX9_takesE 114 = .ok (.invokevirtual 163, 3) := by decide +kernel
theorem dX9_takesE_117 : decode cX9_takesE 117 = .ok (.aload_n 0, 1) := by decide +kernel
theorem dX9_takesE_118 : decode cX9_takesE 118 = .ok (.getfield 74, 3) := by decide +kernel
theorem dX9_takesE_121 : decode cX9_takesE 121 = .ok (.aload_n 0, 1) := by decide +kernel
theorem dX9_takesE_122 : decode cX9_takesE 122 = .ok (.getfield 77, 3) := by decide +kernel
theorem dX9_takesE_125 : decode cX9_takesE 125 = .ok (.iload_n 2, 1) := by decide +kernel
theorem dX9_takesE_126 : decode cX9_takesE 126 = .ok (.iastore, 1) := by decide +kernel
theorem dX9_takesE_127 : decode cX9_takesE 127 = .ok (.aload_n 0, 1) := by decide +kernel
theorem dX9_takesE_128 : decode cX9_takesE 128 = .ok (.dup, 1) := by decide +kernel
theorem dX9_takesE_129 : decode cX9_takesE 129 = .ok (.getfield 77, 3) := by decide +kernel
theorem dX9_takesE_132 : decode cX9_takesE 132 = .ok (.iconst 1, 1) := by decide +kernel
theorem dX9_takesE_133 : decode cX9_takesE 133 = .ok (.iadd, 1) := by decide +kernel
theorem dX9_takesE_134 : decode cX9_takesE 134 = .ok (.putfield 77, 3) := by decide +kernel
theorem dX9_takesE_137 : decode cX9_takesE 137 = .ok (.iconst 1, 1) := by decide +kernel
theorem dX9_takesE_138 : decode cX9_takesE 138 = .ok (.istore_n 1, 1) := by decide +kernel
theorem dX9_takesE_139 : decode cX9_takesE 139 = .ok (.aload_n 0, 1) := by decide +kernel
theorem dX9_takesE_140 : decode cX9_takesE 140 = .ok (.dup, 1) := by decide +kernel
theorem dX9_takesE_141 : decode cX9_takesE 141 = .ok (.getfield 44, 3) := by decide +kernel
theorem dX9_takesE_144 : decode cX9_takesE 144 = .ok (.iconst 1, 1) := by decide +kernel
theorem dX9_takesE_145 : decode cX9_takesE 145 = .ok (.iadd, 1) := by decide +kernel
theorem dX9_takesE_146 : decode cX9_takesE 146 = .ok (.putfield 44, 3) := by decide +kernel
theorem dX9_takesE_149 : decode cX9_takesE 149 = .ok (.goto (-137), 3) := by decide +kernel
theorem dX9_takesE_152 : decode cX9_takesE 152 = .ok (.aload_n 0, 1) := by decide +kernel
theorem dX9_takesE_153 : decode cX9_takesE 153 = .ok (.bipush 124, 2) := by decide +kernel
theorem dX9_takesE_155 : decode cX9_takesE 155 = .ok (.invokevirtual 163, 3) := by decide +kernel
theorem dX9_takesE_158 : decode cX9_takesE 158 = .ok (.aload_n 0, 1) := by decide +kernel
theorem dX9_takesE_159 : decode cX9_takesE 159 = .ok (.getfield 77, 3) := by decide +kernel
theorem dX9_takesE_162 : decode cX9_takesE 162 = .ok (.ifCond .ne 5, 3) := by decide +kernel
theorem dX9_takesE_165 : decode cX9_takesE 165 = .ok (.iconst 1, 1) := by decide +kernel
theorem dX9_takesE_166 : decode cX9_takesE 166 = .ok (.ireturn, 1) := by decide +kernel
theorem dX9_takesE_167 : decode cX9_takesE 167 = .ok (.iload_n 2, 1) := by decide +kernel
theorem dX9_takesE_168 : decode cX9_takesE 168 = .ok (.bipush 41, 2) := by decide +kernel
theorem dX9_takesE_170 : decode cX9_takesE 170 = .ok (.if_icmp .eq 5, 3) := by decide +kernel
theorem dX9_takesE_173 : decode cX9_takesE 173 = .ok (.iconst 0, 1) := by decide +kernel
theorem dX9_takesE_174 : decode cX9_takesE 174 = .ok (.ireturn, 1) := by decide +kernel
theorem dX9_takesE_175 : decode cX9_takesE 175 = .ok (.aload_n 0, 1) := by decide +kernel
theorem dX9_takesE_176 : decode cX9_takesE 176 = .ok (.dup, 1) := by decide +kernel
theorem dX9_takesE_177 : decode cX9_takesE 177 = .ok (.getfield 77, 3) := by decide +kernel
theorem dX9_takesE_180 : decode cX9_takesE 180 = .ok (.iconst 1, 1) := by decide +kernel
theorem dX9_takesE_181 : decode cX9_takesE 181 = .ok (.isub, 1) := by decide +kernel
theorem dX9_takesE_182 : decode cX9_takesE 182 = .ok (.putfield 77, 3) := by decide +kernel
theorem dX9_takesE_185 : decode cX9_takesE 185 = .ok (.aload_n 0, 1) := by decide +kernel
theorem dX9_takesE_186 : decode cX9_takesE 186 = .ok (.dup, 1) := by decide +kernel
theorem dX9_takesE_187 : decode cX9_takesE 187 = .ok (.getfield 80, 3) := by decide +kernel
theorem dX9_takesE_190 : decode cX9_takesE 190 = .ok (.iconst 1, 1) := by decide +kernel
theorem dX9_takesE_191 : decode cX9_takesE 191 = .ok (.isub, 1) := by decide +kernel
theorem dX9_takesE_192 : decode cX9_takesE 192 = .ok (.putfield 80, 3) := by decide +kernel
theorem dX9_takesE_195 : decode cX9_takesE 195 = .ok (.aload_n 0, 1) := by decide +kernel
theorem dX9_takesE_196 : decode cX9_takesE 196 = .ok (.dup, 1) := by decide +kernel
theorem dX9_takesE_197 : decode cX9_takesE 197 = .ok (.getfield 44, 3) := by decide +kernel
theorem dX9_takesE_200 : decode cX9_takesE 200 = .ok (.iconst 1, 1) := by decide +kernel
theorem dX9_takesE_201 : decode cX9_takesE 201 = .ok (.iadd, 1) := by decide +kernel
theorem dX9_takesE_202 : decode cX9_takesE 202 = .ok (.putfield 44, 3) := by decide +kernel
theorem dX9_takesE_205 : decode cX9_takesE 205 = .ok (.aload_n 0, 1) := by decide +kernel
theorem dX9_takesE_206 : decode cX9_takesE 206 = .ok (.invokevirtual 156, 3) := by decide +kernel
theorem dX9_takesE_209 : decode cX9_takesE 209 = .ok (.goto (-197), 3) := by decide +kernel
set_option maxRecDepth 20000 in
theorem ggX9_takesHead_X9_next : GoodIn wsX9_takesHead wsX9_next := goodIn_r _ [9, 4, 10, 11, 24, 25, 26, 27, 28, 29, 30, 31, 32, 33, 34, 35, 36, 37, 38, 39, 40, 41, 42, 43, 44, 45, 46, 47, 48, 49, 50, 51, 52, 53, 54, 55, 56, 57, 58, 59, 60, 61, 62, 63] (by decide +kernel) (by decide +kernel)
set_option maxRecDepth 20000 in
theorem gX9_takesHead_X9_next : GoodIn wsX9_takesHead (wsV RX9 145 RX9 yX9_next wsX9_next) := goodIn_app (goodIn_of _ (by decide +kernel)) ggX9_takesHead_X9_next
set_option maxRecDepth 20000 in
theorem ggX9_takesHead_X9_takesWord : GoodIn wsX9_takesHead wsX9_takesWord := goodIn_r _ [15, 16, 17, 18, 8, 19, 4, 5, 6, 7, 9, 10, 11, 24, 25, 26, 27, 28, 29, 30, 31, 32, 33, 34, 35, 36, 37, 38, 39, 40, 41, 42, 43, 44, 45, 46, 47, 48, 49, 50, 51, 52, 53, 54, 55, 56, 57, 58, 59, 60, 61, 62, 63] (by decide +kernel) (by decide +kernel)
set_option maxRecDepth 20000 in
theorem gX9_takesHead_X9_takesWord : GoodIn wsX9_takesHead (wsV RX9 166 RX9 yX9_takesWord wsX9_takesWord) := goodIn_app (goodIn_of _ (by decide +kernel)) ggX9_takesHead_X9_takesWord
set_option maxRecDepth 20000 in
theorem ggX9_takesHead_X9_in : GoodIn wsX9_takesHead wsX9_in := goodIn_r _ [23] (by decide +kernel) (by decide +kernel)
set_option maxRecDepth 20000 in
theorem gX9_takesHead_X9_in : GoodIn wsX9_takesHead (wsV RX9 133 RX9 yX9_in wsX9_in) := goodIn_app (goodIn_of _ (by decide +kernel)) ggX9_takesHead_X9_in
set_option maxRecDepth 20000 in
theorem ggX9_takesHead_X9_takes : GoodIn wsX9_takesHead wsX9_takes := goodIn_r _ [19, 4, 5, 6, 7, 8, 9, 10, 11, 24, 25, 26, 27, 28, 29, 30, 31, 32, 33, 34, 35, 36, 37, 38, 39, 40, 41, 42, 43, 44, 45, 46, 47, 48, 49, 50, 51, 52, 53, 54, 55, 56, 57, 58, 59, 60, 61, 62, 63] (by decide +kernel) (by decide +kernel)
set_option maxRecDepth 20000 in
theorem gX9_takesHead_X9_takes : GoodIn wsX9_takesHead (wsV RX9 149 RX9 yX9_takes wsX9_takes) := goodIn_app (goodIn_of _ (by decide +kernel)) ggX9_takesHead_X9_takes
theorem dX9_takesHead_0 : decode cX9_takesHead 0 = .ok (.aload_n 0, 1) := by decide +kernel
theorem dX9_takesHead_1 : decode cX9_takesHead 1 = .ok (.invokevirtual 145, 3) := by decide +kernel
theorem dX9_takesHead_4 : decode cX9_takesHead 4 = .ok (.lookupswitch 84 #[(105, 52), (109, 68), (111, 36)], 36) := by decide +kernel
theorem dX9_takesHead_40 : decode cX9_takesHead 40 = .ok (.aload_n 0, 1) := by decide +kernel
theorem dX9_takesHead_41 : decode cX9_takesHead 41 = .ok (.getfield 56, 3) := by decide +kernel
theorem dX9_takesHead_44 : decode cX9_takesHead 44 = .ok (.iload_n 1, 1) := by decide +kernel
theorem dX9_takesHead_45 : decode cX9_takesHead 45 = .ok (.iconst 0, 1) := by decide +kernel
theorem dX9_takesHead_46 : decode cX9_takesHead 46 = .ok (.iastore, 1) := by decide +kernel
theorem dX9_takesHead_47 : decode cX9_takesHead 47 = .ok (.aload_n 0, 1) := by decide +kernel
theorem dX9_takesHead_48 : decode cX9_takesHead 48 = .ok (.sipush 16052, 3) := by decide +kernel
theorem dX9_takesHead_51 : decode cX9_takesHead 51 = .ok (.iconst 3, 1) := by decide +kernel
theorem dX9_takesHead_52 : decode cX9_takesHead 52 = .ok (.invokevirtual 166, 3) := by decide +kernel
theorem dX9_takesHead_55 : decode cX9_takesHead 55 = .ok (.ireturn, 1) := by decide +kernel
theorem dX9_takesHead_56 : decode cX9_takesHead 56 = .ok (.aload_n 0, 1) := by decide +kernel
theorem dX9_takesHead_57 : decode cX9_takesHead 57 = .ok (.getfield 56, 3) := by decide +kernel
theorem dX9_takesHead_60 : decode cX9_takesHead 60 = .ok (.iload_n 1, 1) := by decide +kernel
theorem dX9_takesHead_61 : decode cX9_takesHead 61 = .ok (.iconst 1, 1) := by decide +kernel
theorem dX9_takesHead_62 : decode cX9_takesHead 62 = .ok (.iastore, 1) := by decide +kernel
theorem dX9_takesHead_63 : decode cX9_takesHead 63 = .ok (.aload_n 0, 1) := by decide +kernel
theorem dX9_takesHead_64 : decode cX9_takesHead 64 = .ok (.sipush 302, 3) := by decide +kernel
theorem dX9_takesHead_67 : decode cX9_takesHead 67 = .ok (.iconst 2, 1) := by decide +kernel
theorem dX9_takesHead_68 : decode cX9_takesHead 68 = .ok (.invokevirtual 166, 3) := by decide +kernel
theorem dX9_takesHead_71 : decode cX9_takesHead 71 = .ok (.ireturn, 1) := by decide +kernel
theorem dX9_takesHead_72 : decode cX9_takesHead 72 = .ok (.aload_n 0, 1) := by decide +kernel
theorem dX9_takesHead_73 : decode cX9_takesHead 73 = .ok (.getfield 56, 3) := by decide +kernel
theorem dX9_takesHead_76 : decode cX9_takesHead 76 = .ok (.iload_n 1, 1) := by decide +kernel
theorem dX9_takesHead_77 : decode cX9_takesHead 77 = .ok (.iconst 3, 1) := by decide +kernel
theorem dX9_takesHead_78 : decode cX9_takesHead 78 = .ok (.iastore, 1) := by decide +kernel
theorem dX9_takesHead_79 : decode cX9_takesHead 79 = .ok (.aload_n 0, 1) := by decide +kernel
theorem dX9_takesHead_80 : decode cX9_takesHead 80 = .ok (.sipush 13369, 3) := by decide +kernel
theorem dX9_takesHead_83 : decode cX9_takesHead 83 = .ok (.iconst 3, 1) := by decide +kernel
theorem dX9_takesHead_84 : decode cX9_takesHead 84 = .ok (.invokevirtual 166, 3) := by decide +kernel
theorem dX9_takesHead_87 : decode cX9_takesHead 87 = .ok (.ireturn, 1) := by decide +kernel
theorem dX9_takesHead_88 : decode cX9_takesHead 88 = .ok (.aload_n 0, 1) := by decide +kernel
theorem dX9_takesHead_89 : decode cX9_takesHead 89 = .ok (.getfield 56, 3) := by decide +kernel
theorem dX9_takesHead_92 : decode cX9_takesHead 92 = .ok (.iload_n 1, 1) := by decide +kernel
theorem dX9_takesHead_93 : decode cX9_takesHead 93 = .ok (.iconst 2, 1) := by decide +kernel
theorem dX9_takesHead_94 : decode cX9_takesHead 94 = .ok (.iastore, 1) := by decide +kernel
theorem dX9_takesHead_95 : decode cX9_takesHead 95 = .ok (.aload_n 0, 1) := by decide +kernel
theorem dX9_takesHead_96 : decode cX9_takesHead 96 = .ok (.ldc 170, 2) := by decide +kernel
theorem dX9_takesHead_98 : decode cX9_takesHead 98 = .ok (.iconst 4, 1) := by decide +kernel
theorem dX9_takesHead_99 : decode cX9_takesHead 99 = .ok (.invokevirtual 166, 3) := by decide +kernel
theorem dX9_takesHead_102 : decode cX9_takesHead 102 = .ok (.ifCond .eq 18, 3) := by decide +kernel
theorem dX9_takesHead_105 : decode cX9_takesHead 105 = .ok (.aload_n 0, 1) := by decide +kernel
theorem dX9_takesHead_106 : decode cX9_takesHead 106 = .ok (.aload_n 0, 1) := by decide +kernel
theorem dX9_takesHead_107 : decode cX9_takesHead 107 = .ok (.invokevirtual 145, 3) := by decide +kernel
theorem dX9_takesHead_110 : decode cX9_takesHead 110 = .ok (.bipush 48, 2) := by decide +kernel
theorem dX9_takesHead_112 : decode cX9_takesHead 112 = .ok (.bipush 57, 2) := by decide +kernel
theorem dX9_takesHead_114 : decode cX9_takesHead 114 = .ok (.invokevirtual 133, 3) := by decide +kernel
theorem dX9_takesHead_117 : decode cX9_takesHead 117 = .ok (.ifCond .ne 5, 3) := by decide +kernel
theorem dX9_takesHead_120 : decode cX9_takesHead 120 = .ok (.iconst 0, 1) := by decide +kernel
theorem dX9_takesHead_121 : decode cX9_takesHead 121 = .ok (.ireturn, 1) := by decide +kernel
theorem dX9_takesHead_122 : decode cX9_takesHead 122 = .ok (.aload_n 0, 1) := by decide +kernel
theorem dX9_takesHead_123 : decode cX9_takesHead 123 = .ok (.getfield 59, 3) := by decide +kernel
theorem dX9_takesHead_126 : decode cX9_takesHead 126 = .ok (.iload_n 1, 1) := by decide +kernel
theorem dX9_takesHead_127 : decode cX9_takesHead 127 = .ok (.aload_n 0, 1) := by decide +kernel
theorem dX9_takesHead_128 : decode cX9_takesHead 128 = .ok (.invokevirtual 145, 3) := by decide +kernel
theorem dX9_takesHead_131 : decode cX9_takesHead 131 = .ok (.bipush 48, 2) := by decide +kernel
theorem dX9_takesHead_133 : decode cX9_takesHead 133 = .ok (.isub, 1) := by decide +kernel
theorem dX9_takesHead_134 : decode cX9_takesHead 134 = .ok (.iastore, 1) := by decide +kernel
theorem dX9_takesHead_135 : decode cX9_takesHead 135 = .ok (.aload_n 0, 1) := by decide +kernel
theorem dX9_takesHead_136 : decode cX9_takesHead 136 = .ok (.dup, 1) := by decide +kernel
theorem dX9_takesHead_137 : decode cX9_takesHead 137 = .ok (.getfield 44, 3) := by decide +kernel
theorem dX9_takesHead_140 : decode cX9_takesHead 140 = .ok (.iconst 1, 1) := by decide +kernel
theorem dX9_takesHead_141 : decode cX9_takesHead 141 = .ok (.iadd, 1) := by decide +kernel
theorem dX9_takesHead_142 : decode cX9_takesHead 142 = .ok (.putfield 44, 3) := by decide +kernel
theorem dX9_takesHead_145 : decode cX9_takesHead 145 = .ok (.aload_n 0, 1) := by decide +kernel
theorem dX9_takesHead_146 : decode cX9_takesHead 146 = .ok (.bipush 32, 2) := by decide +kernel
theorem dX9_takesHead_148 : decode cX9_takesHead 148 = .ok (.invokevirtual 149, 3) := by decide +kernel
theorem dX9_takesHead_151 : decode cX9_takesHead 151 = .ok (.ireturn, 1) := by decide +kernel
set_option maxRecDepth 20000 in
theorem ggX9_goes_X9_takesHead : GoodIn wsX9_goes wsX9_takesHead := goodIn_r _ [11, 12, 13, 14, 1, 15, 16, 17, 10, 18, 6, 19, 20, 21, 22, 23, 24, 25, 26, 27, 28, 29, 30, 31, 56, 57, 58, 59, 60, 61, 62, 63, 64, 65, 66, 67, 68, 69, 70, 71, 72, 73, 74, 75, 76, 77, 78, 79, 80, 81, 82, 83, 84, 85, 86, 87, 88, 89, 90, 91, 92, 93, 94, 95] (by decide +kernel) (by decide +kernel)
set_option maxRecDepth 20000 in
theorem gX9_goes_X9_takesHead : GoodIn wsX9_goes (wsV RX9 171 RX9 yX9_takesHead wsX9_takesHead) := goodIn_app (goodIn_of _ (by decide +kernel)) ggX9_goes_X9_takesHead
set_option maxRecDepth 20000 in
theorem ggX9_goes_X9_takesE : GoodIn wsX9_goes wsX9_takesE := goodIn_r _ [35, 36, 37, 38, 1, 15, 16, 17, 10, 18, 6, 19, 39, 40, 41, 42, 28, 29, 30, 31, 43, 44, 45, 46, 47, 2, 48, 49, 50, 51, 52, 53, 54, 55, 56, 57, 58, 59, 60, 61, 62, 63, 64, 65, 66, 67, 68, 69, 70, 71, 72, 73, 74, 75, 76, 77, 78, 79, 80, 81, 82, 83, 84, 85, 86, 87, 88, 89, 90, 91, 92, 93, 94, 95] (by decide +kernel) (by decide +kernel)
set_option maxRecDepth 20000 in
theorem gX9_goes_X9_takesE : GoodIn wsX9_goes (wsV RX9 174 RX9 yX9_takesE wsX9_takesE) := goodIn_app (goodIn_of _ (by decide +kernel)) ggX9_goes_X9_takesE
set_option maxRecDepth 20000 in
theorem ggX9_goes_X9_takes : GoodIn wsX9_goes wsX9_takes := goodIn_r _ [27, 1, 15, 16, 17, 10, 18, 6, 19, 56, 57, 58, 59, 60, 61, 62, 63, 64, 65, 66, 67, 68, 69, 70, 71, 72, 73, 74, 75, 76, 77, 78, 79, 80, 81, 82, 83, 84, 85, 86, 87, 88, 89, 90, 91, 92, 93, 94, 95] (by decide +kernel) (by decide +kernel)
set_option maxRecDepth 20000 in
theorem gX9_goes_X9_takes : GoodIn wsX9_goes (wsV RX9 149 RX9 yX9_takes wsX9_takes) := goodIn_app (goodIn_of _ (by decide +kernel)) ggX9_goes_X9_takes
theorem dX9_goes_0 : decode cX9_goes 0 = .ok (.aload_n 0, 1) := by decide +kernel
theorem dX9_goes_1 : decode cX9_goes 1 = .ok (.iconst 0, 1) := by decide +kernel
theorem dX9_goes_2 : decode cX9_goes 2 = .ok (.putfield 44, 3) := by decide +kernel
theorem dX9_goes_5 : decode cX9_goes 5 = .ok (.aload_n 0, 1) := by decide +kernel
theorem dX9_goes_6 : decode cX9_goes 6 = .ok (.bipush 100, 2) := by decide +kernel
theorem dX9_goes_8 : decode cX9_goes 8 = .ok (.iload_n 1, 1) := by decide +kernel
theorem dX9_goes_9 : decode cX9_goes 9 = .ok (.imul, 1) := by decide +kernel
theorem dX9_goes_10 : decode cX9_goes 10 = .ok (.putfield 71, 3) := by decide +kernel
theorem dX9_goes_13 : decode cX9_goes 13 = .ok (.iconst 0, 1) := by decide +kernel
theorem dX9_goes_14 : decode cX9_goes 14 = .ok (.istore_n 2, 1) := by decide +kernel
theorem dX9_goes_15 : decode cX9_goes 15 = .ok (.bipush 6, 2) := by decide +kernel
theorem dX9_goes_17 : decode cX9_goes 17 = .ok (.iload_n 1, 1) := by decide +kernel
theorem dX9_goes_18 : decode cX9_goes 18 = .ok (.imul, 1) := by decide +kernel
theorem dX9_goes_19 : decode cX9_goes 19 = .ok (.iload_n 2, 1) := by decide +kernel
theorem dX9_goes_20 : decode cX9_goes 20 = .ok (.iadd, 1) := by decide +kernel
theorem dX9_goes_21 : decode cX9_goes 21 = .ok (.istore_n 3, 1) := by decide +kernel
theorem dX9_goes_22 : decode cX9_goes 22 = .ok (.aload_n 0, 1) := by decide +kernel
theorem dX9_goes_23 : decode cX9_goes 23 = .ok (.iload_n 3, 1) := by decide +kernel
theorem dX9_goes_24 : decode cX9_goes 24 = .ok (.invokevirtual 171, 3) := by decide +kernel
theorem dX9_goes_27 : decode cX9_goes 27 = .ok (.ifCond .ne 5, 3) := by decide +kernel
theorem dX9_goes_30 : decode cX9_goes 30 = .ok (.iconst 0, 1) := by decide +kernel
theorem dX9_goes_31 : decode cX9_goes 31 = .ok (.ireturn, 1) := by decide +kernel
theorem dX9_goes_32 : decode cX9_goes 32 = .ok (.aload_n 0, 1) := by decide +kernel
theorem dX9_goes_33 : decode cX9_goes 33 = .ok (.getfield 62, 3) := by decide +kernel
theorem dX9_goes_36 : decode cX9_goes 36 = .ok (.iload_n 3, 1) := by decide +kernel
theorem dX9_goes_37 : decode cX9_goes 37 = .ok (.aload_n 0, 1) := by decide +kernel
theorem dX9_goes_38 : decode cX9_goes 38 = .ok (.getfield 71, 3) := by decide +kernel
theorem dX9_goes_41 : decode cX9_goes 41 = .ok (.iastore, 1) := by decide +kernel
theorem dX9_goes_42 : decode cX9_goes 42 = .ok (.aload_n 0, 1) := by decide +kernel
theorem dX9_goes_43 : decode cX9_goes 43 = .ok (.invokevirtual 174, 3) := by decide +kernel
theorem dX9_goes_46 : decode cX9_goes 46 = .ok (.ifCond .ne 5, 3) := by decide +kernel
theorem dX9_goes_49 : decode cX9_goes 49 = .ok (.iconst 0, 1) := by decide +kernel
theorem dX9_goes_50 : decode cX9_goes 50 = .ok (.ireturn, 1) := by decide +kernel
theorem dX9_goes_51 : decode cX9_goes 51 = .ok (.aload_n 0, 1) := by decide +kernel
theorem dX9_goes_52 : decode cX9_goes 52 = .ok (.getfield 65, 3) := by decide +kernel
theorem dX9_goes_55 : decode cX9_goes 55 = .ok (.iload_n 3, 1) := by decide +kernel
theorem dX9_goes_56 : decode cX9_goes 56 = .ok (.aload_n 0, 1) := by decide +kernel
theorem dX9_goes_57 : decode cX9_goes 57 = .ok (.getfield 71, 3) := by decide +kernel
theorem dX9_goes_60 : decode cX9_goes 60 = .ok (.iastore, 1) := by decide +kernel
theorem dX9_goes_61 : decode cX9_goes 61 = .ok (.iinc 2 1, 3) := by decide +kernel
theorem dX9_goes_64 : decode cX9_goes 64 = .ok (.aload_n 0, 1) := by decide +kernel
theorem dX9_goes_65 : decode cX9_goes 65 = .ok (.getfield 53, 3) := by decide +kernel
theorem dX9_goes_68 : decode cX9_goes 68 = .ok (.iload_n 1, 1) := by decide +kernel
theorem dX9_goes_69 : decode cX9_goes 69 = .ok (.iload_n 2, 1) := by decide +kernel
theorem dX9_goes_70 : decode cX9_goes 70 = .ok (.iastore, 1) := by decide +kernel
theorem dX9_goes_71 : decode cX9_goes 71 = .ok (.aload_n 0, 1) := by decide +kernel
theorem dX9_goes_72 : decode cX9_goes 72 = .ok (.getfield 44, 3) := by decide +kernel
theorem dX9_goes_75 : decode cX9_goes 75 = .ok (.aload_n 0, 1) := by decide +kernel
theorem dX9_goes_76 : decode cX9_goes 76 = .ok (.getfield 41, 3) := by decide +kernel
theorem dX9_goes_79 : decode cX9_goes 79 = .ok (.if_icmp .ne 5, 3) := by decide +kernel
theorem dX9_goes_82 : decode cX9_goes 82 = .ok (.iconst 1, 1) := by decide +kernel
theorem dX9_goes_83 : decode cX9_goes 83 = .ok (.ireturn, 1) := by decide +kernel
theorem dX9_goes_84 : decode cX9_goes 84 = .ok (.iload_n 2, 1) := by decide +kernel
theorem dX9_goes_85 : decode cX9_goes 85 = .ok (.bipush 6, 2) := by decide +kernel
theorem dX9_goes_87 : decode cX9_goes 87 = .ok (.if_icmp .eq 12, 3) := by decide +kernel
theorem dX9_goes_90 : decode cX9_goes 90 = .ok (.aload_n 0, 1) := by decide +kernel
theorem dX9_goes_91 : decode cX9_goes 91 = .ok (.bipush 59, 2) := by decide +kernel
theorem dX9_goes_93 : decode cX9_goes 93 = .ok (.invokevirtual 149, 3) := by decide +kernel
theorem dX9_goes_96 : decode cX9_goes 96 = .ok (.ifCond .ne 5, 3) := by decide +kernel
theorem dX9_goes_99 : decode cX9_goes 99 = .ok (.iconst 0, 1) := by decide +kernel
theorem dX9_goes_100 : decode cX9_goes 100 = .ok (.ireturn, 1) := by decide +kernel
theorem dX9_goes_101 : decode cX9_goes 101 = .ok (.goto (-86), 3) := by decide +kernel
set_option maxRecDepth 20000 in
theorem ggX9_rule_X9_isLand : GoodIn wsX9_rule wsX9_isLand := goodIn_r _ [9, 10, 11, 12, 8, 13] (by decide +kernel) (by decide +kernel)
set_option maxRecDepth 20000 in
theorem gX9_rule_X9_isLand : GoodIn wsX9_rule (wsV RX9 177 RX9 yX9_isLand wsX9_isLand) := goodIn_app (goodIn_of _ (by decide +kernel)) ggX9_rule_X9_isLand
set_option maxRecDepth 20000 in
theorem ggX9_rule_X9_goes : GoodIn wsX9_rule wsX9_goes := goodIn_r _ [17, 3, 18, 19, 20, 21, 2, 22, 23, 24, 8, 25, 26, 27, 28, 29, 30, 31, 32, 33, 34, 35, 36, 37, 38, 39, 40, 41, 10, 11, 12, 13, 42, 43, 44, 45, 46, 47, 48, 49, 50, 51, 52, 53, 54, 55, 56, 57, 58, 59, 60, 61, 62, 63, 64, 65, 66, 67, 68, 69, 70, 71, 72, 73, 74, 75, 76, 77, 78, 79, 80, 81, 82, 83, 84, 85, 86, 87, 88, 89, 90, 91, 92, 93, 94, 95, 96, 97, 98, 99, 100, 101, 102, 103, 104, 105] (by decide +kernel) (by decide +kernel)
set_option maxRecDepth 20000 in
theorem gX9_rule_X9_goes : GoodIn wsX9_rule (wsV RX9 180 RX9 yX9_goes wsX9_goes) := goodIn_app (goodIn_of _ (by decide +kernel)) ggX9_rule_X9_goes
theorem dX9_rule_0 : decode cX9_rule 0 = .ok (.aload_n 0, 1) := by decide +kernel
theorem dX9_rule_1 : decode cX9_rule 1 = .ok (.iload_n 1, 1) := by decide +kernel
theorem dX9_rule_2 : decode cX9_rule 2 = .ok (.invokevirtual 177, 3) := by decide +kernel
theorem dX9_rule_5 : decode cX9_rule 5 = .ok (.ifCond .ne 5, 3) := by decide +kernel
theorem dX9_rule_8 : decode cX9_rule 8 = .ok (.iconst (-1), 1) := by decide +kernel
theorem dX9_rule_9 : decode cX9_rule 9 = .ok (.ireturn, 1) := by decide +kernel
theorem dX9_rule_10 : decode cX9_rule 10 = .ok (.aload_n 0, 1) := by decide +kernel
theorem dX9_rule_11 : decode cX9_rule 11 = .ok (.getfield 38, 3) := by decide +kernel
theorem dX9_rule_14 : decode cX9_rule 14 = .ok (.bipush 10, 2) := by decide +kernel
theorem dX9_rule_16 : decode cX9_rule 16 = .ok (.if_icmp .ne 6, 3) := by decide +kernel
theorem dX9_rule_19 : decode cX9_rule 19 = .ok (.bipush (-4), 2) := by decide +kernel
theorem dX9_rule_21 : decode cX9_rule 21 = .ok (.ireturn, 1) := by decide +kernel
theorem dX9_rule_22 : decode cX9_rule 22 = .ok (.aload_n 0, 1) := by decide +kernel
theorem dX9_rule_23 : decode cX9_rule 23 = .ok (.aload_n 0, 1) := by decide +kernel
theorem dX9_rule_24 : decode cX9_rule 24 = .ok (.getfield 38, 3) := by decide +kernel
theorem dX9_rule_27 : decode cX9_rule 27 = .ok (.invokevirtual 180, 3) := by decide +kernel
theorem dX9_rule_30 : decode cX9_rule 30 = .ok (.istore_n 2, 1) := by decide +kernel
theorem dX9_rule_31 : decode cX9_rule 31 = .ok (.aload_n 0, 1) := by decide +kernel
theorem dX9_rule_32 : decode cX9_rule 32 = .ok (.iconst 0, 1) := by decide +kernel
theorem dX9_rule_33 : decode cX9_rule 33 = .ok (.putfield 41, 3) := by decide +kernel
theorem dX9_rule_36 : decode cX9_rule 36 = .ok (.iload_n 2, 1) := by decide +kernel
theorem dX9_rule_37 : decode cX9_rule 37 = .ok (.ifCond .ne 11, 3) := by decide +kernel
theorem dX9_rule_40 : decode cX9_rule 40 = .ok (.bipush (-10), 2) := by decide +kernel
theorem dX9_rule_42 : decode cX9_rule 42 = .ok (.aload_n 0, 1) := by decide +kernel
theorem dX9_rule_43 : decode cX9_rule 43 = .ok (.getfield 44, 3) := by decide +kernel
theorem dX9_rule_46 : decode cX9_rule 46 = .ok (.isub, 1) := by decide +kernel
theorem dX9_rule_47 : decode cX9_rule 47 = .ok (.ireturn, 1) := by decide +kernel
theorem dX9_rule_48 : decode cX9_rule 48 = .ok (.aload_n 0, 1) := by decide +kernel
theorem dX9_rule_49 : decode cX9_rule 49 = .ok (.getfield 50, 3) := by decide +kernel
theorem dX9_rule_52 : decode cX9_rule 52 = .ok (.aload_n 0, 1) := by decide +kernel
theorem dX9_rule_53 : decode cX9_rule 53 = .ok (.getfield 38, 3) := by decide +kernel
theorem dX9_rule_56 : decode cX9_rule 56 = .ok (.iload_n 1, 1) := by decide +kernel
theorem dX9_rule_57 : decode cX9_rule 57 = .ok (.iastore, 1) := by decide +kernel
theorem dX9_rule_58 : decode cX9_rule 58 = .ok (.aload_n 0, 1) := by decide +kernel
theorem dX9_rule_59 : decode cX9_rule 59 = .ok (.dup, 1) := by decide +kernel
theorem dX9_rule_60 : decode cX9_rule 60 = .ok (.getfield 38, 3) := by decide +kernel
theorem dX9_rule_63 : decode cX9_rule 63 = .ok (.iconst 1, 1) := by decide +kernel
theorem dX9_rule_64 : decode cX9_rule 64 = .ok (.iadd, 1) := by decide +kernel
theorem dX9_rule_65 : decode cX9_rule 65 = .ok (.putfield 38, 3) := by decide +kernel
theorem dX9_rule_68 : decode cX9_rule 68 = .ok (.aload_n 0, 1) := by decide +kernel
theorem dX9_rule_69 : decode cX9_rule 69 = .ok (.getfield 38, 3) := by decide +kernel
theorem dX9_rule_72 : decode cX9_rule 72 = .ok (.iconst 1, 1) := by decide +kernel
theorem dX9_rule_73 : decode cX9_rule 73 = .ok (.isub, 1) := by decide +kernel
theorem dX9_rule_74 : decode cX9_rule 74 = .ok (.ireturn, 1) := by decide +kernel
set_option maxRecDepth 20000 in
theorem ggX9_judge_X9_in : GoodIn wsX9_judge wsX9_in := goodIn_r _ [7] (by decide +kernel) (by decide +kernel)
set_option maxRecDepth 20000 in
theorem gX9_judge_X9_in : GoodIn wsX9_judge (wsV RX9 133 RX9 yX9_in wsX9_in) := goodIn_app (goodIn_of _ (by decide +kernel)) ggX9_judge_X9_in
theorem dX9_judge_0 : decode cX9_judge 0 = .ok (.aload_n 0, 1) := by decide +kernel
theorem dX9_judge_1 : decode cX9_judge 1 = .ok (.iload_n 1, 1) := by decide +kernel
theorem dX9_judge_2 : decode cX9_judge 2 = .ok (.iconst 0, 1) := by decide +kernel
theorem dX9_judge_3 : decode cX9_judge 3 = .ok (.iconst 1, 1) := by decide +kernel
theorem dX9_judge_4 : decode cX9_judge 4 = .ok (.aload_n 0, 1) := by decide +kernel
theorem dX9_judge_5 : decode cX9_judge 5 = .ok (.getfield 38, 3) := by decide +kernel
theorem dX9_judge_8 : decode cX9_judge 8 = .ok (.ishl, 1) := by decide +kernel
theorem dX9_judge_9 : decode cX9_judge 9 = .ok (.iconst 1, 1) := by decide +kernel
theorem dX9_judge_10 : decode cX9_judge 10 = .ok (.isub, 1) := by decide +kernel
theorem dX9_judge_11 : decode cX9_judge 11 = .ok (.invokevirtual 133, 3) := by decide +kernel
theorem dX9_judge_14 : decode cX9_judge 14 = .ok (.ifCond .ne 6, 3) := by decide +kernel
theorem dX9_judge_17 : decode cX9_judge 17 = .ok (.bipush (-2), 2) := by decide +kernel
theorem dX9_judge_19 : decode cX9_judge 19 = .ok (.ireturn, 1) := by decide +kernel
theorem dX9_judge_20 : decode cX9_judge 20 = .ok (.aload_n 0, 1) := by decide +kernel
theorem dX9_judge_21 : decode cX9_judge 21 = .ok (.getfield 16, 3) := by decide +kernel
theorem dX9_judge_24 : decode cX9_judge 24 = .ok (.istore_n 2, 1) := by decide +kernel
theorem dX9_judge_25 : decode cX9_judge 25 = .ok (.aload_n 0, 1) := by decide +kernel
theorem dX9_judge_26 : decode cX9_judge 26 = .ok (.iload_n 1, 1) := by decide +kernel
theorem dX9_judge_27 : decode cX9_judge 27 = .ok (.putfield 16, 3) := by decide +kernel
theorem dX9_judge_30 : decode cX9_judge 30 = .ok (.iload_n 2, 1) := by decide +kernel
theorem dX9_judge_31 : decode cX9_judge 31 = .ok (.ireturn, 1) := by decide +kernel
theorem dX9_asItIs_0 : decode cX9_asItIs 0 = .ok (.aload_n 0, 1) := by decide +kernel
theorem dX9_asItIs_1 : decode cX9_asItIs 1 = .ok (.aload_n 0, 1) := by decide +kernel
theorem dX9_asItIs_2 : decode cX9_asItIs 2 = .ok (.getfield 13, 3) := by decide +kernel
theorem dX9_asItIs_5 : decode cX9_asItIs 5 = .ok (.putfield 83, 3) := by decide +kernel
theorem dX9_asItIs_8 : decode cX9_asItIs 8 = .ok (.aload_n 0, 1) := by decide +kernel
theorem dX9_asItIs_9 : decode cX9_asItIs 9 = .ok (.aload_n 0, 1) := by decide +kernel
theorem dX9_asItIs_10 : decode cX9_asItIs 10 = .ok (.getfield 16, 3) := by decide +kernel
theorem dX9_asItIs_13 : decode cX9_asItIs 13 = .ok (.putfield 86, 3) := by decide +kernel
theorem dX9_asItIs_16 : decode cX9_asItIs 16 = .ok (.aload_n 0, 1) := by decide +kernel
theorem dX9_asItIs_17 : decode cX9_asItIs 17 = .ok (.iconst (-1), 1) := by decide +kernel
theorem dX9_asItIs_18 : decode cX9_asItIs 18 = .ok (.putfield 89, 3) := by decide +kernel
theorem dX9_asItIs_21 : decode cX9_asItIs 21 = .ok (.iconst 0, 1) := by decide +kernel
theorem dX9_asItIs_22 : decode cX9_asItIs 22 = .ok (.istore_n 1, 1) := by decide +kernel
theorem dX9_asItIs_23 : decode cX9_asItIs 23 = .ok (.iload_n 1, 1) := by decide +kernel
theorem dX9_asItIs_24 : decode cX9_asItIs 24 = .ok (.bipush 8, 2) := by decide +kernel
theorem dX9_asItIs_26 : decode cX9_asItIs 26 = .ok (.if_icmp .ge 16, 3) := by decide +kernel
theorem dX9_asItIs_29 : decode cX9_asItIs 29 = .ok (.aload_n 0, 1) := by decide +kernel
theorem dX9_asItIs_30 : decode cX9_asItIs 30 = .ok (.getfield 92, 3) := by decide +kernel
theorem dX9_asItIs_33 : decode cX9_asItIs 33 = .ok (.iload_n 1, 1) := by decide +kernel
theorem dX9_asItIs_34 : decode cX9_asItIs 34 = .ok (.iconst 0, 1) := by decide +kernel
theorem dX9_asItIs_35 : decode cX9_asItIs 35 = .ok (.iastore, 1) := by decide +kernel
theorem dX9_asItIs_36 : decode cX9_asItIs 36 = .ok (.iinc 1 1, 3) := by decide +kernel
theorem dX9_asItIs_39 : decode cX9_asItIs 39 = .ok (.goto (-16), 3) := by decide +kernel
theorem dX9_asItIs_42 : decode cX9_asItIs 42 = .ok (.return_, 1) := by decide +kernel
theorem dX9_compares_0 : decode cX9_compares 0 = .ok (.iload_n 1, 1) := by decide +kernel
theorem dX9_compares_1 : decode cX9_compares 1 = .ok (.bipush 60, 2) := by decide +kernel
theorem dX9_compares_3 : decode cX9_compares 3 = .ok (.if_icmp .ne 16, 3) := by decide +kernel
theorem dX9_compares_6 : decode cX9_compares 6 = .ok (.iload_n 2, 1) := by decide +kernel
theorem dX9_compares_7 : decode cX9_compares 7 = .ok (.iload_n 3, 1) := by decide +kernel
theorem dX9_compares_8 : decode cX9_compares 8 = .ok (.if_icmp .ge 7, 3) := by decide +kernel
theorem dX9_compares_11 : decode cX9_compares 11 = .ok (.iconst 1, 1) := by decide +kernel
theorem dX9_compares_12 : decode cX9_compares 12 = .ok (.goto 36, 3) := by decide +kernel
theorem dX9_compares_15 : decode cX9_compares 15 = .ok (.iconst 0, 1) := by decide +kernel
theorem dX9_compares_16 : decode cX9_compares 16 = .ok (.goto 32, 3) := by decide +kernel
theorem dX9_compares_19 : decode cX9_compares 19 = .ok (.iload_n 1, 1) := by decide +kernel
theorem dX9_compares_20 : decode cX9_compares 20 = .ok (.bipush 61, 2) := by decide +kernel
theorem dX9_compares_22 : decode cX9_compares 22 = .ok (.if_icmp .ne 16, 3) := by decide +kernel
theorem dX9_compares_25 : decode cX9_compares 25 = .ok (.iload_n 2, 1) := by decide +kernel
theorem dX9_compares_26 : decode cX9_compares 26 = .ok (.iload_n 3, 1) := by decide +kernel
theorem dX9_compares_27 : decode cX9_compares 27 = .ok (.if_icmp .ne 7, 3) := by decide +kernel
theorem dX9_compares_30 : decode cX9_compares 30 = .ok (.iconst 1, 1) := by decide +kernel
theorem dX9_compares_31 : decode cX9_compares 31 = .ok (.goto 17, 3) := by decide +kernel
theorem dX9_compares_34 : decode cX9_compares 34 = .ok (.iconst 0, 1) := by decide +kernel
theorem dX9_compares_35 : decode cX9_compares 35 = .ok (.goto 13, 3) := by decide +kernel
theorem dX9_compares_38 : decode cX9_compares 38 = .ok (.iload_n 2, 1) := by decide +kernel
theorem dX9_compares_39 : decode cX9_compares 39 = .ok (.iload_n 3, 1) := by decide +kernel
theorem dX9_compares_40 : decode cX9_compares 40 = .ok (.if_icmp .le 7, 3) := by decide +kernel
theorem dX9_compares_43 : decode cX9_compares 43 = .ok (.iconst 1, 1) := by decide +kernel
theorem dX9_compares_44 : decode cX9_compares 44 = .ok (.goto 4, 3) := by decide +kernel
theorem dX9_compares_47 : decode cX9_compares 47 = .ok (.iconst 0, 1) := by decide +kernel
theorem dX9_compares_48 : decode cX9_compares 48 = .ok (.ireturn, 1) := by decide +kernel
set_option maxRecDepth 20000 in
theorem ggX9_test_X9_compares : GoodIn wsX9_test wsX9_compares := goodIn_r _ [10] (by decide +kernel) (by decide +kernel)
set_option maxRecDepth 20000 in
theorem gX9_test_X9_compares : GoodIn wsX9_test (wsV RX9 183 RX9 yX9_compares wsX9_compares) := goodIn_app (goodIn_of _ (by decide +kernel)) ggX9_test_X9_compares
set_option maxRecDepth 20000 in
theorem ggX9_test_X9_isUnder : GoodIn wsX9_test wsX9_isUnder := goodIn_r _ [14] (by decide +kernel) (by decide +kernel)
set_option maxRecDepth 20000 in
theorem gX9_test_X9_isUnder : GoodIn wsX9_test (wsV RX9 186 RX9 yX9_isUnder wsX9_isUnder) := goodIn_app (goodIn_of _ (by decide +kernel)) ggX9_test_X9_isUnder
set_option maxRecDepth 20000 in
theorem ggX9_test_X9_has : GoodIn wsX9_test wsX9_has := goodIn_r _ [18] (by decide +kernel) (by decide +kernel)
set_option maxRecDepth 20000 in
theorem gX9_test_X9_has : GoodIn wsX9_test (wsV RX9 189 RX9 yX9_has wsX9_has) := goodIn_app (goodIn_of _ (by decide +kernel)) ggX9_test_X9_has
theorem dX9_test_0 : decode cX9_test 0 = .ok (.iload_n 1, 1) := by decide +kernel
theorem dX9_test_1 : decode cX9_test 1 = .ok (.bipush 10, 2) := by decide +kernel
theorem dX9_test_3 : decode cX9_test 3 = .ok (.idiv, 1) := by decide +kernel
theorem dX9_test_4 : decode cX9_test 4 = .ok (.bipush 100, 2) := by decide +kernel
theorem dX9_test_6 : decode cX9_test 6 = .ok (.irem, 1) := by decide +kernel
theorem dX9_test_7 : decode cX9_test 7 = .ok (.istore 4, 2) := by decide +kernel
theorem dX9_test_9 : decode cX9_test 9 = .ok (.iload_n 1, 1) := by decide +kernel
theorem dX9_test_10 : decode cX9_test 10 = .ok (.bipush 10, 2) := by decide +kernel
theorem dX9_test_12 : decode cX9_test 12 = .ok (.irem, 1) := by decide +kernel
theorem dX9_test_13 : decode cX9_test 13 = .ok (.istore 5, 2) := by decide +kernel
theorem dX9_test_15 : decode cX9_test 15 = .ok (.iload_n 1, 1) := by decide +kernel
theorem dX9_test_16 : decode cX9_test 16 = .ok (.sipush 1000, 3) := by decide +kernel
theorem dX9_test_19 : decode cX9_test 19 = .ok (.idiv, 1) := by decide +kernel
theorem dX9_test_20 : decode cX9_test 20 = .ok (.tableswitch 206 98 117 #[159, 176, 206, 194, 206, 206, 111, 206, 206, 96, 206, 206, 206, 206, 206, 206, 206, 206, 206, 131], 96) := by decide +kernel
theorem dX9_test_116 : decode cX9_test 116 = .ok (.aload_n 0, 1) := by decide +kernel
theorem dX9_test_117 : decode cX9_test 117 = .ok (.iload 4, 2) := by decide +kernel
theorem dX9_test_119 : decode cX9_test 119 = .ok (.aload_n 0, 1) := by decide +kernel
theorem dX9_test_120 : decode cX9_test 120 = .ok (.getfield 23, 3) := by decide +kernel
theorem dX9_test_123 : decode cX9_test 123 = .ok (.iload_n 2, 1) := by decide +kernel
theorem dX9_test_124 : decode cX9_test 124 = .ok (.iaload, 1) := by decide +kernel
theorem dX9_test_125 : decode cX9_test 125 = .ok (.iload 5, 2) := by decide +kernel
theorem dX9_test_127 : decode cX9_test 127 = .ok (.invokevirtual 183, 3) := by decide +kernel
theorem dX9_test_130 : decode cX9_test 130 = .ok (.ireturn, 1) := by decide +kernel
theorem dX9_test_131 : decode cX9_test 131 = .ok (.aload_n 0, 1) := by decide +kernel
theorem dX9_test_132 : decode cX9_test 132 = .ok (.iload 4, 2) := by decide +kernel
theorem dX9_test_134 : decode cX9_test 134 = .ok (.aload_n 0, 1) := by decide +kernel
theorem dX9_test_135 : decode cX9_test 135 = .ok (.getfield 92, 3) := by decide +kernel
theorem dX9_test_138 : decode cX9_test 138 = .ok (.aload_n 0, 1) := by decide +kernel
theorem dX9_test_139 : decode cX9_test 139 = .ok (.getfield 26, 3) := by decide +kernel
theorem dX9_test_142 : decode cX9_test 142 = .ok (.iload_n 2, 1) := by decide +kernel
theorem dX9_test_143 : decode cX9_test 143 = .ok (.iaload, 1) := by decide +kernel
theorem dX9_test_144 : decode cX9_test 144 = .ok (.iaload, 1) := by decide +kernel
theorem dX9_test_145 : decode cX9_test 145 = .ok (.iload 5, 2) := by decide +kernel
theorem dX9_test_147 : decode cX9_test 147 = .ok (.invokevirtual 183, 3) := by decide +kernel
theorem dX9_test_150 : decode cX9_test 150 = .ok (.ireturn, 1) := by decide +kernel
theorem dX9_test_151 : decode cX9_test 151 = .ok (.iload 5, 2) := by decide +kernel
theorem dX9_test_153 : decode cX9_test 153 = .ok (.bipush 7, 2) := by decide +kernel
theorem dX9_test_155 : decode cX9_test 155 = .ok (.if_icmp .ge 22, 3) := by decide +kernel
theorem dX9_test_158 : decode cX9_test 158 = .ok (.aload_n 0, 1) := by decide +kernel
theorem dX9_test_159 : decode cX9_test 159 = .ok (.aload_n 0, 1) := by decide +kernel
theorem dX9_test_160 : decode cX9_test 160 = .ok (.getfield 23, 3) := by decide +kernel
theorem dX9_test_163 : decode cX9_test 163 = .ok (.iload_n 2, 1) := by decide +kernel
theorem dX9_test_164 : decode cX9_test 164 = .ok (.iaload, 1) := by decide +kernel
theorem dX9_test_165 : decode cX9_test 165 = .ok (.iload 5, 2) := by decide +kernel
theorem dX9_test_167 : decode cX9_test 167 = .ok (.invokevirtual 186, 3) := by decide +kernel
theorem dX9_test_170 : decode cX9_test 170 = .ok (.ifCond .eq 7, 3) := by decide +kernel
theorem dX9_test_173 : decode cX9_test 173 = .ok (.iconst 1, 1) := by decide +kernel
theorem dX9_test_174 : decode cX9_test 174 = .ok (.goto 4, 3) := by decide +kernel
theorem dX9_test_177 : decode cX9_test 177 = .ok (.iconst 0, 1) := by decide +kernel
theorem dX9_test_178 : decode cX9_test 178 = .ok (.ireturn, 1) := by decide +kernel
theorem dX9_test_179 : decode cX9_test 179 = .ok (.aload_n 0, 1) := by decide +kernel
theorem dX9_test_180 : decode cX9_test 180 = .ok (.getfield 26, 3) := by decide +kernel
theorem dX9_test_183 : decode cX9_test 183 = .ok (.iload_n 2, 1) := by decide +kernel
theorem dX9_test_184 : decode cX9_test 184 = .ok (.iaload, 1) := by decide +kernel
theorem dX9_test_185 : decode cX9_test 185 = .ok (.iload 5, 2) := by decide +kernel
theorem dX9_test_187 : decode cX9_test 187 = .ok (.if_icmp .ne 7, 3) := by decide +kernel
theorem dX9_test_190 : decode cX9_test 190 = .ok (.iconst 1, 1) := by decide +kernel
theorem dX9_test_191 : decode cX9_test 191 = .ok (.goto 4, 3) := by decide +kernel
theorem dX9_test_194 : decode cX9_test 194 = .ok (.iconst 0, 1) := by decide +kernel
theorem dX9_test_195 : decode cX9_test 195 = .ok (.ireturn, 1) := by decide +kernel
theorem dX9_test_196 : decode cX9_test 196 = .ok (.aload_n 0, 1) := by decide +kernel
theorem dX9_test_197 : decode cX9_test 197 = .ok (.aload_n 0, 1) := by decide +kernel
theorem dX9_test_198 : decode cX9_test 198 = .ok (.getfield 19, 3) := by decide +kernel
theorem dX9_test_201 : decode cX9_test 201 = .ok (.aload_n 0, 1) := by decide +kernel
theorem dX9_test_202 : decode cX9_test 202 = .ok (.getfield 26, 3) := by decide +kernel
theorem dX9_test_205 : decode cX9_test 205 = .ok (.iload_n 2, 1) := by decide +kernel
theorem dX9_test_206 : decode cX9_test 206 = .ok (.iaload, 1) := by decide +kernel
theorem dX9_test_207 : decode cX9_test 207 = .ok (.iaload, 1) := by decide +kernel
theorem dX9_test_208 : decode cX9_test 208 = .ok (.iload 5, 2) := by decide +kernel
theorem dX9_test_210 : decode cX9_test 210 = .ok (.invokevirtual 189, 3) := by decide +kernel
theorem dX9_test_213 : decode cX9_test 213 = .ok (.ireturn, 1) := by decide +kernel
theorem dX9_test_214 : decode cX9_test 214 = .ok (.iload_n 3, 1) := by decide +kernel
theorem dX9_test_215 : decode cX9_test 215 = .ok (.iload 5, 2) := by decide +kernel
theorem dX9_test_217 : decode cX9_test 217 = .ok (.if_icmp .ne 7, 3) := by decide +kernel
theorem dX9_test_220 : decode cX9_test 220 = .ok (.iconst 1, 1) := by decide +kernel
theorem dX9_test_221 : decode cX9_test 221 = .ok (.goto 4, 3) := by decide +kernel
theorem dX9_test_224 : decode cX9_test 224 = .ok (.iconst 0, 1) := by decide +kernel
theorem dX9_test_225 : decode cX9_test 225 = .ok (.ireturn, 1) := by decide +kernel
theorem dX9_test_226 : decode cX9_test 226 = .ok (.aload_n 0, 1) := by decide +kernel
theorem dX9_test_227 : decode cX9_test 227 = .ok (.aload_n 0, 1) := by decide +kernel
theorem dX9_test_228 : decode cX9_test 228 = .ok (.getfield 83, 3) := by decide +kernel
theorem dX9_test_231 : decode cX9_test 231 = .ok (.iload 5, 2) := by decide +kernel
theorem dX9_test_233 : decode cX9_test 233 = .ok (.invokevirtual 189, 3) := by decide +kernel
theorem dX9_test_236 : decode cX9_test 236 = .ok (.ireturn, 1) := by decide +kernel
set_option maxRecDepth 20000 in
theorem ggX9_holds_X9_test : GoodIn wsX9_holds wsX9_test := goodIn_r _ [9, 10, 11, 12, 13, 14, 15, 16, 17, 8, 18, 19, 20, 21, 22, 23, 24, 25, 26, 27, 28, 29, 30, 31, 32, 33, 34, 35, 36, 37, 38, 39, 40, 41, 42, 43, 44, 45, 46, 47, 48, 49, 50, 51, 52, 53, 54, 55, 56, 57, 58, 59, 60, 61, 62, 63, 64, 65, 66] (by decide +kernel) (by decide +kernel)
set_option maxRecDepth 20000 in
theorem gX9_holds_X9_test : GoodIn wsX9_holds (wsV RX9 192 RX9 yX9_test wsX9_test) := goodIn_app (goodIn_of _ (by decide +kernel)) ggX9_holds_X9_test
theorem dX9_holds_0 : decode cX9_holds 0 = .ok (.iconst 0, 1) := by decide +kernel
theorem dX9_holds_1 : decode cX9_holds 1 = .ok (.istore 4, 2) := by decide +kernel
theorem dX9_holds_3 : decode cX9_holds 3 = .ok (.aload_n 0, 1) := by decide +kernel
theorem dX9_holds_4 : decode cX9_holds 4 = .ok (.getfield 62, 3) := by decide +kernel
theorem dX9_holds_7 : decode cX9_holds 7 = .ok (.iload_n 1, 1) := by decide +kernel
theorem dX9_holds_8 : decode cX9_holds 8 = .ok (.iaload, 1) := by decide +kernel
theorem dX9_holds_9 : decode cX9_holds 9 = .ok (.istore 5, 2) := by decide +kernel
theorem dX9_holds_11 : decode cX9_holds 11 = .ok (.iload 5, 2) := by decide +kernel
theorem dX9_holds_13 : decode cX9_holds 13 = .ok (.aload_n 0, 1) := by decide +kernel
theorem dX9_holds_14 : decode cX9_holds 14 = .ok (.getfield 65, 3) := by decide +kernel
theorem dX9_holds_17 : decode cX9_holds 17 = .ok (.iload_n 1, 1) := by decide +kernel
theorem dX9_holds_18 : decode cX9_holds 18 = .ok (.iaload, 1) := by decide +kernel
theorem dX9_holds_19 : decode cX9_holds 19 = .ok (.if_icmp .ge 165, 3) := by decide +kernel
theorem dX9_holds_22 : decode cX9_holds 22 = .ok (.aload_n 0, 1) := by decide +kernel
theorem dX9_holds_23 : decode cX9_holds 23 = .ok (.getfield 68, 3) := by decide +kernel
theorem dX9_holds_26 : decode cX9_holds 26 = .ok (.iload 5, 2) := by decide +kernel
theorem dX9_holds_28 : decode cX9_holds 28 = .ok (.iaload, 1) := by decide +kernel
theorem dX9_holds_29 : decode cX9_holds 29 = .ok (.istore 6, 2) := by decide +kernel
theorem dX9_holds_31 : decode cX9_holds 31 = .ok (.iload 6, 2) := by decide +kernel
theorem dX9_holds_33 : decode cX9_holds 33 = .ok (.bipush 33, 2) := by decide +kernel
theorem dX9_holds_35 : decode cX9_holds 35 = .ok (.if_icmp .ne 32, 3) := by decide +kernel
theorem dX9_holds_38 : decode cX9_holds 38 = .ok (.aload_n 0, 1) := by decide +kernel
theorem dX9_holds_39 : decode cX9_holds 39 = .ok (.getfield 95, 3) := by decide +kernel
theorem dX9_holds_42 : decode cX9_holds 42 = .ok (.iload 4, 2) := by decide +kernel
theorem dX9_holds_44 : decode cX9_holds 44 = .ok (.iconst 1, 1) := by decide +kernel
theorem dX9_holds_45 : decode cX9_holds 45 = .ok (.isub, 1) := by decide +kernel
theorem dX9_holds_46 : decode cX9_holds 46 = .ok (.aload_n 0, 1) := by decide +kernel
theorem dX9_holds_47 : decode cX9_holds 47 = .ok (.getfield 95, 3) := by decide +kernel
theorem dX9_holds_50 : decode cX9_holds 50 = .ok (.iload 4, 2) := by decide +kernel
theorem dX9_holds_52 : decode cX9_holds 52 = .ok (.iconst 1, 1) := by decide +kernel
theorem dX9_holds_53 : decode cX9_holds 53 = .ok (.isub, 1) := by decide +kernel
theorem dX9_holds_54 : decode cX9_holds 54 = .ok (.baload, 1) := by decide +kernel
theorem dX9_holds_55 : decode cX9_holds 55 = .ok (.ifCond .ne 7, 3) := by decide +kernel
theorem dX9_holds_58 : decode cX9_holds 58 = .ok (.iconst 1, 1) := by decide +kernel
theorem dX9_holds_59 : decode cX9_holds 59 = .ok (.goto 4, 3) := by decide +kernel
theorem dX9_holds_62 : decode cX9_holds 62 = .ok (.iconst 0, 1) := by decide +kernel
theorem dX9_holds_63 : decode cX9_holds 63 = .ok (.bastore, 1) := by decide +kernel
theorem dX9_holds_64 : decode cX9_holds 64 = .ok (.goto 114, 3) := by decide +kernel
theorem dX9_holds_67 : decode cX9_holds 67 = .ok (.iload 6, 2) := by decide +kernel
theorem dX9_holds_69 : decode cX9_holds 69 = .ok (.bipush 38, 2) := by decide +kernel
theorem dX9_holds_71 : decode cX9_holds 71 = .ok (.if_icmp .eq 10, 3) := by decide +kernel
theorem dX9_holds_74 : decode cX9_holds 74 = .ok (.iload 6, 2) := by decide +kernel
theorem dX9_holds_76 : decode cX9_holds 76 = .ok (.bipush 124, 2) := by decide +kernel
theorem dX9_holds_78 : decode cX9_holds 78 = .ok (.if_icmp .ne 82, 3) := by decide +kernel
theorem dX9_holds_81 : decode cX9_holds 81 = .ok (.iinc 4 (-1), 3) := by decide +kernel
theorem dX9_holds_84 : decode cX9_holds 84 = .ok (.aload_n 0, 1) := by decide +kernel
theorem dX9_holds_85 : decode cX9_holds 85 = .ok (.getfield 95, 3) := by decide +kernel
theorem dX9_holds_88 : decode cX9_holds 88 = .ok (.iload 4, 2) := by decide +kernel
theorem dX9_holds_90 : decode cX9_holds 90 = .ok (.iconst 1, 1) := by decide +kernel
theorem dX9_holds_91 : decode cX9_holds 91 = .ok (.isub, 1) := by decide +kernel
theorem dX9_holds_92 : decode cX9_holds 92 = .ok (.iload 6, 2) := by decide +kernel
theorem dX9_holds_94 : decode cX9_holds 94 = .ok (.bipush 38, 2) := by decide +kernel
theorem dX9_holds_96 : decode cX9_holds 96 = .ok (.if_icmp .ne 33, 3) := by decide +kernel
theorem dX9_holds_99 : decode cX9_holds 99 = .ok (.aload_n 0, 1) := by decide +kernel
theorem dX9_holds_100 : decode cX9_holds 100 = .ok (.getfield 95, 3) := by decide +kernel
theorem dX9_holds_103 : decode cX9_holds 103 = .ok (.iload 4, 2) := by decide +kernel
theorem dX9_holds_105 : decode cX9_holds 105 = .ok (.iconst 1, 1) := by decide +kernel
theorem dX9_holds_106 : decode cX9_holds 106 = .ok (.isub, 1) := by decide +kernel
theorem dX9_holds_107 : decode cX9_holds 107 = .ok (.baload, 1) := by decide +kernel
theorem dX9_holds_108 : decode cX9_holds 108 = .ok (.ifCond .eq 17, 3) := by decide +kernel
theorem dX9_holds_111 : decode cX9_holds 111 = .ok (.aload_n 0, 1) := by decide +kernel
theorem dX9_holds_112 : decode cX9_holds 112 = .ok (.getfield 95, 3) := by decide +kernel
theorem dX9_holds_115 : decode cX9_holds 115 = .ok (.iload 4, 2) := by decide +kernel
theorem dX9_holds_117 : decode cX9_holds 117 = .ok (.baload, 1) := by decide +kernel
theorem dX9_holds_118 : decode cX9_holds 118 = .ok (.ifCond .eq 7, 3) := by decide +kernel
theorem dX9_holds_121 : decode cX9_holds 121 = .ok (.iconst 1, 1) := by decide +kernel
theorem dX9_holds_122 : decode cX9_holds 122 = .ok (.goto 34, 3) := by decide +kernel
theorem dX9_holds_125 : decode cX9_holds 125 = .ok (.iconst 0, 1) := by decide +kernel
theorem dX9_holds_126 : decode cX9_holds 126 = .ok (.goto 30, 3) := by decide +kernel
theorem dX9_holds_129 : decode cX9_holds 129 = .ok (.aload_n 0, 1) := by decide +kernel
theorem dX9_holds_130 : decode cX9_holds 130 = .ok (.getfield 95, 3) := by decide +kernel
theorem dX9_holds_133 : decode cX9_holds 133 = .ok (.iload 4, 2) := by decide +kernel
theorem dX9_holds_135 : decode cX9_holds 135 = .ok (.iconst 1, 1) := by decide +kernel
theorem dX9_holds_136 : decode cX9_holds 136 = .ok (.isub, 1) := by decide +kernel
theorem dX9_holds_137 : decode cX9_holds 137 = .ok (.baload, 1) := by decide +kernel
theorem dX9_holds_138 : decode cX9_holds 138 = .ok (.ifCond .ne 13, 3) := by decide +kernel
theorem dX9_holds_141 : decode cX9_holds 141 = .ok (.aload_n 0, 1) := by decide +kernel
theorem dX9_holds_142 : decode cX9_holds 142 = .ok (.getfield 95, 3) := by decide +kernel
theorem dX9_holds_145 : decode cX9_holds 145 = .ok (.iload 4, 2) := by decide +kernel
theorem dX9_holds_147 : decode cX9_holds 147 = .ok (.baload, 1) := by decide +kernel
theorem dX9_holds_148 : decode cX9_holds 148 = .ok (.ifCond .eq 7, 3) := by decide +kernel
theorem dX9_holds_151 : decode cX9_holds 151 = .ok (.iconst 1, 1) := by decide +kernel
theorem dX9_holds_152 : decode cX9_holds 152 = .ok (.goto 4, 3) := by decide +kernel
theorem dX9_holds_155 : decode cX9_holds 155 = .ok (.iconst 0, 1) := by decide +kernel
theorem dX9_holds_156 : decode cX9_holds 156 = .ok (.bastore, 1) := by decide +kernel
theorem dX9_holds_157 : decode cX9_holds 157 = .ok (.goto 21, 3) := by decide +kernel
theorem dX9_holds_160 : decode cX9_holds 160 = .ok (.aload_n 0, 1) := by decide +kernel
theorem dX9_holds_161 : decode cX9_holds 161 = .ok (.getfield 95, 3) := by decide +kernel
theorem dX9_holds_164 : decode cX9_holds 164 = .ok (.iload 4, 2) := by decide +kernel
theorem dX9_holds_166 : decode cX9_holds 166 = .ok (.aload_n 0, 1) := by decide +kernel
theorem dX9_holds_167 : decode cX9_holds 167 = .ok (.iload 6, 2) := by decide +kernel
theorem dX9_holds_169 : decode cX9_holds 169 = .ok (.iload_n 2, 1) := by decide +kernel
theorem dX9_holds_170 : decode cX9_holds 170 = .ok (.iload_n 3, 1) := by decide +kernel
theorem dX9_holds_171 : decode cX9_holds 171 = .ok (.invokevirtual 192, 3) := by decide +kernel
theorem dX9_holds_174 : decode cX9_holds 174 = .ok (.bastore, 1) := by decide +kernel
theorem dX9_holds_175 : decode cX9_holds 175 = .ok (.iinc 4 1, 3) := by decide +kernel
theorem dX9_holds_178 : decode cX9_holds 178 = .ok (.iinc 5 1, 3) := by decide +kernel
theorem dX9_holds_181 : decode cX9_holds 181 = .ok (.goto (-170), 3) := by decide +kernel
theorem dX9_holds_184 : decode cX9_holds 184 = .ok (.aload_n 0, 1) := by decide +kernel
theorem dX9_holds_185 : decode cX9_holds 185 = .ok (.getfield 95, 3) := by decide +kernel
theorem dX9_holds_188 : decode cX9_holds 188 = .ok (.iconst 0, 1) := by decide +kernel
theorem dX9_holds_189 : decode cX9_holds 189 = .ok (.baload, 1) := by decide +kernel
theorem dX9_holds_190 : decode cX9_holds 190 = .ok (.ireturn, 1) := by decide +kernel
set_option maxRecDepth 20000 in
theorem ggX9_firstOf_X9_holds : GoodIn wsX9_firstOf wsX9_holds := goodIn_r _ [7, 8, 9, 10, 11, 12, 13, 14, 6, 15, 16, 17, 18, 19, 20, 21, 22, 23, 24, 25, 26, 27, 28, 29, 30, 31, 32, 33, 34, 35, 36, 37, 38, 39, 40, 41, 42, 43, 44, 45, 46, 47, 48, 49, 50, 51, 52, 53, 54, 55, 56, 57, 58, 59, 60, 61, 62, 63, 64, 65, 66, 67, 68, 69, 70, 71, 72] (by decide +kernel) (by decide +kernel)
set_option maxRecDepth 20000 in
theorem gX9_firstOf_X9_holds : GoodIn wsX9_firstOf (wsV RX9 195 RX9 yX9_holds wsX9_holds) := goodIn_app (goodIn_of _ (by decide +kernel)) ggX9_firstOf_X9_holds
theorem dX9_firstOf_0 : decode cX9_firstOf 0 = .ok (.iconst 0, 1) := by decide +kernel
theorem dX9_firstOf_1 : decode cX9_firstOf 1 = .ok (.istore 5, 2) := by decide +kernel
theorem dX9_firstOf_3 : decode cX9_firstOf 3 = .ok (.iload 5, 2) := by decide +kernel
theorem dX9_firstOf_5 : decode cX9_firstOf 5 = .ok (.aload_n 0, 1) := by decide +kernel
theorem dX9_firstOf_6 : decode cX9_firstOf 6 = .ok (.getfield 53, 3) := by decide +kernel
theorem dX9_firstOf_9 : decode cX9_firstOf 9 = .ok (.iload_n 1, 1) := by decide +kernel
theorem dX9_firstOf_10 : decode cX9_firstOf 10 = .ok (.iaload, 1) := by decide +kernel
theorem dX9_firstOf_11 : decode cX9_firstOf 11 = .ok (.if_icmp .ge 45, 3) := by decide +kernel
theorem dX9_firstOf_14 : decode cX9_firstOf 14 = .ok (.aload_n 0, 1) := by decide +kernel
theorem dX9_firstOf_15 : decode cX9_firstOf 15 = .ok (.getfield 56, 3) := by decide +kernel
theorem dX9_firstOf_18 : decode cX9_firstOf 18 = .ok (.bipush 6, 2) := by decide +kernel
theorem dX9_firstOf_20 : decode cX9_firstOf 20 = .ok (.iload_n 1, 1) := by decide +kernel
theorem dX9_firstOf_21 : decode cX9_firstOf 21 = .ok (.imul, 1) := by decide +kernel
theorem dX9_firstOf_22 : decode cX9_firstOf 22 = .ok (.iload 5, 2) := by decide +kernel
theorem dX9_firstOf_24 : decode cX9_firstOf 24 = .ok (.iadd, 1) := by decide +kernel
theorem dX9_firstOf_25 : decode cX9_firstOf 25 = .ok (.iaload, 1) := by decide +kernel
theorem dX9_firstOf_26 : decode cX9_firstOf 26 = .ok (.iload_n 2, 1) := by decide +kernel
theorem dX9_firstOf_27 : decode cX9_firstOf 27 = .ok (.if_icmp .ne 23, 3) := by decide +kernel
theorem dX9_firstOf_30 : decode cX9_firstOf 30 = .ok (.aload_n 0, 1) := by decide +kernel
theorem dX9_firstOf_31 : decode cX9_firstOf 31 = .ok (.bipush 6, 2) := by decide +kernel
theorem dX9_firstOf_33 : decode cX9_firstOf 33 = .ok (.iload_n 1, 1) := by decide +kernel
theorem dX9_firstOf_34 : decode cX9_firstOf 34 = .ok (.imul, 1) := by decide +kernel
theorem dX9_firstOf_35 : decode cX9_firstOf 35 = .ok (.iload 5, 2) := by decide +kernel
theorem dX9_firstOf_37 : decode cX9_firstOf 37 = .ok (.iadd, 1) := by decide +kernel
theorem dX9_firstOf_38 : decode cX9_firstOf 38 = .ok (.iload_n 3, 1) := by decide +kernel
theorem dX9_firstOf_39 : decode cX9_firstOf 39 = .ok (.iload 4, 2) := by decide +kernel
theorem dX9_firstOf_41 : decode cX9_firstOf 41 = .ok (.invokevirtual 195, 3) := by decide +kernel
theorem dX9_firstOf_44 : decode cX9_firstOf 44 = .ok (.ifCond .eq 6, 3) := by decide +kernel
theorem dX9_firstOf_47 : decode cX9_firstOf 47 = .ok (.iload 5, 2) := by decide +kernel
theorem dX9_firstOf_49 : decode cX9_firstOf 49 = .ok (.ireturn, 1) := by decide +kernel
theorem dX9_firstOf_50 : decode cX9_firstOf 50 = .ok (.iinc 5 1, 3) := by decide +kernel
theorem dX9_firstOf_53 : decode cX9_firstOf 53 = .ok (.goto (-50), 3) := by decide +kernel
theorem dX9_firstOf_56 : decode cX9_firstOf 56 = .ok (.iconst (-1), 1) := by decide +kernel
theorem dX9_firstOf_57 : decode cX9_firstOf 57 = .ok (.ireturn, 1) := by decide +kernel
set_option maxRecDepth 20000 in
theorem ggX9_lacks_X9_has : GoodIn wsX9_lacks wsX9_has := goodIn_r _ [9] (by decide +kernel) (by decide +kernel)
set_option maxRecDepth 20000 in
theorem gX9_lacks_X9_has : GoodIn wsX9_lacks (wsV RX9 189 RX9 yX9_has wsX9_has) := goodIn_app (goodIn_of _ (by decide +kernel)) ggX9_lacks_X9_has
set_option maxRecDepth 20000 in
theorem ggX9_lacks_X9_holds : GoodIn wsX9_lacks wsX9_holds := goodIn_r _ [13, 14, 15, 16, 17, 18, 19, 20, 8, 21, 22, 23, 24, 25, 3, 26, 27, 28, 29, 30, 31, 32, 33, 5, 6, 7, 9, 34, 35, 36, 37, 38, 39, 40, 41, 42, 43, 44, 45, 46, 47, 48, 49, 50, 51, 52, 53, 54, 55, 56, 57, 58, 59, 60, 61, 62, 63, 64, 65, 66, 67, 68, 69, 70, 71, 72, 73] (by decide +kernel) (by decide +kernel)
set_option maxRecDepth 20000 in
theorem gX9_lacks_X9_holds : GoodIn wsX9_lacks (wsV RX9 195 RX9 yX9_holds wsX9_holds) := goodIn_app (goodIn_of _ (by decide +kernel)) ggX9_lacks_X9_holds
theorem dX9_lacks_0 : decode cX9_lacks 0 = .ok (.iconst 0, 1) := by decide +kernel
theorem dX9_lacks_1 : decode cX9_lacks 1 = .ok (.istore 4, 2) := by decide +kernel
theorem dX9_lacks_3 : decode cX9_lacks 3 = .ok (.iload 4, 2) := by decide +kernel
theorem dX9_lacks_5 : decode cX9_lacks 5 = .ok (.aload_n 0, 1) := by decide +kernel
theorem dX9_lacks_6 : decode cX9_lacks 6 = .ok (.getfield 53, 3) := by decide +kernel
theorem dX9_lacks_9 : decode cX9_lacks 9 = .ok (.iload_n 1, 1) := by decide +kernel
theorem dX9_lacks_10 : decode cX9_lacks 10 = .ok (.iaload, 1) := by decide +kernel
theorem dX9_lacks_11 : decode cX9_lacks 11 = .ok (.if_icmp .ge 66, 3) := by decide +kernel
theorem dX9_lacks_14 : decode cX9_lacks 14 = .ok (.aload_n 0, 1) := by decide +kernel
theorem dX9_lacks_15 : decode cX9_lacks 15 = .ok (.getfield 56, 3) := by decide +kernel
theorem dX9_lacks_18 : decode cX9_lacks 18 = .ok (.bipush 6, 2) := by decide +kernel
theorem dX9_lacks_20 : decode cX9_lacks 20 = .ok (.iload_n 1, 1) := by decide +kernel
theorem dX9_lacks_21 : decode cX9_lacks 21 = .ok (.imul, 1) := by decide +kernel
theorem dX9_lacks_22 : decode cX9_lacks 22 = .ok (.iload 4, 2) := by decide +kernel
theorem dX9_lacks_24 : decode cX9_lacks 24 = .ok (.iadd, 1) := by decide +kernel
theorem dX9_lacks_25 : decode cX9_lacks 25 = .ok (.iaload, 1) := by decide +kernel
theorem dX9_lacks_26 : decode cX9_lacks 26 = .ok (.iconst 2, 1) := by decide +kernel
theorem dX9_lacks_27 : decode cX9_lacks 27 = .ok (.if_icmp .ne 44, 3) := by decide +kernel
theorem dX9_lacks_30 : decode cX9_lacks 30 = .ok (.aload_n 0, 1) := by decide +kernel
theorem dX9_lacks_31 : decode cX9_lacks 31 = .ok (.aload_n 0, 1) := by decide +kernel
theorem dX9_lacks_32 : decode cX9_lacks 32 = .ok (.getfield 83, 3) := by decide +kernel
theorem dX9_lacks_35 : decode cX9_lacks 35 = .ok (.aload_n 0, 1) := by decide +kernel
theorem dX9_lacks_36 : decode cX9_lacks 36 = .ok (.getfield 59, 3) := by decide +kernel
theorem dX9_lacks_39 : decode cX9_lacks 39 = .ok (.bipush 6, 2) := by decide +kernel
theorem dX9_lacks_41 : decode cX9_lacks 41 = .ok (.iload_n 1, 1) := by decide +kernel
theorem dX9_lacks_42 : decode cX9_lacks 42 = .ok (.imul, 1) := by decide +kernel
theorem dX9_lacks_43 : decode cX9_lacks 43 = .ok (.iload 4, 2) := by decide +kernel
theorem dX9_lacks_45 : decode cX9_lacks 45 = .ok (.iadd, 1) := by decide +kernel
theorem dX9_lacks_46 : decode cX9_lacks 46 = .ok (.iaload, 1) := by decide +kernel
theorem dX9_lacks_47 : decode cX9_lacks 47 = .ok (.invokevirtual 189, 3) := by decide +kernel
theorem dX9_lacks_50 : decode cX9_lacks 50 = .ok (.ifCond .ne 21, 3) := by decide +kernel
theorem dX9_lacks_53 : decode cX9_lacks 53 = .ok (.aload_n 0, 1) := by decide +kernel
theorem dX9_lacks_54 : decode cX9_lacks 54 = .ok (.bipush 6, 2) := by decide +kernel
theorem dX9_lacks_56 : decode cX9_lacks 56 = .ok (.iload_n 1, 1) := by decide +kernel
theorem dX9_lacks_57 : decode cX9_lacks 57 = .ok (.imul, 1) := by decide +kernel
theorem dX9_lacks_58 : decode cX9_lacks 58 = .ok (.iload 4, 2) := by decide +kernel
theorem dX9_lacks_60 : decode cX9_lacks 60 = .ok (.iadd, 1) := by decide +kernel
theorem dX9_lacks_61 : decode cX9_lacks 61 = .ok (.iload_n 2, 1) := by decide +kernel
theorem dX9_lacks_62 : decode cX9_lacks 62 = .ok (.iload_n 3, 1) := by decide +kernel
theorem dX9_lacks_63 : decode cX9_lacks 63 = .ok (.invokevirtual 195, 3) := by decide +kernel
theorem dX9_lacks_66 : decode cX9_lacks 66 = .ok (.ifCond .eq 5, 3) := by decide +kernel
theorem dX9_lacks_69 : decode cX9_lacks 69 = .ok (.iconst 1, 1) := by decide +kernel
theorem dX9_lacks_70 : decode cX9_lacks 70 = .ok (.ireturn, 1) := by decide +kernel
theorem dX9_lacks_71 : decode cX9_lacks 71 = .ok (.iinc 4 1, 3) := by decide +kernel
theorem dX9_lacks_74 : decode cX9_lacks 74 = .ok (.goto (-71), 3) := by decide +kernel
theorem dX9_lacks_77 : decode cX9_lacks 77 = .ok (.iconst 0, 1) := by decide +kernel
theorem dX9_lacks_78 : decode cX9_lacks 78 = .ok (.ireturn, 1) := by decide +kernel
set_option maxRecDepth 20000 in
theorem ggX9_keepsOut_X9_firstOf : GoodIn wsX9_keepsOut wsX9_firstOf := goodIn_r _ [6, 7, 8, 9, 10, 11, 5, 12, 13, 14, 15, 16, 17, 18, 19, 20, 21, 22, 23, 24, 25, 26, 27, 28, 29, 30, 31, 32, 33, 34, 35, 36, 37, 43, 44, 45, 46, 47, 48, 49, 50, 51, 52, 53, 54, 55, 56, 57, 58, 59, 60, 61, 62, 63, 64, 65, 66, 67, 68, 69, 70, 71, 72, 73, 74, 75, 76, 77, 78, 79, 80, 81, 82] (by decide +kernel) (by decide +kernel)
set_option maxRecDepth 20000 in
theorem gX9_keepsOut_X9_firstOf : GoodIn wsX9_keepsOut (wsV RX9 198 RX9 yX9_firstOf wsX9_firstOf) := goodIn_app (goodIn_of _ (by decide +kernel)) ggX9_keepsOut_X9_firstOf
set_option maxRecDepth 20000 in
theorem ggX9_keepsOut_X9_lacks : GoodIn wsX9_keepsOut wsX9_lacks := goodIn_r _ [41, 7, 8, 25, 42, 34, 35, 36, 5, 37, 9, 10, 11, 12, 13, 14, 15, 16, 17, 18, 19, 20, 21, 22, 23, 24, 26, 27, 28, 29, 30, 31, 32, 33, 43, 44, 45, 46, 47, 48, 49, 50, 51, 52, 53, 54, 55, 56, 57, 58, 59, 60, 61, 62, 63, 64, 65, 66, 67, 68, 69, 70, 71, 72, 73, 74, 75, 76, 77, 78, 79, 80, 81, 82] (by decide +kernel) (by decide +kernel)
set_option maxRecDepth 20000 in
theorem gX9_keepsOut_X9_lacks : GoodIn wsX9_keepsOut (wsV RX9 202 RX9 yX9_lacks wsX9_lacks) := goodIn_app (goodIn_of _ (by decide +kernel)) ggX9_keepsOut_X9_lacks
set_option maxRecDepth 20000 in
theorem ggX9_keepsOut_X9_has : GoodIn wsX9_keepsOut wsX9_has := goodIn_r _ [37] (by decide +kernel) (by decide +kernel)
set_option maxRecDepth 20000 in
theorem gX9_keepsOut_X9_has : GoodIn wsX9_keepsOut (wsV RX9 189 RX9 yX9_has wsX9_has) := goodIn_app (goodIn_of _ (by decide +kernel)) ggX9_keepsOut_X9_has
theorem dX9_keepsOut_0 : decode cX9_keepsOut 0 = .ok (.aload_n 0, 1) := by decide +kernel
theorem dX9_keepsOut_1 : decode cX9_keepsOut 1 = .ok (.iload_n 1, 1) := by decide +kernel
theorem dX9_keepsOut_2 : decode cX9_keepsOut 2 = .ok (.iconst 0, 1) := by decide +kernel
theorem dX9_keepsOut_3 : decode cX9_keepsOut 3 = .ok (.iload_n 2, 1) := by decide +kernel
theorem dX9_keepsOut_4 : decode cX9_keepsOut 4 = .ok (.iload_n 3, 1) := by decide +kernel
theorem dX9_keepsOut_5 : decode cX9_keepsOut 5 = .ok (.invokevirtual 198, 3) := by decide +kernel
theorem dX9_keepsOut_8 : decode cX9_keepsOut 8 = .ok (.ifCond .lt 16, 3) := by decide +kernel
theorem dX9_keepsOut_11 : decode cX9_keepsOut 11 = .ok (.aload_n 0, 1) := by decide +kernel
theorem dX9_keepsOut_12 : decode cX9_keepsOut 12 = .ok (.iload_n 1, 1) := by decide +kernel
theorem dX9_keepsOut_13 : decode cX9_keepsOut 13 = .ok (.iconst 1, 1) := by decide +kernel
theorem dX9_keepsOut_14 : decode cX9_keepsOut 14 = .ok (.iload_n 2, 1) := by decide +kernel
theorem dX9_keepsOut_15 : decode cX9_keepsOut 15 = .ok (.iload_n 3, 1) := by decide +kernel
theorem dX9_keepsOut_16 : decode cX9_keepsOut 16 = .ok (.invokevirtual 198, 3) := by decide +kernel
theorem dX9_keepsOut_19 : decode cX9_keepsOut 19 = .ok (.ifCond .ge 5, 3) := by decide +kernel
theorem dX9_keepsOut_22 : decode cX9_keepsOut 22 = .ok (.iconst 1, 1) := by decide +kernel
theorem dX9_keepsOut_23 : decode cX9_keepsOut 23 = .ok (.ireturn, 1) := by decide +kernel
theorem dX9_keepsOut_24 : decode cX9_keepsOut 24 = .ok (.aload_n 0, 1) := by decide +kernel
theorem dX9_keepsOut_25 : decode cX9_keepsOut 25 = .ok (.iload_n 1, 1) := by decide +kernel
theorem dX9_keepsOut_26 : decode cX9_keepsOut 26 = .ok (.iload_n 2, 1) := by decide +kernel
theorem dX9_keepsOut_27 : decode cX9_keepsOut 27 = .ok (.iload_n 3, 1) := by decide +kernel
theorem dX9_keepsOut_28 : decode cX9_keepsOut 28 = .ok (.invokevirtual 202, 3) := by decide +kernel
theorem dX9_keepsOut_31 : decode cX9_keepsOut 31 = .ok (.ifCond .eq 5, 3) := by decide +kernel
theorem dX9_keepsOut_34 : decode cX9_keepsOut 34 = .ok (.iconst 1, 1) := by decide +kernel
theorem dX9_keepsOut_35 : decode cX9_keepsOut 35 = .ok (.ireturn, 1) := by decide +kernel
theorem dX9_keepsOut_36 : decode cX9_keepsOut 36 = .ok (.aload_n 0, 1) := by decide +kernel
theorem dX9_keepsOut_37 : decode cX9_keepsOut 37 = .ok (.aload_n 0, 1) := by decide +kernel
theorem dX9_keepsOut_38 : decode cX9_keepsOut 38 = .ok (.getfield 86, 3) := by decide +kernel
theorem dX9_keepsOut_41 : decode cX9_keepsOut 41 = .ok (.iload_n 1, 1) := by decide +kernel
theorem dX9_keepsOut_42 : decode cX9_keepsOut 42 = .ok (.invokevirtual 189, 3) := by decide +kernel
theorem dX9_keepsOut_45 : decode cX9_keepsOut 45 = .ok (.ifCond .ne 18, 3) := by decide +kernel
theorem dX9_keepsOut_48 : decode cX9_keepsOut 48 = .ok (.aload_n 0, 1) := by decide +kernel
theorem dX9_keepsOut_49 : decode cX9_keepsOut 49 = .ok (.iload_n 1, 1) := by decide +kernel
theorem dX9_keepsOut_50 : decode cX9_keepsOut 50 = .ok (.iconst 3, 1) := by decide +kernel
theorem dX9_keepsOut_51 : decode cX9_keepsOut 51 = .ok (.iload_n 2, 1) := by decide +kernel
theorem dX9_keepsOut_52 : decode cX9_keepsOut 52 = .ok (.iload_n 3, 1) := by decide +kernel
theorem dX9_keepsOut_53 : decode cX9_keepsOut 53 = .ok (.invokevirtual 198, 3) := by decide +kernel
theorem dX9_keepsOut_56 : decode cX9_keepsOut 56 = .ok (.ifCond .lt 7, 3) := by decide +kernel
theorem dX9_keepsOut_59 : decode cX9_keepsOut 59 = .ok (.iconst 1, 1) := by decide +kernel
theorem dX9_keepsOut_60 : decode cX9_keepsOut 60 = .ok (.goto 4, 3) := by decide +kernel
theorem dX9_keepsOut_63 : decode cX9_keepsOut 63 = .ok (.iconst 0, 1) := by decide +kernel
theorem dX9_keepsOut_64 : decode cX9_keepsOut 64 = .ok (.ireturn, 1) := by decide +kernel
set_option maxRecDepth 20000 in
theorem ggX9_wayOf_X9_firstOf : GoodIn wsX9_wayOf wsX9_firstOf := goodIn_r _ [5, 6, 7, 8, 9, 10, 4, 11, 12, 13, 14, 15, 16, 17, 18, 19, 20, 21, 22, 23, 24, 25, 26, 27, 28, 29, 30, 31, 32, 33, 34, 35, 36, 37, 38, 39, 40, 41, 42, 43, 44, 45, 46, 47, 48, 49, 50, 51, 52, 53, 54, 55, 56, 57, 58, 59, 60, 61, 62, 63, 64, 65, 66, 67, 68, 69, 70, 71, 72, 73, 74, 75, 76] (by decide +kernel) (by decide +kernel)
set_option maxRecDepth 20000 in
theorem gX9_wayOf_X9_firstOf : GoodIn wsX9_wayOf (wsV RX9 198 RX9 yX9_firstOf wsX9_firstOf) := goodIn_app (goodIn_of _ (by decide +kernel)) ggX9_wayOf_X9_firstOf
theorem dX9_wayOf_0 : decode cX9_wayOf 0 = .ok (.aload_n 0, 1) := by decide +kernel
theorem dX9_wayOf_1 : decode cX9_wayOf 1 = .ok (.iload_n 1, 1) := by decide +kernel
theorem dX9_wayOf_2 : decode cX9_wayOf 2 = .ok (.iconst 0, 1) := by decide +kernel
theorem dX9_wayOf_3 : decode cX9_wayOf 3 = .ok (.iload_n 2, 1) := by decide +kernel
theorem dX9_wayOf_4 : decode cX9_wayOf 4 = .ok (.iload_n 3, 1) := by decide +kernel
theorem dX9_wayOf_5 : decode cX9_wayOf 5 = .ok (.invokevirtual 198, 3) := by decide +kernel
theorem dX9_wayOf_8 : decode cX9_wayOf 8 = .ok (.ifCond .ge 7, 3) := by decide +kernel
theorem dX9_wayOf_11 : decode cX9_wayOf 11 = .ok (.iconst (-1), 1) := by decide +kernel
theorem dX9_wayOf_12 : decode cX9_wayOf 12 = .ok (.goto 11, 3) := by decide +kernel
theorem dX9_wayOf_15 : decode cX9_wayOf 15 = .ok (.aload_n 0, 1) := by decide +kernel
theorem dX9_wayOf_16 : decode cX9_wayOf 16 = .ok (.iload_n 1, 1) := by decide +kernel
theorem dX9_wayOf_17 : decode cX9_wayOf 17 = .ok (.iconst 1, 1) := by decide +kernel
theorem dX9_wayOf_18 : decode cX9_wayOf 18 = .ok (.iload_n 2, 1) := by decide +kernel
theorem dX9_wayOf_19 : decode cX9_wayOf 19 = .ok (.iload_n 3, 1) := by decide +kernel
theorem dX9_wayOf_20 : decode cX9_wayOf 20 = .ok (.invokevirtual 198, 3) := by decide +kernel
theorem dX9_wayOf_23 : decode cX9_wayOf 23 = .ok (.ireturn, 1) := by decide +kernel
set_option maxRecDepth 20000 in
theorem ggX9_meetsIt_X9_holds : GoodIn wsX9_meetsIt wsX9_holds := goodIn_r _ [6, 7, 8, 9, 10, 11, 12, 13, 5, 14, 15, 16, 17, 18, 19, 20, 21, 22, 23, 24, 25, 26, 27, 28, 29, 30, 31, 32, 33, 34, 35, 36, 37, 38, 39, 40, 41, 42, 43, 44, 45, 46, 47, 48, 49, 50, 51, 52, 53, 54, 55, 56, 57, 58, 59, 60, 61, 62, 63, 64, 65, 66, 67, 68, 69, 70, 71] (by decide +kernel) (by decide +kernel)
set_option maxRecDepth 20000 in
theorem gX9_meetsIt_X9_holds : GoodIn wsX9_meetsIt (wsV RX9 195 RX9 yX9_holds wsX9_holds) := goodIn_app (goodIn_of _ (by decide +kernel)) ggX9_meetsIt_X9_holds
theorem dX9_meetsIt_0 : decode cX9_meetsIt 0 = .ok (.iconst 0, 1) := by decide +kernel
theorem dX9_meetsIt_1 : decode cX9_meetsIt 1 = .ok (.istore 4, 2) := by decide +kernel
theorem dX9_meetsIt_3 : decode cX9_meetsIt 3 = .ok (.iload 4, 2) := by decide +kernel
theorem dX9_meetsIt_5 : decode cX9_meetsIt 5 = .ok (.aload_n 0, 1) := by decide +kernel
theorem dX9_meetsIt_6 : decode cX9_meetsIt 6 = .ok (.getfield 53, 3) := by decide +kernel
theorem dX9_meetsIt_9 : decode cX9_meetsIt 9 = .ok (.iload_n 1, 1) := by decide +kernel
theorem dX9_meetsIt_10 : decode cX9_meetsIt 10 = .ok (.iaload, 1) := by decide +kernel
theorem dX9_meetsIt_11 : decode cX9_meetsIt 11 = .ok (.if_icmp .ge 27, 3) := by decide +kernel
theorem dX9_meetsIt_14 : decode cX9_meetsIt 14 = .ok (.aload_n 0, 1) := by decide +kernel
theorem dX9_meetsIt_15 : decode cX9_meetsIt 15 = .ok (.bipush 6, 2) := by decide +kernel
theorem dX9_meetsIt_17 : decode cX9_meetsIt 17 = .ok (.iload_n 1, 1) := by decide +kernel
theorem dX9_meetsIt_18 : decode cX9_meetsIt 18 = .ok (.imul, 1) := by decide +kernel
theorem dX9_meetsIt_19 : decode cX9_meetsIt 19 = .ok (.iload 4, 2) := by decide +kernel
theorem dX9_meetsIt_21 : decode cX9_meetsIt 21 = .ok (.iadd, 1) := by decide +kernel
theorem dX9_meetsIt_22 : decode cX9_meetsIt 22 = .ok (.iload_n 2, 1) := by decide +kernel
theorem dX9_meetsIt_23 : decode cX9_meetsIt 23 = .ok (.iload_n 3, 1) := by decide +kernel
theorem dX9_meetsIt_24 : decode cX9_meetsIt 24 = .ok (.invokevirtual 195, 3) := by decide +kernel
theorem dX9_meetsIt_27 : decode cX9_meetsIt 27 = .ok (.ifCond .eq 5, 3) := by decide +kernel
theorem dX9_meetsIt_30 : decode cX9_meetsIt 30 = .ok (.iconst 1, 1) := by decide +kernel
theorem dX9_meetsIt_31 : decode cX9_meetsIt 31 = .ok (.ireturn, 1) := by decide +kernel
theorem dX9_meetsIt_32 : decode cX9_meetsIt 32 = .ok (.iinc 4 1, 3) := by decide +kernel
theorem dX9_meetsIt_35 : decode cX9_meetsIt 35 = .ok (.goto (-32), 3) := by decide +kernel
theorem dX9_meetsIt_38 : decode cX9_meetsIt 38 = .ok (.iconst 0, 1) := by decide +kernel
theorem dX9_meetsIt_39 : decode cX9_meetsIt 39 = .ok (.ireturn, 1) := by decide +kernel
set_option maxRecDepth 20000 in
theorem ggX9_meets_X9_isRule : GoodIn wsX9_meets wsX9_isRule := goodIn_r _ [5, 6, 7, 8, 9, 4, 10, 80, 81, 82, 83, 84, 85, 86, 87, 88, 89, 90, 91, 92, 93, 94, 95, 96, 97, 98, 99, 100, 101, 102, 103, 104, 105, 106, 107, 108, 109, 110, 111, 112, 113, 114, 115, 116, 117, 118, 119] (by decide +kernel) (by decide +kernel)
set_option maxRecDepth 20000 in
theorem gX9_meets_X9_isRule : GoodIn wsX9_meets (wsV RX9 205 RX9 yX9_isRule wsX9_isRule) := goodIn_app (goodIn_of _ (by decide +kernel)) ggX9_meets_X9_isRule
set_option maxRecDepth 20000 in
theorem ggX9_meets_X9_isWord : GoodIn wsX9_meets wsX9_isWord := goodIn_r _ [14, 15, 7, 8, 9, 4, 10, 80, 81, 82, 83, 84, 85, 86, 87, 88, 89, 90, 91, 92, 93, 94, 95, 96, 97, 98, 99, 100, 101, 102, 103, 104, 105, 106, 107, 108, 109, 110, 111, 112, 113, 114, 115, 116, 117, 118, 119] (by decide +kernel) (by decide +kernel)
set_option maxRecDepth 20000 in
theorem gX9_meets_X9_isWord : GoodIn wsX9_meets (wsV RX9 137 RX9 yX9_isWord wsX9_isWord) := goodIn_app (goodIn_of _ (by decide +kernel)) ggX9_meets_X9_isWord
set_option maxRecDepth 20000 in
theorem ggX9_meets_X9_isEnd : GoodIn wsX9_meets wsX9_isEnd := goodIn_r _ [19, 7, 8, 9, 4, 10] (by decide +kernel) (by decide +kernel)
set_option maxRecDepth 20000 in
theorem gX9_meets_X9_isEnd : GoodIn wsX9_meets (wsV RX9 208 RX9 yX9_isEnd wsX9_isEnd) := goodIn_app (goodIn_of _ (by decide +kernel)) ggX9_meets_X9_isEnd
set_option maxRecDepth 20000 in
theorem ggX9_meets_X9_in : GoodIn wsX9_meets wsX9_in := goodIn_r _ [10] (by decide +kernel) (by decide +kernel)
set_option maxRecDepth 20000 in
theorem gX9_meets_X9_in : GoodIn wsX9_meets (wsV RX9 133 RX9 yX9_in wsX9_in) := goodIn_app (goodIn_of _ (by decide +kernel)) ggX9_meets_X9_in
set_option maxRecDepth 20000 in
theorem ggX9_meets_X9_asItIs : GoodIn wsX9_meets wsX9_asItIs := goodIn_r _ [23, 24, 25, 26, 27, 28, 29, 80, 81, 82, 83, 84, 85, 86, 87, 88, 89, 90, 91, 92, 93, 94, 95, 96, 97, 98, 99, 100, 101, 102, 103, 104, 105, 106, 107, 108, 109, 110, 111, 112, 113, 114, 115, 116, 117, 118, 119] (by decide +kernel) (by decide +kernel)
set_option maxRecDepth 20000 in
theorem gX9_meets_X9_asItIs : GoodIn wsX9_meets (wsV RX9 211 RX9 yX9_asItIs wsX9_asItIs) := goodIn_app (goodIn_of _ (by decide +kernel)) ggX9_meets_X9_asItIs
set_option maxRecDepth 20000 in
theorem ggX9_meets_X9_meetsIt : GoodIn wsX9_meets wsX9_meetsIt := goodIn_r _ [33, 34, 35, 36, 37, 4, 38, 39, 40, 41, 42, 43, 44, 45, 46, 47, 29, 48, 49, 25, 50, 51, 52, 53, 54, 55, 56, 57, 58, 59, 60, 61, 80, 81, 82, 83, 84, 85, 86, 87, 88, 89, 90, 91, 92, 93, 94, 95, 96, 97, 98, 99, 100, 101, 102, 103, 104, 105, 106, 107, 108, 109, 110, 111, 112, 113, 114, 115, 116, 117, 118, 119] (by decide +kernel) (by decide +kernel)
set_option maxRecDepth 20000 in
theorem gX9_meets_X9_meetsIt : GoodIn wsX9_meets (wsV RX9 214 RX9 yX9_meetsIt wsX9_meetsIt) := goodIn_app (goodIn_of _ (by decide +kernel)) ggX9_meets_X9_meetsIt
set_option maxRecDepth 20000 in
theorem ggX9_meets_X9_keepsOut : GoodIn wsX9_meets wsX9_keepsOut := goodIn_r _ [65, 27, 66, 67, 68, 4, 69, 34, 70, 35, 36, 37, 38, 39, 40, 41, 42, 43, 44, 45, 46, 47, 29, 48, 49, 25, 50, 51, 52, 53, 54, 55, 56, 57, 58, 59, 60, 61, 71, 72, 73, 74, 75, 80, 81, 82, 83, 84, 85, 86, 87, 88, 89, 90, 91, 92, 93, 94, 95, 96, 97, 98, 99, 100, 101, 102, 103, 104, 105, 106, 107, 108, 109, 110, 111, 112, 113, 114, 115, 116, 117, 118, 119] (by decide +kernel) (by decide +kernel)
set_option maxRecDepth 20000 in
theorem gX9_meets_X9_keepsOut : GoodIn wsX9_meets (wsV RX9 217 RX9 yX9_keepsOut wsX9_keepsOut) := goodIn_app (goodIn_of _ (by decide +kernel)) ggX9_meets_X9_keepsOut
set_option maxRecDepth 20000 in
theorem ggX9_meets_X9_wayOf : GoodIn wsX9_meets wsX9_wayOf := goodIn_r _ [79, 66, 67, 68, 4, 69, 34, 70, 35, 36, 37, 38, 39, 40, 41, 42, 43, 44, 45, 46, 47, 29, 48, 49, 25, 50, 51, 52, 53, 54, 55, 56, 57, 58, 59, 60, 61, 80, 81, 82, 83, 84, 85, 86, 87, 88, 89, 90, 91, 92, 93, 94, 95, 96, 97, 98, 99, 100, 101, 102, 103, 104, 105, 106, 107, 108, 109, 110, 111, 112, 113, 114, 115, 116, 117, 118, 119] (by decide +kernel) (by decide +kernel)
set_option maxRecDepth 20000 in
theorem gX9_meets_X9_wayOf : GoodIn wsX9_meets (wsV RX9 220 RX9 yX9_wayOf wsX9_wayOf) := goodIn_app (goodIn_of _ (by decide +kernel)) ggX9_meets_X9_wayOf
theorem dX9_meets_0 : decode cX9_meets 0 = .ok (.aload_n 0, 1) := by decide +kernel
theorem dX9_meets_1 : decode cX9_meets 1 = .ok (.iload_n 1, 1) := by decide +kernel
theorem dX9_meets_2 : decode cX9_meets 2 = .ok (.invokevirtual 205, 3) := by decide +kernel
theorem dX9_meets_5 : decode cX9_meets 5 = .ok (.ifCond .eq 30, 3) := by decide +kernel
theorem dX9_meets_8 : decode cX9_meets 8 = .ok (.aload_n 0, 1) := by decide +kernel
theorem dX9_meets_9 : decode cX9_meets 9 = .ok (.iload_n 2, 1) := by decide +kernel
theorem dX9_meets_10 : decode cX9_meets 10 = .ok (.invokevirtual 137, 3) := by decide +kernel
theorem dX9_meets_13 : decode cX9_meets 13 = .ok (.ifCond .eq 22, 3) := by decide +kernel
theorem dX9_meets_16 : decode cX9_meets 16 = .ok (.aload_n 0, 1) := by decide +kernel
theorem dX9_meets_17 : decode cX9_meets 17 = .ok (.iload_n 3, 1) := by decide +kernel
theorem dX9_meets_18 : decode cX9_meets 18 = .ok (.invokevirtual 208, 3) := by decide +kernel
theorem dX9_meets_21 : decode cX9_meets 21 = .ok (.ifCond .eq 14, 3) := by decide +kernel
theorem dX9_meets_24 : decode cX9_meets 24 = .ok (.aload_n 0, 1) := by decide +kernel
theorem dX9_meets_25 : decode cX9_meets 25 = .ok (.iload 4, 2) := by decide +kernel
theorem dX9_meets_27 : decode cX9_meets 27 = .ok (.iconst 0, 1) := by decide +kernel
theorem dX9_meets_28 : decode cX9_meets 28 = .ok (.iconst 2, 1) := by decide +kernel
theorem dX9_meets_29 : decode cX9_meets 29 = .ok (.invokevirtual 133, 3) := by decide +kernel
theorem dX9_meets_32 : decode cX9_meets 32 = .ok (.ifCond .ne 5, 3) := by decide +kernel
theorem dX9_meets_35 : decode cX9_meets 35 = .ok (.iconst (-1), 1) := by decide +kernel
theorem dX9_meets_36 : decode cX9_meets 36 = .ok (.ireturn, 1) := by decide +kernel
theorem dX9_meets_37 : decode cX9_meets 37 = .ok (.aload_n 0, 1) := by decide +kernel
theorem dX9_meets_38 : decode cX9_meets 38 = .ok (.invokevirtual 211, 3) := by decide +kernel
theorem dX9_meets_41 : decode cX9_meets 41 = .ok (.iload 4, 2) := by decide +kernel
theorem dX9_meets_43 : decode cX9_meets 43 = .ok (.ifCond .ne 19, 3) := by decide +kernel
theorem dX9_meets_46 : decode cX9_meets 46 = .ok (.aload_n 0, 1) := by decide +kernel
theorem dX9_meets_47 : decode cX9_meets 47 = .ok (.iload_n 1, 1) := by decide +kernel
theorem dX9_meets_48 : decode cX9_meets 48 = .ok (.iload_n 2, 1) := by decide +kernel
theorem dX9_meets_49 : decode cX9_meets 49 = .ok (.iload_n 3, 1) := by decide +kernel
theorem dX9_meets_50 : decode cX9_meets 50 = .ok (.invokevirtual 214, 3) := by decide +kernel
theorem dX9_meets_53 : decode cX9_meets 53 = .ok (.ifCond .eq 7, 3) := by decide +kernel
theorem dX9_meets_56 : decode cX9_meets 56 = .ok (.iconst 1, 1) := by decide +kernel
theorem dX9_meets_57 : decode cX9_meets 57 = .ok (.goto 4, 3) := by decide +kernel
theorem dX9_meets_60 : decode cX9_meets 60 = .ok (.iconst 0, 1) := by decide +kernel
theorem dX9_meets_61 : decode cX9_meets 61 = .ok (.ireturn, 1) := by decide +kernel
theorem dX9_meets_62 : decode cX9_meets 62 = .ok (.iload 4, 2) := by decide +kernel
theorem dX9_meets_64 : decode cX9_meets 64 = .ok (.iconst 1, 1) := by decide +kernel
theorem dX9_meets_65 : decode cX9_meets 65 = .ok (.if_icmp .ne 19, 3) := by decide +kernel
theorem dX9_meets_68 : decode cX9_meets 68 = .ok (.aload_n 0, 1) := by decide +kernel
theorem dX9_meets_69 : decode cX9_meets 69 = .ok (.iload_n 1, 1) := by decide +kernel
theorem dX9_meets_70 : decode cX9_meets 70 = .ok (.iload_n 2, 1) := by decide +kernel
theorem dX9_meets_71 : decode cX9_meets 71 = .ok (.iload_n 3, 1) := by decide +kernel
theorem dX9_meets_72 : decode cX9_meets 72 = .ok (.invokevirtual 217, 3) := by decide +kernel
theorem dX9_meets_75 : decode cX9_meets 75 = .ok (.ifCond .eq 7, 3) := by decide +kernel
theorem dX9_meets_78 : decode cX9_meets 78 = .ok (.iconst 1, 1) := by decide +kernel
theorem dX9_meets_79 : decode cX9_meets 79 = .ok (.goto 4, 3) := by decide +kernel
theorem dX9_meets_82 : decode cX9_meets 82 = .ok (.iconst 0, 1) := by decide +kernel
theorem dX9_meets_83 : decode cX9_meets 83 = .ok (.ireturn, 1) := by decide +kernel
theorem dX9_meets_84 : decode cX9_meets 84 = .ok (.aload_n 0, 1) := by decide +kernel
theorem dX9_meets_85 : decode cX9_meets 85 = .ok (.iload_n 1, 1) := by decide +kernel
theorem dX9_meets_86 : decode cX9_meets 86 = .ok (.iload_n 2, 1) := by decide +kernel
theorem dX9_meets_87 : decode cX9_meets 87 = .ok (.iload_n 3, 1) := by decide +kernel
theorem dX9_meets_88 : decode cX9_meets 88 = .ok (.invokevirtual 220, 3) := by decide +kernel
theorem dX9_meets_91 : decode cX9_meets 91 = .ok (.ifCond .ge 8, 3) := by decide +kernel
theorem dX9_meets_94 : decode cX9_meets 94 = .ok (.bipush (-5), 2) := by decide +kernel
theorem dX9_meets_96 : decode cX9_meets 96 = .ok (.goto 10, 3) := by decide +kernel
theorem dX9_meets_99 : decode cX9_meets 99 = .ok (.aload_n 0, 1) := by decide +kernel
theorem dX9_meets_100 : decode cX9_meets 100 = .ok (.iload_n 1, 1) := by decide +kernel
theorem dX9_meets_101 : decode cX9_meets 101 = .ok (.iload_n 2, 1) := by decide +kernel
theorem dX9_meets_102 : decode cX9_meets 102 = .ok (.iload_n 3, 1) := by decide +kernel
theorem dX9_meets_103 : decode cX9_meets 103 = .ok (.invokevirtual 220, 3) := by decide +kernel
theorem dX9_meets_106 : decode cX9_meets 106 = .ok (.ireturn, 1) := by decide +kernel
set_option maxRecDepth 20000 in
theorem ggX9_keeper_X9_keepsOut : GoodIn wsX9_keeper wsX9_keepsOut := goodIn_r _ [7, 8, 9, 10, 11, 6, 12, 13, 14, 15, 16, 17, 18, 19, 20, 21, 22, 23, 24, 25, 26, 27, 28, 29, 30, 31, 32, 33, 34, 35, 36, 37, 38, 39, 40, 41, 42, 43, 44, 45, 46, 47, 48, 49, 50, 51, 52, 53, 54, 55, 56, 57, 58, 59, 60, 61, 62, 63, 64, 65, 66, 67, 68, 69, 70, 71, 72, 73, 74, 75, 76, 77, 78, 79, 80, 81, 82, 83, 84, 85, 86, 87, 88] (by decide +kernel) (by decide +kernel)
set_option maxRecDepth 20000 in
theorem gX9_keeper_X9_keepsOut : GoodIn wsX9_keeper (wsV RX9 217 RX9 yX9_keepsOut wsX9_keepsOut) := goodIn_app (goodIn_of _ (by decide +kernel)) ggX9_keeper_X9_keepsOut
theorem dX9_keeper_0 : decode cX9_keeper 0 = .ok (.iconst 0, 1) := by decide +kernel
theorem dX9_keeper_1 : decode cX9_keeper 1 = .ok (.istore 4, 2) := by decide +kernel
theorem dX9_keeper_3 : decode cX9_keeper 3 = .ok (.iload 4, 2) := by decide +kernel
theorem dX9_keeper_5 : decode cX9_keeper 5 = .ok (.aload_n 0, 1) := by decide +kernel
theorem dX9_keeper_6 : decode cX9_keeper 6 = .ok (.getfield 38, 3) := by decide +kernel
theorem dX9_keeper_9 : decode cX9_keeper 9 = .ok (.if_icmp .ge 34, 3) := by decide +kernel
theorem dX9_keeper_12 : decode cX9_keeper 12 = .ok (.aload_n 0, 1) := by decide +kernel
theorem dX9_keeper_13 : decode cX9_keeper 13 = .ok (.getfield 50, 3) := by decide +kernel
theorem dX9_keeper_16 : decode cX9_keeper 16 = .ok (.iload 4, 2) := by decide +kernel
theorem dX9_keeper_18 : decode cX9_keeper 18 = .ok (.iaload, 1) := by decide +kernel
theorem dX9_keeper_19 : decode cX9_keeper 19 = .ok (.iload_n 3, 1) := by decide +kernel
theorem dX9_keeper_20 : decode cX9_keeper 20 = .ok (.if_icmp .ne 17, 3) := by decide +kernel
theorem dX9_keeper_23 : decode cX9_keeper 23 = .ok (.aload_n 0, 1) := by decide +kernel
theorem dX9_keeper_24 : decode cX9_keeper 24 = .ok (.iload 4, 2) := by decide +kernel
theorem dX9_keeper_26 : decode cX9_keeper 26 = .ok (.iload_n 1, 1) := by decide +kernel
theorem dX9_keeper_27 : decode cX9_keeper 27 = .ok (.iload_n 2, 1) := by decide +kernel
theorem dX9_keeper_28 : decode cX9_keeper 28 = .ok (.invokevirtual 217, 3) := by decide +kernel
theorem dX9_keeper_31 : decode cX9_keeper 31 = .ok (.ifCond .eq 6, 3) := by decide +kernel
theorem dX9_keeper_34 : decode cX9_keeper 34 = .ok (.iload 4, 2) := by decide +kernel
theorem dX9_keeper_36 : decode cX9_keeper 36 = .ok (.ireturn, 1) := by decide +kernel
theorem dX9_keeper_37 : decode cX9_keeper 37 = .ok (.iinc 4 1, 3) := by decide +kernel
theorem dX9_keeper_40 : decode cX9_keeper 40 = .ok (.goto (-37), 3) := by decide +kernel
theorem dX9_keeper_43 : decode cX9_keeper 43 = .ok (.iconst (-1), 1) := by decide +kernel
theorem dX9_keeper_44 : decode cX9_keeper 44 = .ok (.ireturn, 1) := by decide +kernel
set_option maxRecDepth 20000 in
theorem ggX9_arePartsHeard_X9_has : GoodIn wsX9_arePartsHeard wsX9_has := goodIn_r _ [8] (by decide +kernel) (by decide +kernel)
set_option maxRecDepth 20000 in
theorem gX9_arePartsHeard_X9_has : GoodIn wsX9_arePartsHeard (wsV RX9 189 RX9 yX9_has wsX9_has) := goodIn_app (goodIn_of _ (by decide +kernel)) ggX9_arePartsHeard_X9_has
theorem dX9_arePartsHeard_0 : decode cX9_arePartsHeard 0 = .ok (.iconst 0, 1) := by decide +kernel
theorem dX9_arePartsHeard_1 : decode cX9_arePartsHeard 1 = .ok (.istore_n 3, 1) := by decide +kernel
theorem dX9_arePartsHeard_2 : decode cX9_arePartsHeard 2 = .ok (.iload_n 3, 1) := by decide +kernel
theorem dX9_arePartsHeard_3 : decode cX9_arePartsHeard 3 = .ok (.aload_n 0, 1) := by decide +kernel
theorem dX9_arePartsHeard_4 : decode cX9_arePartsHeard 4 = .ok (.getfield 32, 3) := by decide +kernel
theorem dX9_arePartsHeard_7 : decode cX9_arePartsHeard 7 = .ok (.iload_n 1, 1) := by decide +kernel
theorem dX9_arePartsHeard_8 : decode cX9_arePartsHeard 8 = .ok (.iaload, 1) := by decide +kernel
theorem dX9_arePartsHeard_9 : decode cX9_arePartsHeard 9 = .ok (.if_icmp .ge 38, 3) := by decide +kernel
theorem dX9_arePartsHeard_12 : decode cX9_arePartsHeard 12 = .ok (.aload_n 0, 1) := by decide +kernel
theorem dX9_arePartsHeard_13 : decode cX9_arePartsHeard 13 = .ok (.iload_n 2, 1) := by decide +kernel
theorem dX9_arePartsHeard_14 : decode cX9_arePartsHeard 14 = .ok (.iload_n 3, 1) := by decide +kernel
theorem dX9_arePartsHeard_15 : decode cX9_arePartsHeard 15 = .ok (.invokevirtual 189, 3) := by decide +kernel
theorem dX9_arePartsHeard_18 : decode cX9_arePartsHeard 18 = .ok (.ifCond .ne 23, 3) := by decide +kernel
theorem dX9_arePartsHeard_21 : decode cX9_arePartsHeard 21 = .ok (.aload_n 0, 1) := by decide +kernel
theorem dX9_arePartsHeard_22 : decode cX9_arePartsHeard 22 = .ok (.getfield 99, 3) := by decide +kernel
theorem dX9_arePartsHeard_25 : decode cX9_arePartsHeard 25 = .ok (.aload_n 0, 1) := by decide +kernel
theorem dX9_arePartsHeard_26 : decode cX9_arePartsHeard 26 = .ok (.getfield 35, 3) := by decide +kernel
theorem dX9_arePartsHeard_29 : decode cX9_arePartsHeard 29 = .ok (.iconst 4, 1) := by decide +kernel
theorem dX9_arePartsHeard_30 : decode cX9_arePartsHeard 30 = .ok (.iload_n 1, 1) := by decide +kernel
theorem dX9_arePartsHeard_31 : decode cX9_arePartsHeard 31 = .ok (.imul, 1) := by decide +kernel
theorem dX9_arePartsHeard_32 : decode cX9_arePartsHeard 32 = .ok (.iload_n 3, 1) := by decide +kernel
theorem dX9_arePartsHeard_33 : decode cX9_arePartsHeard 33 = .ok (.iadd, 1) := by decide +kernel
theorem dX9_arePartsHeard_34 : decode cX9_arePartsHeard 34 = .ok (.iaload, 1) := by decide +kernel
theorem dX9_arePartsHeard_35 : decode cX9_arePartsHeard 35 = .ok (.baload, 1) := by decide +kernel
theorem dX9_arePartsHeard_36 : decode cX9_arePartsHeard 36 = .ok (.ifCond .ne 5, 3) := by decide +kernel
theorem dX9_arePartsHeard_39 : decode cX9_arePartsHeard 39 = .ok (.iconst 0, 1) := by decide +kernel
theorem dX9_arePartsHeard_40 : decode cX9_arePartsHeard 40 = .ok (.ireturn, 1) := by decide +kernel
theorem dX9_arePartsHeard_41 : decode cX9_arePartsHeard 41 = .ok (.iinc 3 1, 3) := by decide +kernel
theorem dX9_arePartsHeard_44 : decode cX9_arePartsHeard 44 = .ok (.goto (-42), 3) := by decide +kernel
theorem dX9_arePartsHeard_47 : decode cX9_arePartsHeard 47 = .ok (.iconst 1, 1) := by decide +kernel
theorem dX9_arePartsHeard_48 : decode cX9_arePartsHeard 48 = .ok (.ireturn, 1) := by decide +kernel
set_option maxRecDepth 20000 in
theorem ggX9_findHeard_X9_arePartsHeard : GoodIn wsX9_findHeard wsX9_arePartsHeard := goodIn_r _ [7, 8, 1, 9, 10, 11, 12, 6, 13, 61, 62, 63, 64, 65, 66, 67, 68, 69, 70, 71, 72, 73, 74, 75, 76, 77, 78, 79, 80, 81, 82, 83, 84, 85, 86, 87, 88, 89, 90, 91, 92, 93, 94, 95, 96, 97, 98, 99, 100] (by decide +kernel) (by decide +kernel)
set_option maxRecDepth 20000 in
theorem gX9_findHeard_X9_arePartsHeard : GoodIn wsX9_findHeard (wsV RX9 224 RX9 yX9_arePartsHeard wsX9_arePartsHeard) := goodIn_app (goodIn_of _ (by decide +kernel)) ggX9_findHeard_X9_arePartsHeard
set_option maxRecDepth 20000 in
theorem ggX9_findHeard_X9_keeper : GoodIn wsX9_findHeard wsX9_keeper := goodIn_r _ [17, 18, 19, 20, 21, 22, 6, 23, 24, 25, 26, 27, 28, 29, 30, 31, 32, 33, 34, 35, 36, 37, 38, 39, 40, 41, 42, 43, 44, 45, 46, 47, 48, 49, 50, 51, 52, 53, 54, 55, 10, 11, 12, 13, 56, 57, 58, 59, 60, 61, 62, 63, 64, 65, 66, 67, 68, 69, 70, 71, 72, 73, 74, 75, 76, 77, 78, 79, 80, 81, 82, 83, 84, 85, 86, 87, 88, 89, 90, 91, 92, 93, 94, 95, 96, 97, 98, 99, 100] (by decide +kernel) (by decide +kernel)
set_option maxRecDepth 20000 in
theorem gX9_findHeard_X9_keeper : GoodIn wsX9_findHeard (wsV RX9 227 RX9 yX9_keeper wsX9_keeper) := goodIn_app (goodIn_of _ (by decide +kernel)) ggX9_findHeard_X9_keeper
theorem dX9_findHeard_0 : decode cX9_findHeard 0 = .ok (.iconst 0, 1) := by decide +kernel
theorem dX9_findHeard_1 : decode cX9_findHeard 1 = .ok (.istore_n 3, 1) := by decide +kernel
theorem dX9_findHeard_2 : decode cX9_findHeard 2 = .ok (.iload_n 3, 1) := by decide +kernel
theorem dX9_findHeard_3 : decode cX9_findHeard 3 = .ok (.iload_n 1, 1) := by decide +kernel
theorem dX9_findHeard_4 : decode cX9_findHeard 4 = .ok (.if_icmp .ge 47, 3) := by decide +kernel
theorem dX9_findHeard_7 : decode cX9_findHeard 7 = .ok (.aload_n 0, 1) := by decide +kernel
theorem dX9_findHeard_8 : decode cX9_findHeard 8 = .ok (.getfield 99, 3) := by decide +kernel
theorem dX9_findHeard_11 : decode cX9_findHeard 11 = .ok (.iload_n 3, 1) := by decide +kernel
theorem dX9_findHeard_12 : decode cX9_findHeard 12 = .ok (.iload_n 3, 1) := by decide +kernel
theorem dX9_findHeard_13 : decode cX9_findHeard 13 = .ok (.aload_n 0, 1) := by decide +kernel
theorem dX9_findHeard_14 : decode cX9_findHeard 14 = .ok (.getfield 89, 3) := by decide +kernel
theorem dX9_findHeard_17 : decode cX9_findHeard 17 = .ok (.if_icmp .eq 26, 3) := by decide +kernel
theorem dX9_findHeard_20 : decode cX9_findHeard 20 = .ok (.aload_n 0, 1) := by decide +kernel
theorem dX9_findHeard_21 : decode cX9_findHeard 21 = .ok (.iload_n 3, 1) := by decide +kernel
theorem dX9_findHeard_22 : decode cX9_findHeard 22 = .ok (.iconst 0, 1) := by decide +kernel
theorem dX9_findHeard_23 : decode cX9_findHeard 23 = .ok (.invokevirtual 224, 3) := by decide +kernel
theorem dX9_findHeard_26 : decode cX9_findHeard 26 = .ok (.ifCond .eq 17, 3) := by decide +kernel
theorem dX9_findHeard_29 : decode cX9_findHeard 29 = .ok (.aload_n 0, 1) := by decide +kernel
theorem dX9_findHeard_30 : decode cX9_findHeard 30 = .ok (.iload_n 3, 1) := by decide +kernel
theorem dX9_findHeard_31 : decode cX9_findHeard 31 = .ok (.iconst 0, 1) := by decide +kernel
theorem dX9_findHeard_32 : decode cX9_findHeard 32 = .ok (.iload_n 2, 1) := by decide +kernel
theorem dX9_findHeard_33 : decode cX9_findHeard 33 = .ok (.invokevirtual 227, 3) := by decide +kernel
theorem dX9_findHeard_36 : decode cX9_findHeard 36 = .ok (.ifCond .ge 7, 3) := by decide +kernel
theorem dX9_findHeard_39 : decode cX9_findHeard 39 = .ok (.iconst 1, 1) := by decide +kernel
theorem dX9_findHeard_40 : decode cX9_findHeard 40 = .ok (.goto 4, 3) := by decide +kernel
theorem dX9_findHeard_43 : decode cX9_findHeard 43 = .ok (.iconst 0, 1) := by decide +kernel
theorem dX9_findHeard_44 : decode cX9_findHeard 44 = .ok (.bastore, 1) := by decide +kernel
theorem dX9_findHeard_45 : decode cX9_findHeard 45 = .ok (.iinc 3 1, 3) := by decide +kernel
theorem dX9_findHeard_48 : decode cX9_findHeard 48 = .ok (.goto (-46), 3) := by decide +kernel
theorem dX9_findHeard_51 : decode cX9_findHeard 51 = .ok (.return_, 1) := by decide +kernel
set_option maxRecDepth 20000 in
theorem ggX9_isHeard_X9_keeper : GoodIn wsX9_isHeard wsX9_keeper := goodIn_r _ [5, 6, 7, 8, 9, 10, 4, 11, 12, 13, 14, 15, 16, 17, 18, 19, 20, 21, 22, 23, 24, 25, 26, 27, 28, 29, 30, 31, 32, 33, 34, 35, 36, 37, 38, 39, 40, 41, 42, 43, 44, 45, 46, 47, 48, 49, 50, 51, 52, 65, 66, 67, 68, 69, 70, 71, 72, 73, 74, 75, 76, 77, 78, 79, 80, 81, 82, 83, 84, 85, 86, 87, 88, 89, 90, 91, 92, 93, 94, 95, 96, 97, 98, 99, 100, 101, 102, 103, 104] (by decide +kernel) (by decide +kernel)
set_option maxRecDepth 20000 in
theorem gX9_isHeard_X9_keeper : GoodIn wsX9_isHeard (wsV RX9 227 RX9 yX9_keeper wsX9_keeper) := goodIn_app (goodIn_of _ (by decide +kernel)) ggX9_isHeard_X9_keeper
set_option maxRecDepth 20000 in
theorem ggX9_isHeard_X9_findHeard : GoodIn wsX9_isHeard wsX9_findHeard := goodIn_r _ [56, 57, 58, 59, 60, 61, 4, 62, 63, 64, 44, 45, 46, 47, 1, 2, 3, 5, 6, 7, 8, 9, 10, 11, 12, 13, 14, 15, 16, 17, 18, 19, 20, 21, 22, 23, 24, 25, 26, 27, 28, 29, 30, 31, 32, 33, 34, 35, 36, 37, 38, 39, 40, 41, 42, 43, 48, 49, 50, 51, 52, 65, 66, 67, 68, 69, 70, 71, 72, 73, 74, 75, 76, 77, 78, 79, 80, 81, 82, 83, 84, 85, 86, 87, 88, 89, 90, 91, 92, 93, 94, 95, 96, 97, 98, 99, 100, 101, 102, 103, 104] (by decide +kernel) (by decide +kernel)
set_option maxRecDepth 20000 in
theorem gX9_isHeard_X9_findHeard : GoodIn wsX9_isHeard (wsV RX9 230 RX9 yX9_findHeard wsX9_findHeard) := goodIn_app (goodIn_of _ (by decide +kernel)) ggX9_isHeard_X9_findHeard
set_option maxRecDepth 20000 in
theorem ggX9_isHeard_X9_arePartsHeard : GoodIn wsX9_isHeard wsX9_arePartsHeard := goodIn_r _ [62, 63, 57, 64, 44, 45, 46, 4, 47, 65, 66, 67, 68, 69, 70, 71, 72, 73, 74, 75, 76, 77, 78, 79, 80, 81, 82, 83, 84, 85, 86, 87, 88, 89, 90, 91, 92, 93, 94, 95, 96, 97, 98, 99, 100, 101, 102, 103, 104] (by decide +kernel) (by decide +kernel)
set_option maxRecDepth 20000 in
theorem gX9_isHeard_X9_arePartsHeard : GoodIn wsX9_isHeard (wsV RX9 224 RX9 yX9_arePartsHeard wsX9_arePartsHeard) := goodIn_app (goodIn_of _ (by decide +kernel)) ggX9_isHeard_X9_arePartsHeard
theorem dX9_isHeard_0 : decode cX9_isHeard 0 = .ok (.aload_n 0, 1) := by decide +kernel
theorem dX9_isHeard_1 : decode cX9_isHeard 1 = .ok (.iload_n 1, 1) := by decide +kernel
theorem dX9_isHeard_2 : decode cX9_isHeard 2 = .ok (.iload_n 2, 1) := by decide +kernel
theorem dX9_isHeard_3 : decode cX9_isHeard 3 = .ok (.iload_n 3, 1) := by decide +kernel
theorem dX9_isHeard_4 : decode cX9_isHeard 4 = .ok (.invokevirtual 227, 3) := by decide +kernel
theorem dX9_isHeard_7 : decode cX9_isHeard 7 = .ok (.ifCond .lt 5, 3) := by decide +kernel
theorem dX9_isHeard_10 : decode cX9_isHeard 10 = .ok (.iconst 0, 1) := by decide +kernel
theorem dX9_isHeard_11 : decode cX9_isHeard 11 = .ok (.ireturn, 1) := by decide +kernel
theorem dX9_isHeard_12 : decode cX9_isHeard 12 = .ok (.iload_n 2, 1) := by decide +kernel
theorem dX9_isHeard_13 : decode cX9_isHeard 13 = .ok (.iconst 1, 1) := by decide +kernel
theorem dX9_isHeard_14 : decode cX9_isHeard 14 = .ok (.if_icmp .ne 5, 3) := by decide +kernel
theorem dX9_isHeard_17 : decode cX9_isHeard 17 = .ok (.iconst 1, 1) := by decide +kernel
theorem dX9_isHeard_18 : decode cX9_isHeard 18 = .ok (.ireturn, 1) := by decide +kernel
theorem dX9_isHeard_19 : decode cX9_isHeard 19 = .ok (.aload_n 0, 1) := by decide +kernel
theorem dX9_isHeard_20 : decode cX9_isHeard 20 = .ok (.iload_n 1, 1) := by decide +kernel
theorem dX9_isHeard_21 : decode cX9_isHeard 21 = .ok (.iload_n 3, 1) := by decide +kernel
theorem dX9_isHeard_22 : decode cX9_isHeard 22 = .ok (.invokevirtual 230, 3) := by decide +kernel
theorem dX9_isHeard_25 : decode cX9_isHeard 25 = .ok (.aload_n 0, 1) := by decide +kernel
theorem dX9_isHeard_26 : decode cX9_isHeard 26 = .ok (.iload_n 1, 1) := by decide +kernel
theorem dX9_isHeard_27 : decode cX9_isHeard 27 = .ok (.iconst 0, 1) := by decide +kernel
theorem dX9_isHeard_28 : decode cX9_isHeard 28 = .ok (.invokevirtual 224, 3) := by decide +kernel
theorem dX9_isHeard_31 : decode cX9_isHeard 31 = .ok (.ireturn, 1) := by decide +kernel
set_option maxRecDepth 20000 in
theorem ggX9_isLayer_X9_isWord : GoodIn wsX9_isLayer wsX9_isWord := goodIn_r _ [5, 6, 7, 8, 9, 4, 10, 19, 20, 21, 22, 23, 24, 25, 26, 27, 28, 29, 30, 31, 32, 33, 34, 35, 36, 37, 38, 39, 40, 41, 42, 43, 44, 45, 46, 47, 48, 49, 50, 51, 52, 53, 54, 55, 56, 57, 58] (by decide +kernel) (by decide +kernel)
set_option maxRecDepth 20000 in
theorem gX9_isLayer_X9_isWord : GoodIn wsX9_isLayer (wsV RX9 137 RX9 yX9_isWord wsX9_isWord) := goodIn_app (goodIn_of _ (by decide +kernel)) ggX9_isLayer_X9_isWord
set_option maxRecDepth 20000 in
theorem ggX9_isLayer_X9_isEnd : GoodIn wsX9_isLayer wsX9_isEnd := goodIn_r _ [14, 7, 8, 9, 4, 10] (by decide +kernel) (by decide +kernel)
set_option maxRecDepth 20000 in
theorem gX9_isLayer_X9_isEnd : GoodIn wsX9_isLayer (wsV RX9 208 RX9 yX9_isEnd wsX9_isEnd) := goodIn_app (goodIn_of _ (by decide +kernel)) ggX9_isLayer_X9_isEnd
set_option maxRecDepth 20000 in
theorem ggX9_isLayer_X9_isLand : GoodIn wsX9_isLayer wsX9_isLand := goodIn_r _ [18, 7, 8, 9, 4, 10] (by decide +kernel) (by decide +kernel)
set_option maxRecDepth 20000 in
theorem gX9_isLayer_X9_isLand : GoodIn wsX9_isLayer (wsV RX9 177 RX9 yX9_isLand wsX9_isLand) := goodIn_app (goodIn_of _ (by decide +kernel)) ggX9_isLayer_X9_isLand
theorem dX9_isLayer_0 : decode cX9_isLayer 0 = .ok (.aload_n 0, 1) := by decide +kernel
theorem dX9_isLayer_1 : decode cX9_isLayer 1 = .ok (.iload_n 1, 1) := by decide +kernel
theorem dX9_isLayer_2 : decode cX9_isLayer 2 = .ok (.invokevirtual 137, 3) := by decide +kernel
theorem dX9_isLayer_5 : decode cX9_isLayer 5 = .ok (.ifCond .eq 23, 3) := by decide +kernel
theorem dX9_isLayer_8 : decode cX9_isLayer 8 = .ok (.aload_n 0, 1) := by decide +kernel
theorem dX9_isLayer_9 : decode cX9_isLayer 9 = .ok (.iload_n 2, 1) := by decide +kernel
theorem dX9_isLayer_10 : decode cX9_isLayer 10 = .ok (.invokevirtual 208, 3) := by decide +kernel
theorem dX9_isLayer_13 : decode cX9_isLayer 13 = .ok (.ifCond .eq 15, 3) := by decide +kernel
theorem dX9_isLayer_16 : decode cX9_isLayer 16 = .ok (.aload_n 0, 1) := by decide +kernel
theorem dX9_isLayer_17 : decode cX9_isLayer 17 = .ok (.iload_n 3, 1) := by decide +kernel
theorem dX9_isLayer_18 : decode cX9_isLayer 18 = .ok (.invokevirtual 177, 3) := by decide +kernel
theorem dX9_isLayer_21 : decode cX9_isLayer 21 = .ok (.ifCond .eq 7, 3) := by decide +kernel
theorem dX9_isLayer_24 : decode cX9_isLayer 24 = .ok (.iconst 1, 1) := by decide +kernel
theorem dX9_isLayer_25 : decode cX9_isLayer 25 = .ok (.goto 4, 3) := by decide +kernel
theorem dX9_isLayer_28 : decode cX9_isLayer 28 = .ok (.iconst 0, 1) := by decide +kernel
theorem dX9_isLayer_29 : decode cX9_isLayer 29 = .ok (.ireturn, 1) := by decide +kernel
set_option maxRecDepth 20000 in
theorem ggX9_heard_X9_isLayer : GoodIn wsX9_heard wsX9_isLayer := goodIn_r _ [5, 6, 7, 8, 4, 9, 10, 11, 12, 13, 14, 15, 16, 17, 18, 19, 20, 21, 22, 96, 97, 98, 99, 100, 101, 102, 103, 104, 105, 106, 107, 108, 109, 110, 111, 112, 113, 114, 115, 116, 117, 118, 119, 120, 121, 122, 123, 124, 125, 126, 127, 128, 129, 130, 131, 132, 133, 134, 135] (by decide +kernel) (by decide +kernel)
set_option maxRecDepth 20000 in
theorem gX9_heard_X9_isLayer : GoodIn wsX9_heard (wsV RX9 234 RX9 yX9_isLayer wsX9_isLayer) := goodIn_app (goodIn_of _ (by decide +kernel)) ggX9_heard_X9_isLayer
set_option maxRecDepth 20000 in
theorem ggX9_heard_X9_asItIs : GoodIn wsX9_heard wsX9_asItIs := goodIn_r _ [26, 27, 28, 29, 30, 31, 32, 96, 97, 98, 99, 100, 101, 102, 103, 104, 105, 106, 107, 108, 109, 110, 111, 112, 113, 114, 115, 116, 117, 118, 119, 120, 121, 122, 123, 124, 125, 126, 127, 128, 129, 130, 131, 132, 133, 134, 135] (by decide +kernel) (by decide +kernel)
set_option maxRecDepth 20000 in
theorem gX9_heard_X9_asItIs : GoodIn wsX9_heard (wsV RX9 211 RX9 yX9_asItIs wsX9_asItIs) := goodIn_app (goodIn_of _ (by decide +kernel)) ggX9_heard_X9_asItIs
set_option maxRecDepth 20000 in
theorem ggX9_heard_X9_isHeard : GoodIn wsX9_heard wsX9_isHeard := goodIn_r _ [36, 37, 38, 39, 4, 40, 41, 42, 43, 44, 45, 46, 30, 47, 48, 49, 50, 51, 52, 53, 54, 55, 56, 57, 58, 59, 60, 61, 62, 63, 64, 65, 32, 66, 67, 28, 68, 69, 70, 71, 72, 73, 74, 75, 76, 77, 78, 79, 80, 81, 82, 83, 84, 85, 86, 87, 88, 89, 31, 90, 91, 92, 93, 94, 95, 96, 97, 98, 99, 100, 101, 102, 103, 104, 105, 106, 107, 108, 109, 110, 111, 112, 113, 114, 115, 116, 117, 118, 119, 120, 121, 122, 123, 124, 125, 126, 127, 128, 129, 130, 131, 132, 133, 134, 135] (by decide +kernel) (by decide +kernel)
set_option maxRecDepth 20000 in
theorem gX9_heard_X9_isHeard : GoodIn wsX9_heard (wsV RX9 237 RX9 yX9_isHeard wsX9_isHeard) := goodIn_app (goodIn_of _ (by decide +kernel)) ggX9_heard_X9_isHeard
theorem dX9_heard_0 : decode cX9_heard 0 = .ok (.aload_n 0, 1) := by decide +kernel
theorem dX9_heard_1 : decode cX9_heard 1 = .ok (.iload_n 1, 1) := by decide +kernel
theorem dX9_heard_2 : decode cX9_heard 2 = .ok (.iload_n 2, 1) := by decide +kernel
theorem dX9_heard_3 : decode cX9_heard 3 = .ok (.iload_n 3, 1) := by decide +kernel
theorem dX9_heard_4 : decode cX9_heard 4 = .ok (.invokevirtual 234, 3) := by decide +kernel
theorem dX9_heard_7 : decode cX9_heard 7 = .ok (.ifCond .ne 5, 3) := by decide +kernel
theorem dX9_heard_10 : decode cX9_heard 10 = .ok (.iconst (-1), 1) := by decide +kernel
theorem dX9_heard_11 : decode cX9_heard 11 = .ok (.ireturn, 1) := by decide +kernel
theorem dX9_heard_12 : decode cX9_heard 12 = .ok (.aload_n 0, 1) := by decide +kernel
theorem dX9_heard_13 : decode cX9_heard 13 = .ok (.invokevirtual 211, 3) := by decide +kernel
theorem dX9_heard_16 : decode cX9_heard 16 = .ok (.aload_n 0, 1) := by decide +kernel
theorem dX9_heard_17 : decode cX9_heard 17 = .ok (.iload_n 1, 1) := by decide +kernel
theorem dX9_heard_18 : decode cX9_heard 18 = .ok (.iload_n 2, 1) := by decide +kernel
theorem dX9_heard_19 : decode cX9_heard 19 = .ok (.iload_n 3, 1) := by decide +kernel
theorem dX9_heard_20 : decode cX9_heard 20 = .ok (.invokevirtual 237, 3) := by decide +kernel
theorem dX9_heard_23 : decode cX9_heard 23 = .ok (.ifCond .eq 7, 3) := by decide +kernel
theorem dX9_heard_26 : decode cX9_heard 26 = .ok (.iconst 1, 1) := by decide +kernel
theorem dX9_heard_27 : decode cX9_heard 27 = .ok (.goto 4, 3) := by decide +kernel
theorem dX9_heard_30 : decode cX9_heard 30 = .ok (.iconst 0, 1) := by decide +kernel
theorem dX9_heard_31 : decode cX9_heard 31 = .ok (.ireturn, 1) := by decide +kernel
set_option maxRecDepth 20000 in
theorem ggX9_why_X9_isLayer : GoodIn wsX9_why wsX9_isLayer := goodIn_r _ [9, 10, 11, 12, 8, 13, 1, 14, 15, 16, 17, 18, 19, 20, 21, 22, 23, 24, 25, 92, 93, 94, 95, 96, 97, 98, 99, 100, 101, 102, 103, 104, 105, 106, 107, 108, 109, 110, 111, 112, 113, 114, 115, 116, 117, 118, 119, 120, 121, 122, 123, 124, 125, 126, 127, 128, 129, 130, 131] (by decide +kernel) (by decide +kernel)
set_option maxRecDepth 20000 in
theorem gX9_why_X9_isLayer : GoodIn wsX9_why (wsV RX9 234 RX9 yX9_isLayer wsX9_isLayer) := goodIn_app (goodIn_of _ (by decide +kernel)) ggX9_why_X9_isLayer
set_option maxRecDepth 20000 in
theorem ggX9_why_X9_asItIs : GoodIn wsX9_why wsX9_asItIs := goodIn_r _ [29, 30, 31, 32, 33, 34, 35, 92, 93, 94, 95, 96, 97, 98, 99, 100, 101, 102, 103, 104, 105, 106, 107, 108, 109, 110, 111, 112, 113, 114, 115, 116, 117, 118, 119, 120, 121, 122, 123, 124, 125, 126, 127, 128, 129, 130, 131] (by decide +kernel) (by decide +kernel)
set_option maxRecDepth 20000 in
theorem gX9_why_X9_asItIs : GoodIn wsX9_why (wsV RX9 211 RX9 yX9_asItIs wsX9_asItIs) := goodIn_app (goodIn_of _ (by decide +kernel)) ggX9_why_X9_asItIs
set_option maxRecDepth 20000 in
theorem ggX9_why_X9_findHeard : GoodIn wsX9_why wsX9_findHeard := goodIn_r _ [39, 3, 34, 40, 41, 42, 8, 43, 2, 4, 44, 45, 46, 47, 48, 49, 50, 51, 52, 53, 54, 55, 56, 57, 33, 58, 59, 60, 61, 62, 63, 64, 65, 66, 67, 68, 69, 70, 71, 72, 73, 74, 75, 76, 35, 77, 78, 31, 79, 80, 81, 82, 83, 84, 85, 86, 87, 88, 89, 90, 91, 92, 93, 94, 95, 96, 97, 98, 99, 100, 101, 102, 103, 104, 105, 106, 107, 108, 109, 110, 111, 112, 113, 114, 115, 116, 117, 118, 119, 120, 121, 122, 123, 124, 125, 126, 127, 128, 129, 130, 131] (by decide +kernel) (by decide +kernel)
set_option maxRecDepth 20000 in
theorem gX9_why_X9_findHeard : GoodIn wsX9_why (wsV RX9 230 RX9 yX9_findHeard wsX9_findHeard) := goodIn_app (goodIn_of _ (by decide +kernel)) ggX9_why_X9_findHeard
set_option maxRecDepth 20000 in
theorem ggX9_why_X9_keeper : GoodIn wsX9_why wsX9_keeper := goodIn_r _ [51, 52, 53, 54, 55, 56, 8, 57, 33, 58, 59, 60, 61, 62, 63, 64, 65, 66, 67, 68, 69, 70, 71, 72, 73, 74, 75, 76, 35, 77, 78, 31, 79, 80, 81, 82, 83, 84, 85, 86, 44, 45, 46, 47, 87, 88, 89, 90, 91, 92, 93, 94, 95, 96, 97, 98, 99, 100, 101, 102, 103, 104, 105, 106, 107, 108, 109, 110, 111, 112, 113, 114, 115, 116, 117, 118, 119, 120, 121, 122, 123, 124, 125, 126, 127, 128, 129, 130, 131] (by decide +kernel) (by decide +kernel)
set_option maxRecDepth 20000 in
theorem gX9_why_X9_keeper : GoodIn wsX9_why (wsV RX9 227 RX9 yX9_keeper wsX9_keeper) := goodIn_app (goodIn_of _ (by decide +kernel)) ggX9_why_X9_keeper
theorem dX9_why_0 : decode cX9_why 0 = .ok (.aload_n 0, 1) := by decide +kernel
theorem dX9_why_1 : decode cX9_why 1 = .ok (.iload_n 1, 1) := by decide +kernel
theorem dX9_why_2 : decode cX9_why 2 = .ok (.iload_n 2, 1) := by decide +kernel
theorem dX9_why_3 : decode cX9_why 3 = .ok (.iload_n 3, 1) := by decide +kernel
theorem dX9_why_4 : decode cX9_why 4 = .ok (.invokevirtual 234, 3) := by decide +kernel
theorem dX9_why_7 : decode cX9_why 7 = .ok (.ifCond .ne 5, 3) := by decide +kernel
theorem dX9_why_10 : decode cX9_why 10 = .ok (.iconst (-1), 1) := by decide +kernel
theorem dX9_why_11 : decode cX9_why 11 = .ok (.ireturn, 1) := by decide +kernel
theorem dX9_why_12 : decode cX9_why 12 = .ok (.aload_n 0, 1) := by decide +kernel
theorem dX9_why_13 : decode cX9_why 13 = .ok (.invokevirtual 211, 3) := by decide +kernel
theorem dX9_why_16 : decode cX9_why 16 = .ok (.aload_n 0, 1) := by decide +kernel
theorem dX9_why_17 : decode cX9_why 17 = .ok (.aload_n 0, 1) := by decide +kernel
theorem dX9_why_18 : decode cX9_why 18 = .ok (.getfield 7, 3) := by decide +kernel
theorem dX9_why_21 : decode cX9_why 21 = .ok (.iload_n 3, 1) := by decide +kernel
theorem dX9_why_22 : decode cX9_why 22 = .ok (.invokevirtual 230, 3) := by decide +kernel
theorem dX9_why_25 : decode cX9_why 25 = .ok (.iload_n 1, 1) := by decide +kernel
theorem dX9_why_26 : decode cX9_why 26 = .ok (.istore 4, 2) := by decide +kernel
theorem dX9_why_28 : decode cX9_why 28 = .ok (.iload_n 2, 1) := by decide +kernel
theorem dX9_why_29 : decode cX9_why 29 = .ok (.istore 5, 2) := by decide +kernel
theorem dX9_why_31 : decode cX9_why 31 = .ok (.aload_n 0, 1) := by decide +kernel
theorem dX9_why_32 : decode cX9_why 32 = .ok (.iload 4, 2) := by decide +kernel
theorem dX9_why_34 : decode cX9_why 34 = .ok (.iload 5, 2) := by decide +kernel
theorem dX9_why_36 : decode cX9_why 36 = .ok (.iload_n 3, 1) := by decide +kernel
theorem dX9_why_37 : decode cX9_why 37 = .ok (.invokevirtual 227, 3) := by decide +kernel
theorem dX9_why_40 : decode cX9_why 40 = .ok (.istore 6, 2) := by decide +kernel
theorem dX9_why_42 : decode cX9_why 42 = .ok (.iload 6, 2) := by decide +kernel
theorem dX9_why_44 : decode cX9_why 44 = .ok (.ifCond .lt 12, 3) := by decide +kernel
theorem dX9_why_47 : decode cX9_why 47 = .ok (.bipush 100, 2) := by decide +kernel
theorem dX9_why_49 : decode cX9_why 49 = .ok (.iload 4, 2) := by decide +kernel
theorem dX9_why_51 : decode cX9_why 51 = .ok (.imul, 1) := by decide +kernel
theorem dX9_why_52 : decode cX9_why 52 = .ok (.iload 6, 2) := by decide +kernel
theorem dX9_why_54 : decode cX9_why 54 = .ok (.iadd, 1) := by decide +kernel
theorem dX9_why_55 : decode cX9_why 55 = .ok (.ireturn, 1) := by decide +kernel
theorem dX9_why_56 : decode cX9_why 56 = .ok (.iconst 0, 1) := by decide +kernel
theorem dX9_why_57 : decode cX9_why 57 = .ok (.istore 7, 2) := by decide +kernel
theorem dX9_why_59 : decode cX9_why 59 = .ok (.iload 7, 2) := by decide +kernel
theorem dX9_why_61 : decode cX9_why 61 = .ok (.aload_n 0, 1) := by decide +kernel
theorem dX9_why_62 : decode cX9_why 62 = .ok (.getfield 32, 3) := by decide +kernel
theorem dX9_why_65 : decode cX9_why 65 = .ok (.iload 4, 2) := by decide +kernel
theorem dX9_why_67 : decode cX9_why 67 = .ok (.iaload, 1) := by decide +kernel
theorem dX9_why_68 : decode cX9_why 68 = .ok (.if_icmp .ge 35, 3) := by decide +kernel
theorem dX9_why_71 : decode cX9_why 71 = .ok (.iload 5, 2) := by decide +kernel
theorem dX9_why_73 : decode cX9_why 73 = .ok (.iconst 1, 1) := by decide +kernel
theorem dX9_why_74 : decode cX9_why 74 = .ok (.if_icmp .eq 23, 3) := by decide +kernel
theorem dX9_why_77 : decode cX9_why 77 = .ok (.aload_n 0, 1) := by decide +kernel
theorem dX9_why_78 : decode cX9_why 78 = .ok (.getfield 99, 3) := by decide +kernel
theorem dX9_why_81 : decode cX9_why 81 = .ok (.aload_n 0, 1) := by decide +kernel
theorem dX9_why_82 : decode cX9_why 82 = .ok (.getfield 35, 3) := by decide +kernel
theorem dX9_why_85 : decode cX9_why 85 = .ok (.iconst 4, 1) := by decide +kernel
theorem dX9_why_86 : decode cX9_why 86 = .ok (.iload 4, 2) := by decide +kernel
theorem dX9_why_88 : decode cX9_why 88 = .ok (.imul, 1) := by decide +kernel
theorem dX9_why_89 : decode cX9_why 89 = .ok (.iload 7, 2) := by decide +kernel
theorem dX9_why_91 : decode cX9_why 91 = .ok (.iadd, 1) := by decide +kernel
theorem dX9_why_92 : decode cX9_why 92 = .ok (.iaload, 1) := by decide +kernel
theorem dX9_why_93 : decode cX9_why 93 = .ok (.baload, 1) := by decide +kernel
theorem dX9_why_94 : decode cX9_why 94 = .ok (.ifCond .eq 9, 3) := by decide +kernel
theorem dX9_why_97 : decode cX9_why 97 = .ok (.iinc 7 1, 3) := by decide +kernel
theorem dX9_why_100 : decode cX9_why 100 = .ok (.goto (-41), 3) := by decide +kernel
theorem dX9_why_103 : decode cX9_why 103 = .ok (.iload 7, 2) := by decide +kernel
theorem dX9_why_105 : decode cX9_why 105 = .ok (.aload_n 0, 1) := by decide +kernel
theorem dX9_why_106 : decode cX9_why 106 = .ok (.getfield 32, 3) := by decide +kernel
theorem dX9_why_109 : decode cX9_why 109 = .ok (.iload 4, 2) := by decide +kernel
theorem dX9_why_111 : decode cX9_why 111 = .ok (.iaload, 1) := by decide +kernel
theorem dX9_why_112 : decode cX9_why 112 = .ok (.if_icmp .ne 6, 3) := by decide +kernel
theorem dX9_why_115 : decode cX9_why 115 = .ok (.bipush (-5), 2) := by decide +kernel
theorem dX9_why_117 : decode cX9_why 117 = .ok (.ireturn, 1) := by decide +kernel
theorem dX9_why_118 : decode cX9_why 118 = .ok (.aload_n 0, 1) := by decide +kernel
theorem dX9_why_119 : decode cX9_why 119 = .ok (.getfield 35, 3) := by decide +kernel
theorem dX9_why_122 : decode cX9_why 122 = .ok (.iconst 4, 1) := by decide +kernel
theorem dX9_why_123 : decode cX9_why 123 = .ok (.iload 4, 2) := by decide +kernel
theorem dX9_why_125 : decode cX9_why 125 = .ok (.imul, 1) := by decide +kernel
theorem dX9_why_126 : decode cX9_why 126 = .ok (.iload 7, 2) := by decide +kernel
theorem dX9_why_128 : decode cX9_why 128 = .ok (.iadd, 1) := by decide +kernel
theorem dX9_why_129 : decode cX9_why 129 = .ok (.iaload, 1) := by decide +kernel
theorem dX9_why_130 : decode cX9_why 130 = .ok (.istore 4, 2) := by decide +kernel
theorem dX9_why_132 : decode cX9_why 132 = .ok (.iconst 0, 1) := by decide +kernel
theorem dX9_why_133 : decode cX9_why 133 = .ok (.istore 5, 2) := by decide +kernel
theorem dX9_why_135 : decode cX9_why 135 = .ok (.goto (-104), 3) := by decide +kernel
set_option maxRecDepth 20000 in
theorem ggX9_least_X9_isLayer : GoodIn wsX9_least wsX9_isLayer := goodIn_r _ [7, 8, 9, 10, 6, 11, 12, 13, 14, 15, 16, 17, 18, 19, 20, 21, 22, 23, 24, 100, 101, 102, 103, 104, 105, 106, 107, 108, 109, 110, 111, 112, 113, 114, 115, 116, 117, 118, 119, 120, 121, 122, 123, 124, 125, 126, 127, 128, 129, 130, 131, 132, 133, 134, 135, 136, 137, 138, 139] (by decide +kernel) (by decide +kernel)
set_option maxRecDepth 20000 in
theorem gX9_least_X9_isLayer : GoodIn wsX9_least (wsV RX9 234 RX9 yX9_isLayer wsX9_isLayer) := goodIn_app (goodIn_of _ (by decide +kernel)) ggX9_least_X9_isLayer
set_option maxRecDepth 20000 in
theorem ggX9_least_X9_in : GoodIn wsX9_least wsX9_in := goodIn_r _ [16] (by decide +kernel) (by decide +kernel)
set_option maxRecDepth 20000 in
theorem gX9_least_X9_in : GoodIn wsX9_least (wsV RX9 133 RX9 yX9_in wsX9_in) := goodIn_app (goodIn_of _ (by decide +kernel)) ggX9_least_X9_in
set_option maxRecDepth 20000 in
theorem ggX9_least_X9_asItIs : GoodIn wsX9_least wsX9_asItIs := goodIn_r _ [28, 1, 2, 29, 30, 31, 32, 100, 101, 102, 103, 104, 105, 106, 107, 108, 109, 110, 111, 112, 113, 114, 115, 116, 117, 118, 119, 120, 121, 122, 123, 124, 125, 126, 127, 128, 129, 130, 131, 132, 133, 134, 135, 136, 137, 138, 139] (by decide +kernel) (by decide +kernel)
set_option maxRecDepth 20000 in
theorem gX9_least_X9_asItIs : GoodIn wsX9_least (wsV RX9 211 RX9 yX9_asItIs wsX9_asItIs) := goodIn_app (goodIn_of _ (by decide +kernel)) ggX9_least_X9_asItIs
set_option maxRecDepth 20000 in
theorem ggX9_least_X9_ones : GoodIn wsX9_least wsX9_ones := goodIn_r _ [36] (by decide +kernel) (by decide +kernel)
set_option maxRecDepth 20000 in
theorem gX9_least_X9_ones : GoodIn wsX9_least (wsV RX9 240 RX9 yX9_ones wsX9_ones) := goodIn_app (goodIn_of _ (by decide +kernel)) ggX9_least_X9_ones
set_option maxRecDepth 20000 in
theorem ggX9_least_X9_isHeard : GoodIn wsX9_least wsX9_isHeard := goodIn_r _ [40, 41, 42, 43, 6, 44, 45, 46, 47, 48, 49, 50, 30, 51, 52, 53, 54, 55, 56, 57, 58, 59, 60, 61, 62, 63, 64, 65, 66, 67, 68, 69, 32, 70, 71, 2, 72, 73, 74, 75, 76, 77, 78, 79, 80, 81, 82, 83, 84, 85, 86, 87, 88, 89, 90, 91, 92, 93, 31, 94, 95, 96, 97, 98, 99, 100, 101, 102, 103, 104, 105, 106, 107, 108, 109, 110, 111, 112, 113, 114, 115, 116, 117, 118, 119, 120, 121, 122, 123, 124, 125, 126, 127, 128, 129, 130, 131, 132, 133, 134, 135, 136, 137, 138, 139] (by decide +kernel) (by decide +kernel)
set_option maxRecDepth 20000 in
theorem gX9_least_X9_isHeard : GoodIn wsX9_least (wsV RX9 237 RX9 yX9_isHeard wsX9_isHeard) := goodIn_app (goodIn_of _ (by decide +kernel)) ggX9_least_X9_isHeard
theorem dX9_least_0 : decode cX9_least 0 = .ok (.aload_n 0, 1) := by decide +kernel
theorem dX9_least_1 : decode cX9_least 1 = .ok (.iload_n 1, 1) := by decide +kernel
theorem dX9_least_2 : decode cX9_least 2 = .ok (.iload_n 2, 1) := by decide +kernel
theorem dX9_least_3 : decode cX9_least 3 = .ok (.iload_n 3, 1) := by decide +kernel
theorem dX9_least_4 : decode cX9_least 4 = .ok (.invokevirtual 234, 3) := by decide +kernel
theorem dX9_least_7 : decode cX9_least 7 = .ok (.ifCond .eq 14, 3) := by decide +kernel
theorem dX9_least_10 : decode cX9_least 10 = .ok (.aload_n 0, 1) := by decide +kernel
theorem dX9_least_11 : decode cX9_least 11 = .ok (.iload 4, 2) := by decide +kernel
theorem dX9_least_13 : decode cX9_least 13 = .ok (.iconst 0, 1) := by decide +kernel
theorem dX9_least_14 : decode cX9_least 14 = .ok (.iconst 1, 1) := by decide +kernel
theorem dX9_least_15 : decode cX9_least 15 = .ok (.invokevirtual 133, 3) := by decide +kernel
theorem dX9_least_18 : decode cX9_least 18 = .ok (.ifCond .ne 5, 3) := by decide +kernel
theorem dX9_least_21 : decode cX9_least 21 = .ok (.iconst (-1), 1) := by decide +kernel
theorem dX9_least_22 : decode cX9_least 22 = .ok (.ireturn, 1) := by decide +kernel
theorem dX9_least_23 : decode cX9_least 23 = .ok (.aload_n 0, 1) := by decide +kernel
theorem dX9_least_24 : decode cX9_least 24 = .ok (.invokevirtual 211, 3) := by decide +kernel
theorem dX9_least_27 : decode cX9_least 27 = .ok (.bipush (-5), 2) := by decide +kernel
theorem dX9_least_29 : decode cX9_least 29 = .ok (.istore 5, 2) := by decide +kernel
theorem dX9_least_31 : decode cX9_least 31 = .ok (.iconst 0, 1) := by decide +kernel
theorem dX9_least_32 : decode cX9_least 32 = .ok (.istore 6, 2) := by decide +kernel
theorem dX9_least_34 : decode cX9_least 34 = .ok (.iconst 0, 1) := by decide +kernel
theorem dX9_least_35 : decode cX9_least 35 = .ok (.istore 7, 2) := by decide +kernel
theorem dX9_least_37 : decode cX9_least 37 = .ok (.iload 7, 2) := by decide +kernel
theorem dX9_least_39 : decode cX9_least 39 = .ok (.bipush 11, 2) := by decide +kernel
theorem dX9_least_41 : decode cX9_least 41 = .ok (.if_icmp .ge 96, 3) := by decide +kernel
theorem dX9_least_44 : decode cX9_least 44 = .ok (.iload 5, 2) := by decide +kernel
theorem dX9_least_46 : decode cX9_least 46 = .ok (.ifCond .ge 91, 3) := by decide +kernel
theorem dX9_least_49 : decode cX9_least 49 = .ok (.iconst 0, 1) := by decide +kernel
theorem dX9_least_50 : decode cX9_least 50 = .ok (.istore 8, 2) := by decide +kernel
theorem dX9_least_52 : decode cX9_least 52 = .ok (.iload 8, 2) := by decide +kernel
theorem dX9_least_54 : decode cX9_least 54 = .ok (.sipush 1024, 3) := by decide +kernel
theorem dX9_least_57 : decode cX9_least 57 = .ok (.if_icmp .ge 74, 3) := by decide +kernel
theorem dX9_least_60 : decode cX9_least 60 = .ok (.aload_n 0, 1) := by decide +kernel
theorem dX9_least_61 : decode cX9_least 61 = .ok (.iload 8, 2) := by decide +kernel
theorem dX9_least_63 : decode cX9_least 63 = .ok (.invokevirtual 240, 3) := by decide +kernel
theorem dX9_least_66 : decode cX9_least 66 = .ok (.iload 7, 2) := by decide +kernel
theorem dX9_least_68 : decode cX9_least 68 = .ok (.if_icmp .ne 57, 3) := by decide +kernel
theorem dX9_least_71 : decode cX9_least 71 = .ok (.iload 8, 2) := by decide +kernel
theorem dX9_least_73 : decode cX9_least 73 = .ok (.aload_n 0, 1) := by decide +kernel
theorem dX9_least_74 : decode cX9_least 74 = .ok (.getfield 13, 3) := by decide +kernel
theorem dX9_least_77 : decode cX9_least 77 = .ok (.iand, 1) := by decide +kernel
theorem dX9_least_78 : decode cX9_least 78 = .ok (.ifCond .eq 6, 3) := by decide +kernel
theorem dX9_least_81 : decode cX9_least 81 = .ok (.goto 44, 3) := by decide +kernel
theorem dX9_least_84 : decode cX9_least 84 = .ok (.aload_n 0, 1) := by decide +kernel
theorem dX9_least_85 : decode cX9_least 85 = .ok (.aload_n 0, 1) := by decide +kernel
theorem dX9_least_86 : decode cX9_least 86 = .ok (.getfield 13, 3) := by decide +kernel
theorem dX9_least_89 : decode cX9_least 89 = .ok (.iload 8, 2) := by decide +kernel
theorem dX9_least_91 : decode cX9_least 91 = .ok (.ior, 1) := by decide +kernel
theorem dX9_least_92 : decode cX9_least 92 = .ok (.putfield 83, 3) := by decide +kernel
theorem dX9_least_95 : decode cX9_least 95 = .ok (.aload_n 0, 1) := by decide +kernel
theorem dX9_least_96 : decode cX9_least 96 = .ok (.iload_n 1, 1) := by decide +kernel
theorem dX9_least_97 : decode cX9_least 97 = .ok (.iload_n 2, 1) := by decide +kernel
theorem dX9_least_98 : decode cX9_least 98 = .ok (.iload_n 3, 1) := by decide +kernel
theorem dX9_least_99 : decode cX9_least 99 = .ok (.invokevirtual 237, 3) := by decide +kernel
theorem dX9_least_102 : decode cX9_least 102 = .ok (.ifCond .ne 6, 3) := by decide +kernel
theorem dX9_least_105 : decode cX9_least 105 = .ok (.goto 20, 3) := by decide +kernel
theorem dX9_least_108 : decode cX9_least 108 = .ok (.iinc 6 1, 3) := by decide +kernel
theorem dX9_least_111 : decode cX9_least 111 = .ok (.iload 5, 2) := by decide +kernel
theorem dX9_least_113 : decode cX9_least 113 = .ok (.ifCond .ge 8, 3) := by decide +kernel
theorem dX9_least_116 : decode cX9_least 116 = .ok (.iload 8, 2) := by decide +kernel
theorem dX9_least_118 : decode cX9_least 118 = .ok (.goto 5, 3) := by decide +kernel
theorem dX9_least_121 : decode cX9_least 121 = .ok (.iload 5, 2) := by decide +kernel
theorem dX9_least_123 : decode cX9_least 123 = .ok (.istore 5, 2) := by decide +kernel
theorem dX9_least_125 : decode cX9_least 125 = .ok (.iinc 8 1, 3) := by decide +kernel
theorem dX9_least_128 : decode cX9_least 128 = .ok (.goto (-76), 3) := by decide +kernel
theorem dX9_least_131 : decode cX9_least 131 = .ok (.iinc 7 1, 3) := by decide +kernel
theorem dX9_least_134 : decode cX9_least 134 = .ok (.goto (-97), 3) := by decide +kernel
theorem dX9_least_137 : decode cX9_least 137 = .ok (.iload 4, 2) := by decide +kernel
theorem dX9_least_139 : decode cX9_least 139 = .ok (.ifCond .ne 8, 3) := by decide +kernel
theorem dX9_least_142 : decode cX9_least 142 = .ok (.iload 5, 2) := by decide +kernel
theorem dX9_least_144 : decode cX9_least 144 = .ok (.goto 5, 3) := by decide +kernel
theorem dX9_least_147 : decode cX9_least 147 = .ok (.iload 6, 2) := by decide +kernel
theorem dX9_least_149 : decode cX9_least 149 = .ok (.ireturn, 1) := by decide +kernel
set_option maxRecDepth 20000 in
theorem ggX9_ends_X9_isWord : GoodIn wsX9_ends wsX9_isWord := goodIn_r _ [5, 6, 7, 8, 9, 4, 10, 88, 89, 90, 91, 92, 93, 94, 95, 96, 97, 98, 99, 100, 101, 102, 103, 104, 105, 106, 107, 108, 109, 110, 111, 112, 113, 114, 115, 116, 117, 118, 119, 120, 121, 122, 123, 124, 125, 126, 127] (by decide +kernel) (by decide +kernel)
set_option maxRecDepth 20000 in
theorem gX9_ends_X9_isWord : GoodIn wsX9_ends (wsV RX9 137 RX9 yX9_isWord wsX9_isWord) := goodIn_app (goodIn_of _ (by decide +kernel)) ggX9_ends_X9_isWord
set_option maxRecDepth 20000 in
theorem ggX9_ends_X9_isLand : GoodIn wsX9_ends wsX9_isLand := goodIn_r _ [14, 7, 8, 9, 4, 10] (by decide +kernel) (by decide +kernel)
set_option maxRecDepth 20000 in
theorem gX9_ends_X9_isLand : GoodIn wsX9_ends (wsV RX9 177 RX9 yX9_isLand wsX9_isLand) := goodIn_app (goodIn_of _ (by decide +kernel)) ggX9_ends_X9_isLand
set_option maxRecDepth 20000 in
theorem ggX9_ends_X9_asItIs : GoodIn wsX9_ends wsX9_asItIs := goodIn_r _ [18, 19, 20, 21, 22, 23, 24, 88, 89, 90, 91, 92, 93, 94, 95, 96, 97, 98, 99, 100, 101, 102, 103, 104, 105, 106, 107, 108, 109, 110, 111, 112, 113, 114, 115, 116, 117, 118, 119, 120, 121, 122, 123, 124, 125, 126, 127] (by decide +kernel) (by decide +kernel)
set_option maxRecDepth 20000 in
theorem gX9_ends_X9_asItIs : GoodIn wsX9_ends (wsV RX9 211 RX9 yX9_asItIs wsX9_asItIs) := goodIn_app (goodIn_of _ (by decide +kernel)) ggX9_ends_X9_asItIs
set_option maxRecDepth 20000 in
theorem ggX9_ends_X9_isHeard : GoodIn wsX9_ends wsX9_isHeard := goodIn_r _ [28, 29, 30, 31, 4, 32, 33, 34, 35, 36, 37, 38, 22, 39, 40, 41, 42, 43, 44, 45, 46, 47, 48, 49, 50, 51, 52, 53, 54, 55, 56, 57, 24, 58, 59, 20, 60, 61, 62, 63, 64, 65, 66, 67, 68, 69, 70, 71, 72, 73, 74, 75, 76, 77, 78, 79, 80, 81, 23, 82, 83, 84, 85, 86, 87, 88, 89, 90, 91, 92, 93, 94, 95, 96, 97, 98, 99, 100, 101, 102, 103, 104, 105, 106, 107, 108, 109, 110, 111, 112, 113, 114, 115, 116, 117, 118, 119, 120, 121, 122, 123, 124, 125, 126, 127] (by decide +kernel) (by decide +kernel)
set_option maxRecDepth 20000 in
theorem gX9_ends_X9_isHeard : GoodIn wsX9_ends (wsV RX9 237 RX9 yX9_isHeard wsX9_isHeard) := goodIn_app (goodIn_of _ (by decide +kernel)) ggX9_ends_X9_isHeard
theorem dX9_ends_0 : decode cX9_ends 0 = .ok (.aload_n 0, 1) := by decide +kernel
theorem dX9_ends_1 : decode cX9_ends 1 = .ok (.iload_n 1, 1) := by decide +kernel
theorem dX9_ends_2 : decode cX9_ends 2 = .ok (.invokevirtual 137, 3) := by decide +kernel
theorem dX9_ends_5 : decode cX9_ends 5 = .ok (.ifCond .eq 11, 3) := by decide +kernel
theorem dX9_ends_8 : decode cX9_ends 8 = .ok (.aload_n 0, 1) := by decide +kernel
theorem dX9_ends_9 : decode cX9_ends 9 = .ok (.iload_n 2, 1) := by decide +kernel
theorem dX9_ends_10 : decode cX9_ends 10 = .ok (.invokevirtual 177, 3) := by decide +kernel
theorem dX9_ends_13 : decode cX9_ends 13 = .ok (.ifCond .ne 5, 3) := by decide +kernel
theorem dX9_ends_16 : decode cX9_ends 16 = .ok (.iconst (-1), 1) := by decide +kernel
theorem dX9_ends_17 : decode cX9_ends 17 = .ok (.ireturn, 1) := by decide +kernel
theorem dX9_ends_18 : decode cX9_ends 18 = .ok (.aload_n 0, 1) := by decide +kernel
theorem dX9_ends_19 : decode cX9_ends 19 = .ok (.invokevirtual 211, 3) := by decide +kernel
theorem dX9_ends_22 : decode cX9_ends 22 = .ok (.iconst 0, 1) := by decide +kernel
theorem dX9_ends_23 : decode cX9_ends 23 = .ok (.istore_n 3, 1) := by decide +kernel
theorem dX9_ends_24 : decode cX9_ends 24 = .ok (.iconst 0, 1) := by decide +kernel
theorem dX9_ends_25 : decode cX9_ends 25 = .ok (.istore 4, 2) := by decide +kernel
theorem dX9_ends_27 : decode cX9_ends 27 = .ok (.iload 4, 2) := by decide +kernel
theorem dX9_ends_29 : decode cX9_ends 29 = .ok (.iconst 4, 1) := by decide +kernel
theorem dX9_ends_30 : decode cX9_ends 30 = .ok (.if_icmp .ge 31, 3) := by decide +kernel
theorem dX9_ends_33 : decode cX9_ends 33 = .ok (.iload_n 3, 1) := by decide +kernel
theorem dX9_ends_34 : decode cX9_ends 34 = .ok (.aload_n 0, 1) := by decide +kernel
theorem dX9_ends_35 : decode cX9_ends 35 = .ok (.iload_n 1, 1) := by decide +kernel
theorem dX9_ends_36 : decode cX9_ends 36 = .ok (.iload 4, 2) := by decide +kernel
theorem dX9_ends_38 : decode cX9_ends 38 = .ok (.iload_n 2, 1) := by decide +kernel
theorem dX9_ends_39 : decode cX9_ends 39 = .ok (.invokevirtual 237, 3) := by decide +kernel
theorem dX9_ends_42 : decode cX9_ends 42 = .ok (.ifCond .eq 10, 3) := by decide +kernel
theorem dX9_ends_45 : decode cX9_ends 45 = .ok (.iconst 1, 1) := by decide +kernel
theorem dX9_ends_46 : decode cX9_ends 46 = .ok (.iload 4, 2) := by decide +kernel
theorem dX9_ends_48 : decode cX9_ends 48 = .ok (.ishl, 1) := by decide +kernel
theorem dX9_ends_49 : decode cX9_ends 49 = .ok (.goto 4, 3) := by decide +kernel
theorem dX9_ends_52 : decode cX9_ends 52 = .ok (.iconst 0, 1) := by decide +kernel
theorem dX9_ends_53 : decode cX9_ends 53 = .ok (.ior, 1) := by decide +kernel
theorem dX9_ends_54 : decode cX9_ends 54 = .ok (.istore_n 3, 1) := by decide +kernel
theorem dX9_ends_55 : decode cX9_ends 55 = .ok (.iinc 4 1, 3) := by decide +kernel
theorem dX9_ends_58 : decode cX9_ends 58 = .ok (.goto (-31), 3) := by decide +kernel
theorem dX9_ends_61 : decode cX9_ends 61 = .ok (.iload_n 3, 1) := by decide +kernel
theorem dX9_ends_62 : decode cX9_ends 62 = .ok (.ireturn, 1) := by decide +kernel
set_option maxRecDepth 20000 in
theorem ggX9_cut_X9_isLayer : GoodIn wsX9_cut wsX9_isLayer := goodIn_r _ [8, 9, 10, 11, 7, 12, 13, 14, 15, 16, 17, 18, 19, 20, 21, 22, 23, 24, 25, 97, 98, 99, 100, 101, 102, 103, 104, 105, 106, 107, 108, 109, 110, 111, 112, 113, 114, 115, 116, 117, 118, 119, 120, 121, 122, 123, 124, 125, 126, 127, 128, 129, 130, 131, 132, 133, 134, 135, 136] (by decide +kernel) (by decide +kernel)
set_option maxRecDepth 20000 in
theorem gX9_cut_X9_isLayer : GoodIn wsX9_cut (wsV RX9 234 RX9 yX9_isLayer wsX9_isLayer) := goodIn_app (goodIn_of _ (by decide +kernel)) ggX9_cut_X9_isLayer
set_option maxRecDepth 20000 in
theorem ggX9_cut_X9_in : GoodIn wsX9_cut wsX9_in := goodIn_r _ [17] (by decide +kernel) (by decide +kernel)
set_option maxRecDepth 20000 in
theorem gX9_cut_X9_in : GoodIn wsX9_cut (wsV RX9 133 RX9 yX9_in wsX9_in) := goodIn_app (goodIn_of _ (by decide +kernel)) ggX9_cut_X9_in
set_option maxRecDepth 20000 in
theorem ggX9_cut_X9_asItIs : GoodIn wsX9_cut wsX9_asItIs := goodIn_r _ [29, 30, 31, 32, 33, 34, 35, 97, 98, 99, 100, 101, 102, 103, 104, 105, 106, 107, 108, 109, 110, 111, 112, 113, 114, 115, 116, 117, 118, 119, 120, 121, 122, 123, 124, 125, 126, 127, 128, 129, 130, 131, 132, 133, 134, 135, 136] (by decide +kernel) (by decide +kernel)
set_option maxRecDepth 20000 in
theorem gX9_cut_X9_asItIs : GoodIn wsX9_cut (wsV RX9 211 RX9 yX9_asItIs wsX9_asItIs) := goodIn_app (goodIn_of _ (by decide +kernel)) ggX9_cut_X9_asItIs
set_option maxRecDepth 20000 in
theorem ggX9_cut_X9_keeper : GoodIn wsX9_cut wsX9_keeper := goodIn_r _ [39, 40, 41, 42, 43, 44, 7, 45, 33, 46, 47, 48, 49, 50, 51, 52, 53, 54, 55, 56, 57, 58, 59, 60, 61, 62, 63, 64, 35, 65, 66, 31, 67, 68, 69, 70, 71, 72, 73, 74, 75, 76, 77, 78, 79, 80, 81, 82, 83, 97, 98, 99, 100, 101, 102, 103, 104, 105, 106, 107, 108, 109, 110, 111, 112, 113, 114, 115, 116, 117, 118, 119, 120, 121, 122, 123, 124, 125, 126, 127, 128, 129, 130, 131, 132, 133, 134, 135, 136] (by decide +kernel) (by decide +kernel)
set_option maxRecDepth 20000 in
theorem gX9_cut_X9_keeper : GoodIn wsX9_cut (wsV RX9 227 RX9 yX9_keeper wsX9_keeper) := goodIn_app (goodIn_of _ (by decide +kernel)) ggX9_cut_X9_keeper
set_option maxRecDepth 20000 in
theorem ggX9_cut_X9_findHeard : GoodIn wsX9_cut wsX9_findHeard := goodIn_r _ [87, 88, 34, 89, 90, 91, 7, 92, 1, 3, 75, 76, 77, 78, 36, 37, 38, 39, 40, 41, 42, 43, 44, 45, 33, 46, 47, 48, 49, 50, 51, 52, 53, 54, 55, 56, 57, 58, 59, 60, 61, 62, 63, 64, 35, 65, 66, 31, 67, 68, 69, 70, 71, 72, 73, 74, 79, 80, 81, 82, 83, 97, 98, 99, 100, 101, 102, 103, 104, 105, 106, 107, 108, 109, 110, 111, 112, 113, 114, 115, 116, 117, 118, 119, 120, 121, 122, 123, 124, 125, 126, 127, 128, 129, 130, 131, 132, 133, 134, 135, 136] (by decide +kernel) (by decide +kernel)
set_option maxRecDepth 20000 in
theorem gX9_cut_X9_findHeard : GoodIn wsX9_cut (wsV RX9 230 RX9 yX9_findHeard wsX9_findHeard) := goodIn_app (goodIn_of _ (by decide +kernel)) ggX9_cut_X9_findHeard
set_option maxRecDepth 20000 in
theorem ggX9_cut_X9_ones : GoodIn wsX9_cut wsX9_ones := goodIn_r _ [96] (by decide +kernel) (by decide +kernel)
set_option maxRecDepth 20000 in
theorem gX9_cut_X9_ones : GoodIn wsX9_cut (wsV RX9 240 RX9 yX9_ones wsX9_ones) := goodIn_app (goodIn_of _ (by decide +kernel)) ggX9_cut_X9_ones
set_option maxRecDepth 20000 in
theorem ggX9_cut_X9_arePartsHeard : GoodIn wsX9_cut wsX9_arePartsHeard := goodIn_r _ [92, 1, 88, 3, 75, 76, 77, 7, 78, 97, 98, 99, 100, 101, 102, 103, 104, 105, 106, 107, 108, 109, 110, 111, 112, 113, 114, 115, 116, 117, 118, 119, 120, 121, 122, 123, 124, 125, 126, 127, 128, 129, 130, 131, 132, 133, 134, 135, 136] (by decide +kernel) (by decide +kernel)
set_option maxRecDepth 20000 in
theorem gX9_cut_X9_arePartsHeard : GoodIn wsX9_cut (wsV RX9 224 RX9 yX9_arePartsHeard wsX9_arePartsHeard) := goodIn_app (goodIn_of _ (by decide +kernel)) ggX9_cut_X9_arePartsHeard
set_option maxRecDepth 20000 in
theorem ggX9_cut_X9_has : GoodIn wsX9_cut wsX9_has := goodIn_r _ [78] (by decide +kernel) (by decide +kernel)
set_option maxRecDepth 20000 in
theorem gX9_cut_X9_has : GoodIn wsX9_cut (wsV RX9 189 RX9 yX9_has wsX9_has) := goodIn_app (goodIn_of _ (by decide +kernel)) ggX9_cut_X9_has
theorem dX9_cut_0 : decode cX9_cut 0 = .ok (.aload_n 0, 1) := by decide +kernel
theorem dX9_cut_1 : decode cX9_cut 1 = .ok (.iload_n 1, 1) := by decide +kernel
theorem dX9_cut_2 : decode cX9_cut 2 = .ok (.iload_n 2, 1) := by decide +kernel
theorem dX9_cut_3 : decode cX9_cut 3 = .ok (.iload_n 3, 1) := by decide +kernel
theorem dX9_cut_4 : decode cX9_cut 4 = .ok (.invokevirtual 234, 3) := by decide +kernel
theorem dX9_cut_7 : decode cX9_cut 7 = .ok (.ifCond .eq 14, 3) := by decide +kernel
theorem dX9_cut_10 : decode cX9_cut 10 = .ok (.aload_n 0, 1) := by decide +kernel
theorem dX9_cut_11 : decode cX9_cut 11 = .ok (.iload 4, 2) := by decide +kernel
theorem dX9_cut_13 : decode cX9_cut 13 = .ok (.iconst 0, 1) := by decide +kernel
theorem dX9_cut_14 : decode cX9_cut 14 = .ok (.iconst 1, 1) := by decide +kernel
theorem dX9_cut_15 : decode cX9_cut 15 = .ok (.invokevirtual 133, 3) := by decide +kernel
theorem dX9_cut_18 : decode cX9_cut 18 = .ok (.ifCond .ne 5, 3) := by decide +kernel
theorem dX9_cut_21 : decode cX9_cut 21 = .ok (.iconst (-1), 1) := by decide +kernel
theorem dX9_cut_22 : decode cX9_cut 22 = .ok (.ireturn, 1) := by decide +kernel
theorem dX9_cut_23 : decode cX9_cut 23 = .ok (.aload_n 0, 1) := by decide +kernel
theorem dX9_cut_24 : decode cX9_cut 24 = .ok (.invokevirtual 211, 3) := by decide +kernel
theorem dX9_cut_27 : decode cX9_cut 27 = .ok (.aload_n 0, 1) := by decide +kernel
theorem dX9_cut_28 : decode cX9_cut 28 = .ok (.iload_n 1, 1) := by decide +kernel
theorem dX9_cut_29 : decode cX9_cut 29 = .ok (.iload_n 2, 1) := by decide +kernel
theorem dX9_cut_30 : decode cX9_cut 30 = .ok (.iload_n 3, 1) := by decide +kernel
theorem dX9_cut_31 : decode cX9_cut 31 = .ok (.invokevirtual 227, 3) := by decide +kernel
theorem dX9_cut_34 : decode cX9_cut 34 = .ok (.ifCond .lt 6, 3) := by decide +kernel
theorem dX9_cut_37 : decode cX9_cut 37 = .ok (.bipush (-5), 2) := by decide +kernel
theorem dX9_cut_39 : decode cX9_cut 39 = .ok (.ireturn, 1) := by decide +kernel
theorem dX9_cut_40 : decode cX9_cut 40 = .ok (.aload_n 0, 1) := by decide +kernel
theorem dX9_cut_41 : decode cX9_cut 41 = .ok (.iload_n 1, 1) := by decide +kernel
theorem dX9_cut_42 : decode cX9_cut 42 = .ok (.iload_n 3, 1) := by decide +kernel
theorem dX9_cut_43 : decode cX9_cut 43 = .ok (.invokevirtual 230, 3) := by decide +kernel
theorem dX9_cut_46 : decode cX9_cut 46 = .ok (.bipush (-5), 2) := by decide +kernel
theorem dX9_cut_48 : decode cX9_cut 48 = .ok (.istore 5, 2) := by decide +kernel
theorem dX9_cut_50 : decode cX9_cut 50 = .ok (.iconst 0, 1) := by decide +kernel
theorem dX9_cut_51 : decode cX9_cut 51 = .ok (.istore 6, 2) := by decide +kernel
theorem dX9_cut_53 : decode cX9_cut 53 = .ok (.iload 6, 2) := by decide +kernel
theorem dX9_cut_55 : decode cX9_cut 55 = .ok (.iconst 1, 1) := by decide +kernel
theorem dX9_cut_56 : decode cX9_cut 56 = .ok (.aload_n 0, 1) := by decide +kernel
theorem dX9_cut_57 : decode cX9_cut 57 = .ok (.getfield 32, 3) := by decide +kernel
theorem dX9_cut_60 : decode cX9_cut 60 = .ok (.iload_n 1, 1) := by decide +kernel
theorem dX9_cut_61 : decode cX9_cut 61 = .ok (.iaload, 1) := by decide +kernel
theorem dX9_cut_62 : decode cX9_cut 62 = .ok (.ishl, 1) := by decide +kernel
theorem dX9_cut_63 : decode cX9_cut 63 = .ok (.if_icmp .ge 48, 3) := by decide +kernel
theorem dX9_cut_66 : decode cX9_cut 66 = .ok (.iload 5, 2) := by decide +kernel
theorem dX9_cut_68 : decode cX9_cut 68 = .ok (.ifCond .lt 18, 3) := by decide +kernel
theorem dX9_cut_71 : decode cX9_cut 71 = .ok (.aload_n 0, 1) := by decide +kernel
theorem dX9_cut_72 : decode cX9_cut 72 = .ok (.iload 6, 2) := by decide +kernel
theorem dX9_cut_74 : decode cX9_cut 74 = .ok (.invokevirtual 240, 3) := by decide +kernel
theorem dX9_cut_77 : decode cX9_cut 77 = .ok (.aload_n 0, 1) := by decide +kernel
theorem dX9_cut_78 : decode cX9_cut 78 = .ok (.iload 5, 2) := by decide +kernel
theorem dX9_cut_80 : decode cX9_cut 80 = .ok (.invokevirtual 240, 3) := by decide +kernel
theorem dX9_cut_83 : decode cX9_cut 83 = .ok (.if_icmp .ge 22, 3) := by decide +kernel
theorem dX9_cut_86 : decode cX9_cut 86 = .ok (.iload_n 2, 1) := by decide +kernel
theorem dX9_cut_87 : decode cX9_cut 87 = .ok (.iconst 1, 1) := by decide +kernel
theorem dX9_cut_88 : decode cX9_cut 88 = .ok (.if_icmp .eq 13, 3) := by decide +kernel
theorem dX9_cut_91 : decode cX9_cut 91 = .ok (.aload_n 0, 1) := by decide +kernel
theorem dX9_cut_92 : decode cX9_cut 92 = .ok (.iload_n 1, 1) := by decide +kernel
theorem dX9_cut_93 : decode cX9_cut 93 = .ok (.iload 6, 2) := by decide +kernel
theorem dX9_cut_95 : decode cX9_cut 95 = .ok (.invokevirtual 224, 3) := by decide +kernel
theorem dX9_cut_98 : decode cX9_cut 98 = .ok (.ifCond .eq 7, 3) := by decide +kernel
theorem dX9_cut_101 : decode cX9_cut 101 = .ok (.iload 6, 2) := by decide +kernel
theorem dX9_cut_103 : decode cX9_cut 103 = .ok (.istore 5, 2) := by decide +kernel
theorem dX9_cut_105 : decode cX9_cut 105 = .ok (.iinc 6 1, 3) := by decide +kernel
theorem dX9_cut_108 : decode cX9_cut 108 = .ok (.goto (-55), 3) := by decide +kernel
theorem dX9_cut_111 : decode cX9_cut 111 = .ok (.iload 4, 2) := by decide +kernel
theorem dX9_cut_113 : decode cX9_cut 113 = .ok (.ifCond .ne 6, 3) := by decide +kernel
theorem dX9_cut_116 : decode cX9_cut 116 = .ok (.iload 5, 2) := by decide +kernel
theorem dX9_cut_118 : decode cX9_cut 118 = .ok (.ireturn, 1) := by decide +kernel
theorem dX9_cut_119 : decode cX9_cut 119 = .ok (.aload_n 0, 1) := by decide +kernel
theorem dX9_cut_120 : decode cX9_cut 120 = .ok (.getfield 29, 3) := by decide +kernel
theorem dX9_cut_123 : decode cX9_cut 123 = .ok (.iload_n 1, 1) := by decide +kernel
theorem dX9_cut_124 : decode cX9_cut 124 = .ok (.iaload, 1) := by decide +kernel
theorem dX9_cut_125 : decode cX9_cut 125 = .ok (.istore 6, 2) := by decide +kernel
theorem dX9_cut_127 : decode cX9_cut 127 = .ok (.iconst 0, 1) := by decide +kernel
theorem dX9_cut_128 : decode cX9_cut 128 = .ok (.istore 7, 2) := by decide +kernel
theorem dX9_cut_130 : decode cX9_cut 130 = .ok (.iload 7, 2) := by decide +kernel
theorem dX9_cut_132 : decode cX9_cut 132 = .ok (.aload_n 0, 1) := by decide +kernel
theorem dX9_cut_133 : decode cX9_cut 133 = .ok (.getfield 32, 3) := by decide +kernel
theorem dX9_cut_136 : decode cX9_cut 136 = .ok (.iload_n 1, 1) := by decide +kernel
theorem dX9_cut_137 : decode cX9_cut 137 = .ok (.iaload, 1) := by decide +kernel
theorem dX9_cut_138 : decode cX9_cut 138 = .ok (.if_icmp .ge 47, 3) := by decide +kernel
theorem dX9_cut_141 : decode cX9_cut 141 = .ok (.iload 6, 2) := by decide +kernel
theorem dX9_cut_143 : decode cX9_cut 143 = .ok (.aload_n 0, 1) := by decide +kernel
theorem dX9_cut_144 : decode cX9_cut 144 = .ok (.iload 5, 2) := by decide +kernel
theorem dX9_cut_146 : decode cX9_cut 146 = .ok (.iload 7, 2) := by decide +kernel
theorem dX9_cut_148 : decode cX9_cut 148 = .ok (.invokevirtual 189, 3) := by decide +kernel
theorem dX9_cut_151 : decode cX9_cut 151 = .ok (.ifCond .eq 24, 3) := by decide +kernel
theorem dX9_cut_154 : decode cX9_cut 154 = .ok (.aload_n 0, 1) := by decide +kernel
theorem dX9_cut_155 : decode cX9_cut 155 = .ok (.getfield 29, 3) := by decide +kernel
theorem dX9_cut_158 : decode cX9_cut 158 = .ok (.aload_n 0, 1) := by decide +kernel
theorem dX9_cut_159 : decode cX9_cut 159 = .ok (.getfield 35, 3) := by decide +kernel
theorem dX9_cut_162 : decode cX9_cut 162 = .ok (.iconst 4, 1) := by decide +kernel
theorem dX9_cut_163 : decode cX9_cut 163 = .ok (.iload_n 1, 1) := by decide +kernel
theorem dX9_cut_164 : decode cX9_cut 164 = .ok (.imul, 1) := by decide +kernel
theorem dX9_cut_165 : decode cX9_cut 165 = .ok (.iload 7, 2) := by decide +kernel
theorem dX9_cut_167 : decode cX9_cut 167 = .ok (.iadd, 1) := by decide +kernel
theorem dX9_cut_168 : decode cX9_cut 168 = .ok (.iaload, 1) := by decide +kernel
theorem dX9_cut_169 : decode cX9_cut 169 = .ok (.iaload, 1) := by decide +kernel
theorem dX9_cut_170 : decode cX9_cut 170 = .ok (.iconst (-1), 1) := by decide +kernel
theorem dX9_cut_171 : decode cX9_cut 171 = .ok (.ixor, 1) := by decide +kernel
theorem dX9_cut_172 : decode cX9_cut 172 = .ok (.goto 4, 3) := by decide +kernel
theorem dX9_cut_175 : decode cX9_cut 175 = .ok (.iconst (-1), 1) := by decide +kernel
theorem dX9_cut_176 : decode cX9_cut 176 = .ok (.iand, 1) := by decide +kernel
theorem dX9_cut_177 : decode cX9_cut 177 = .ok (.istore 6, 2) := by decide +kernel
theorem dX9_cut_179 : decode cX9_cut 179 = .ok (.iinc 7 1, 3) := by decide +kernel
theorem dX9_cut_182 : decode cX9_cut 182 = .ok (.goto (-52), 3) := by decide +kernel
theorem dX9_cut_185 : decode cX9_cut 185 = .ok (.iload 6, 2) := by decide +kernel
theorem dX9_cut_187 : decode cX9_cut 187 = .ok (.ireturn, 1) := by decide +kernel
set_option maxRecDepth 20000 in
theorem ggX9_opened_X9_isWord : GoodIn wsX9_opened wsX9_isWord := goodIn_r _ [12, 1, 13, 14, 15, 11, 16, 85, 86, 87, 88, 89, 90, 91, 92, 93, 94, 95, 96, 97, 98, 99, 100, 101, 102, 103, 104, 105, 106, 107, 108, 109, 110, 111, 112, 113, 114, 115, 116, 117, 118, 119, 120, 121, 122, 123, 124] (by decide +kernel) (by decide +kernel)
set_option maxRecDepth 20000 in
theorem gX9_opened_X9_isWord : GoodIn wsX9_opened (wsV RX9 137 RX9 yX9_isWord wsX9_isWord) := goodIn_app (goodIn_of _ (by decide +kernel)) ggX9_opened_X9_isWord
set_option maxRecDepth 20000 in
theorem ggX9_opened_X9_isLand : GoodIn wsX9_opened wsX9_isLand := goodIn_r _ [20, 13, 14, 15, 11, 16] (by decide +kernel) (by decide +kernel)
set_option maxRecDepth 20000 in
theorem gX9_opened_X9_isLand : GoodIn wsX9_opened (wsV RX9 177 RX9 yX9_isLand wsX9_isLand) := goodIn_app (goodIn_of _ (by decide +kernel)) ggX9_opened_X9_isLand
set_option maxRecDepth 20000 in
theorem ggX9_opened_X9_asItIs : GoodIn wsX9_opened wsX9_asItIs := goodIn_r _ [24, 3, 5, 25, 26, 27, 6, 85, 86, 87, 88, 89, 90, 91, 92, 93, 94, 95, 96, 97, 98, 99, 100, 101, 102, 103, 104, 105, 106, 107, 108, 109, 110, 111, 112, 113, 114, 115, 116, 117, 118, 119, 120, 121, 122, 123, 124] (by decide +kernel) (by decide +kernel)
set_option maxRecDepth 20000 in
theorem gX9_opened_X9_asItIs : GoodIn wsX9_opened (wsV RX9 211 RX9 yX9_asItIs wsX9_asItIs) := goodIn_app (goodIn_of _ (by decide +kernel)) ggX9_opened_X9_asItIs
set_option maxRecDepth 20000 in
theorem ggX9_opened_X9_findHeard : GoodIn wsX9_opened wsX9_findHeard := goodIn_r _ [31, 2, 27, 32, 33, 34, 11, 35, 36, 37, 38, 39, 40, 41, 42, 43, 44, 45, 46, 47, 48, 49, 50, 51, 26, 52, 53, 54, 55, 56, 57, 58, 59, 60, 61, 62, 63, 64, 65, 66, 67, 68, 69, 70, 6, 7, 71, 5, 72, 73, 74, 75, 76, 77, 78, 79, 80, 81, 82, 83, 84, 85, 86, 87, 88, 89, 90, 91, 92, 93, 94, 95, 96, 97, 98, 99, 100, 101, 102, 103, 104, 105, 106, 107, 108, 109, 110, 111, 112, 113, 114, 115, 116, 117, 118, 119, 120, 121, 122, 123, 124] (by decide +kernel) (by decide +kernel)
set_option maxRecDepth 20000 in
theorem gX9_opened_X9_findHeard : GoodIn wsX9_opened (wsV RX9 230 RX9 yX9_findHeard wsX9_findHeard) := goodIn_app (goodIn_of _ (by decide +kernel)) ggX9_opened_X9_findHeard
set_option maxRecDepth 20000 in
theorem ggX9_opened_X9_has : GoodIn wsX9_opened wsX9_has := goodIn_r _ [41] (by decide +kernel) (by decide +kernel)
set_option maxRecDepth 20000 in
theorem gX9_opened_X9_has : GoodIn wsX9_opened (wsV RX9 189 RX9 yX9_has wsX9_has) := goodIn_app (goodIn_of _ (by decide +kernel)) ggX9_opened_X9_has
theorem dX9_opened_0 : decode cX9_opened 0 = .ok (.aload_n 0, 1) := by decide +kernel
theorem dX9_opened_1 : decode cX9_opened 1 = .ok (.iload_n 1, 1) := by decide +kernel
theorem dX9_opened_2 : decode cX9_opened 2 = .ok (.invokevirtual 137, 3) := by decide +kernel
theorem dX9_opened_5 : decode cX9_opened 5 = .ok (.ifCond .eq 11, 3) := by decide +kernel
theorem dX9_opened_8 : decode cX9_opened 8 = .ok (.aload_n 0, 1) := by decide +kernel
theorem dX9_opened_9 : decode cX9_opened 9 = .ok (.iload_n 2, 1) := by decide +kernel
theorem dX9_opened_10 : decode cX9_opened 10 = .ok (.invokevirtual 177, 3) := by decide +kernel
theorem dX9_opened_13 : decode cX9_opened 13 = .ok (.ifCond .ne 5, 3) := by decide +kernel
theorem dX9_opened_16 : decode cX9_opened 16 = .ok (.iconst (-1), 1) := by decide +kernel
theorem dX9_opened_17 : decode cX9_opened 17 = .ok (.ireturn, 1) := by decide +kernel
theorem dX9_opened_18 : decode cX9_opened 18 = .ok (.aload_n 0, 1) := by decide +kernel
theorem dX9_opened_19 : decode cX9_opened 19 = .ok (.invokevirtual 211, 3) := by decide +kernel
theorem dX9_opened_22 : decode cX9_opened 22 = .ok (.aload_n 0, 1) := by decide +kernel
theorem dX9_opened_23 : decode cX9_opened 23 = .ok (.aload_n 0, 1) := by decide +kernel
theorem dX9_opened_24 : decode cX9_opened 24 = .ok (.getfield 7, 3) := by decide +kernel
theorem dX9_opened_27 : decode cX9_opened 27 = .ok (.iload_n 2, 1) := by decide +kernel
theorem dX9_opened_28 : decode cX9_opened 28 = .ok (.invokevirtual 230, 3) := by decide +kernel
theorem dX9_opened_31 : decode cX9_opened 31 = .ok (.aload_n 0, 1) := by decide +kernel
theorem dX9_opened_32 : decode cX9_opened 32 = .ok (.getfield 99, 3) := by decide +kernel
theorem dX9_opened_35 : decode cX9_opened 35 = .ok (.iload_n 1, 1) := by decide +kernel
theorem dX9_opened_36 : decode cX9_opened 36 = .ok (.baload, 1) := by decide +kernel
theorem dX9_opened_37 : decode cX9_opened 37 = .ok (.ifCond .ne 6, 3) := by decide +kernel
theorem dX9_opened_40 : decode cX9_opened 40 = .ok (.bipush (-3), 2) := by decide +kernel
theorem dX9_opened_42 : decode cX9_opened 42 = .ok (.ireturn, 1) := by decide +kernel
theorem dX9_opened_43 : decode cX9_opened 43 = .ok (.iconst 0, 1) := by decide +kernel
theorem dX9_opened_44 : decode cX9_opened 44 = .ok (.istore_n 3, 1) := by decide +kernel
theorem dX9_opened_45 : decode cX9_opened 45 = .ok (.iconst 0, 1) := by decide +kernel
theorem dX9_opened_46 : decode cX9_opened 46 = .ok (.istore 4, 2) := by decide +kernel
theorem dX9_opened_48 : decode cX9_opened 48 = .ok (.iload 4, 2) := by decide +kernel
theorem dX9_opened_50 : decode cX9_opened 50 = .ok (.aload_n 0, 1) := by decide +kernel
theorem dX9_opened_51 : decode cX9_opened 51 = .ok (.getfield 7, 3) := by decide +kernel
theorem dX9_opened_54 : decode cX9_opened 54 = .ok (.if_icmp .ge 30, 3) := by decide +kernel
theorem dX9_opened_57 : decode cX9_opened 57 = .ok (.iload_n 3, 1) := by decide +kernel
theorem dX9_opened_58 : decode cX9_opened 58 = .ok (.aload_n 0, 1) := by decide +kernel
theorem dX9_opened_59 : decode cX9_opened 59 = .ok (.getfield 99, 3) := by decide +kernel
theorem dX9_opened_62 : decode cX9_opened 62 = .ok (.iload 4, 2) := by decide +kernel
theorem dX9_opened_64 : decode cX9_opened 64 = .ok (.baload, 1) := by decide +kernel
theorem dX9_opened_65 : decode cX9_opened 65 = .ok (.ifCond .eq 10, 3) := by decide +kernel
theorem dX9_opened_68 : decode cX9_opened 68 = .ok (.iconst 1, 1) := by decide +kernel
theorem dX9_opened_69 : decode cX9_opened 69 = .ok (.iload 4, 2) := by decide +kernel
theorem dX9_opened_71 : decode cX9_opened 71 = .ok (.ishl, 1) := by decide +kernel
theorem dX9_opened_72 : decode cX9_opened 72 = .ok (.goto 4, 3) := by decide +kernel
theorem dX9_opened_75 : decode cX9_opened 75 = .ok (.iconst 0, 1) := by decide +kernel
theorem dX9_opened_76 : decode cX9_opened 76 = .ok (.ior, 1) := by decide +kernel
theorem dX9_opened_77 : decode cX9_opened 77 = .ok (.istore_n 3, 1) := by decide +kernel
theorem dX9_opened_78 : decode cX9_opened 78 = .ok (.iinc 4 1, 3) := by decide +kernel
theorem dX9_opened_81 : decode cX9_opened 81 = .ok (.goto (-33), 3) := by decide +kernel
theorem dX9_opened_84 : decode cX9_opened 84 = .ok (.aload_n 0, 1) := by decide +kernel
theorem dX9_opened_85 : decode cX9_opened 85 = .ok (.aload_n 0, 1) := by decide +kernel
theorem dX9_opened_86 : decode cX9_opened 86 = .ok (.getfield 13, 3) := by decide +kernel
theorem dX9_opened_89 : decode cX9_opened 89 = .ok (.aload_n 0, 1) := by decide +kernel
theorem dX9_opened_90 : decode cX9_opened 90 = .ok (.getfield 29, 3) := by decide +kernel
theorem dX9_opened_93 : decode cX9_opened 93 = .ok (.iload_n 1, 1) := by decide +kernel
theorem dX9_opened_94 : decode cX9_opened 94 = .ok (.iaload, 1) := by decide +kernel
theorem dX9_opened_95 : decode cX9_opened 95 = .ok (.ior, 1) := by decide +kernel
theorem dX9_opened_96 : decode cX9_opened 96 = .ok (.putfield 83, 3) := by decide +kernel
theorem dX9_opened_99 : decode cX9_opened 99 = .ok (.aload_n 0, 1) := by decide +kernel
theorem dX9_opened_100 : decode cX9_opened 100 = .ok (.getfield 92, 3) := by decide +kernel
theorem dX9_opened_103 : decode cX9_opened 103 = .ok (.aload_n 0, 1) := by decide +kernel
theorem dX9_opened_104 : decode cX9_opened 104 = .ok (.getfield 26, 3) := by decide +kernel
theorem dX9_opened_107 : decode cX9_opened 107 = .ok (.iload_n 1, 1) := by decide +kernel
theorem dX9_opened_108 : decode cX9_opened 108 = .ok (.iaload, 1) := by decide +kernel
theorem dX9_opened_109 : decode cX9_opened 109 = .ok (.iconst 1, 1) := by decide +kernel
theorem dX9_opened_110 : decode cX9_opened 110 = .ok (.iastore, 1) := by decide +kernel
theorem dX9_opened_111 : decode cX9_opened 111 = .ok (.aload_n 0, 1) := by decide +kernel
theorem dX9_opened_112 : decode cX9_opened 112 = .ok (.aload_n 0, 1) := by decide +kernel
theorem dX9_opened_113 : decode cX9_opened 113 = .ok (.getfield 7, 3) := by decide +kernel
theorem dX9_opened_116 : decode cX9_opened 116 = .ok (.iload_n 2, 1) := by decide +kernel
theorem dX9_opened_117 : decode cX9_opened 117 = .ok (.invokevirtual 230, 3) := by decide +kernel
theorem dX9_opened_120 : decode cX9_opened 120 = .ok (.iconst 0, 1) := by decide +kernel
theorem dX9_opened_121 : decode cX9_opened 121 = .ok (.istore 4, 2) := by decide +kernel
theorem dX9_opened_123 : decode cX9_opened 123 = .ok (.iconst 0, 1) := by decide +kernel
theorem dX9_opened_124 : decode cX9_opened 124 = .ok (.istore 5, 2) := by decide +kernel
theorem dX9_opened_126 : decode cX9_opened 126 = .ok (.iload 5, 2) := by decide +kernel
theorem dX9_opened_128 : decode cX9_opened 128 = .ok (.aload_n 0, 1) := by decide +kernel
theorem dX9_opened_129 : decode cX9_opened 129 = .ok (.getfield 7, 3) := by decide +kernel
theorem dX9_opened_132 : decode cX9_opened 132 = .ok (.if_icmp .ge 48, 3) := by decide +kernel
theorem dX9_opened_135 : decode cX9_opened 135 = .ok (.iload 4, 2) := by decide +kernel
theorem dX9_opened_137 : decode cX9_opened 137 = .ok (.iload 5, 2) := by decide +kernel
theorem dX9_opened_139 : decode cX9_opened 139 = .ok (.iload_n 1, 1) := by decide +kernel
theorem dX9_opened_140 : decode cX9_opened 140 = .ok (.if_icmp .eq 30, 3) := by decide +kernel
theorem dX9_opened_143 : decode cX9_opened 143 = .ok (.aload_n 0, 1) := by decide +kernel
theorem dX9_opened_144 : decode cX9_opened 144 = .ok (.getfield 99, 3) := by decide +kernel
theorem dX9_opened_147 : decode cX9_opened 147 = .ok (.iload 5, 2) := by decide +kernel
theorem dX9_opened_149 : decode cX9_opened 149 = .ok (.baload, 1) := by decide +kernel
theorem dX9_opened_150 : decode cX9_opened 150 = .ok (.ifCond .eq 20, 3) := by decide +kernel
theorem dX9_opened_153 : decode cX9_opened 153 = .ok (.aload_n 0, 1) := by decide +kernel
theorem dX9_opened_154 : decode cX9_opened 154 = .ok (.iload_n 3, 1) := by decide +kernel
theorem dX9_opened_155 : decode cX9_opened 155 = .ok (.iload 5, 2) := by decide +kernel
theorem dX9_opened_157 : decode cX9_opened 157 = .ok (.invokevirtual 189, 3) := by decide +kernel
theorem dX9_opened_160 : decode cX9_opened 160 = .ok (.ifCond .ne 10, 3) := by decide +kernel
theorem dX9_opened_163 : decode cX9_opened 163 = .ok (.iconst 1, 1) := by decide +kernel
theorem dX9_opened_164 : decode cX9_opened 164 = .ok (.iload 5, 2) := by decide +kernel
theorem dX9_opened_166 : decode cX9_opened 166 = .ok (.ishl, 1) := by decide +kernel
theorem dX9_opened_167 : decode cX9_opened 167 = .ok (.goto 4, 3) := by decide +kernel
theorem dX9_opened_170 : decode cX9_opened 170 = .ok (.iconst 0, 1) := by decide +kernel
theorem dX9_opened_171 : decode cX9_opened 171 = .ok (.ior, 1) := by decide +kernel
theorem dX9_opened_172 : decode cX9_opened 172 = .ok (.istore 4, 2) := by decide +kernel
theorem dX9_opened_174 : decode cX9_opened 174 = .ok (.iinc 5 1, 3) := by decide +kernel
theorem dX9_opened_177 : decode cX9_opened 177 = .ok (.goto (-51), 3) := by decide +kernel
theorem dX9_opened_180 : decode cX9_opened 180 = .ok (.iload 4, 2) := by decide +kernel
theorem dX9_opened_182 : decode cX9_opened 182 = .ok (.ireturn, 1) := by decide +kernel
set_option maxRecDepth 20000 in
theorem ggX9_provedOf_X9_findHeard : GoodIn wsX9_provedOf wsX9_findHeard := goodIn_r _ [10, 4, 11, 12, 13, 14, 9, 15, 16, 17, 18, 19, 20, 21, 22, 23, 24, 25, 26, 27, 28, 29, 30, 31, 32, 33, 34, 35, 36, 37, 38, 39, 40, 41, 42, 43, 44, 45, 46, 47, 48, 49, 50, 51, 52, 53, 54, 2, 55, 56, 57, 58, 59, 60, 61, 62, 63, 64, 65, 66, 67, 68, 69, 70, 71, 72, 73, 74, 75, 76, 77, 78, 79, 80, 81, 82, 83, 84, 85, 86, 87, 88, 89, 90, 91, 92, 93, 94, 95, 96, 97, 98, 99, 100, 101, 102, 103, 104, 105, 106, 107] (by decide +kernel) (by decide +kernel)
set_option maxRecDepth 20000 in
theorem gX9_provedOf_X9_findHeard : GoodIn wsX9_provedOf (wsV RX9 230 RX9 yX9_findHeard wsX9_findHeard) := goodIn_app (goodIn_of _ (by decide +kernel)) ggX9_provedOf_X9_findHeard
theorem dX9_provedOf_0 : decode cX9_provedOf 0 = .ok (.iconst (-1), 1) := by decide +kernel
theorem dX9_provedOf_1 : decode cX9_provedOf 1 = .ok (.istore_n 2, 1) := by decide +kernel
theorem dX9_provedOf_2 : decode cX9_provedOf 2 = .ok (.aload_n 0, 1) := by decide +kernel
theorem dX9_provedOf_3 : decode cX9_provedOf 3 = .ok (.aload_n 0, 1) := by decide +kernel
theorem dX9_provedOf_4 : decode cX9_provedOf 4 = .ok (.getfield 13, 3) := by decide +kernel
theorem dX9_provedOf_7 : decode cX9_provedOf 7 = .ok (.putfield 83, 3) := by decide +kernel
theorem dX9_provedOf_10 : decode cX9_provedOf 10 = .ok (.aload_n 0, 1) := by decide +kernel
theorem dX9_provedOf_11 : decode cX9_provedOf 11 = .ok (.getfield 83, 3) := by decide +kernel
theorem dX9_provedOf_14 : decode cX9_provedOf 14 = .ok (.iload_n 2, 1) := by decide +kernel
theorem dX9_provedOf_15 : decode cX9_provedOf 15 = .ok (.if_icmp .eq 64, 3) := by decide +kernel
theorem dX9_provedOf_18 : decode cX9_provedOf 18 = .ok (.aload_n 0, 1) := by decide +kernel
theorem dX9_provedOf_19 : decode cX9_provedOf 19 = .ok (.getfield 83, 3) := by decide +kernel
theorem dX9_provedOf_22 : decode cX9_provedOf 22 = .ok (.istore_n 2, 1) := by decide +kernel
theorem dX9_provedOf_23 : decode cX9_provedOf 23 = .ok (.aload_n 0, 1) := by decide +kernel
theorem dX9_provedOf_24 : decode cX9_provedOf 24 = .ok (.aload_n 0, 1) := by decide +kernel
theorem dX9_provedOf_25 : decode cX9_provedOf 25 = .ok (.getfield 7, 3) := by decide +kernel
theorem dX9_provedOf_28 : decode cX9_provedOf 28 = .ok (.iload_n 1, 1) := by decide +kernel
theorem dX9_provedOf_29 : decode cX9_provedOf 29 = .ok (.invokevirtual 230, 3) := by decide +kernel
theorem dX9_provedOf_32 : decode cX9_provedOf 32 = .ok (.iconst 0, 1) := by decide +kernel
theorem dX9_provedOf_33 : decode cX9_provedOf 33 = .ok (.istore_n 3, 1) := by decide +kernel
theorem dX9_provedOf_34 : decode cX9_provedOf 34 = .ok (.iload_n 3, 1) := by decide +kernel
theorem dX9_provedOf_35 : decode cX9_provedOf 35 = .ok (.aload_n 0, 1) := by decide +kernel
theorem dX9_provedOf_36 : decode cX9_provedOf 36 = .ok (.getfield 7, 3) := by decide +kernel
theorem dX9_provedOf_39 : decode cX9_provedOf 39 = .ok (.if_icmp .ge 37, 3) := by decide +kernel
theorem dX9_provedOf_42 : decode cX9_provedOf 42 = .ok (.aload_n 0, 1) := by decide +kernel
theorem dX9_provedOf_43 : decode cX9_provedOf 43 = .ok (.dup, 1) := by decide +kernel
theorem dX9_provedOf_44 : decode cX9_provedOf 44 = .ok (.getfield 83, 3) := by decide +kernel
theorem dX9_provedOf_47 : decode cX9_provedOf 47 = .ok (.aload_n 0, 1) := by decide +kernel
theorem dX9_provedOf_48 : decode cX9_provedOf 48 = .ok (.getfield 99, 3) := by decide +kernel
theorem dX9_provedOf_51 : decode cX9_provedOf 51 = .ok (.iload_n 3, 1) := by decide +kernel
theorem dX9_provedOf_52 : decode cX9_provedOf 52 = .ok (.baload, 1) := by decide +kernel
theorem dX9_provedOf_53 : decode cX9_provedOf 53 = .ok (.ifCond .eq 12, 3) := by decide +kernel
theorem dX9_provedOf_56 : decode cX9_provedOf 56 = .ok (.aload_n 0, 1) := by decide +kernel
theorem dX9_provedOf_57 : decode cX9_provedOf 57 = .ok (.getfield 29, 3) := by decide +kernel
theorem dX9_provedOf_60 : decode cX9_provedOf 60 = .ok (.iload_n 3, 1) := by decide +kernel
theorem dX9_provedOf_61 : decode cX9_provedOf 61 = .ok (.iaload, 1) := by decide +kernel
theorem dX9_provedOf_62 : decode cX9_provedOf 62 = .ok (.goto 4, 3) := by decide +kernel
theorem dX9_provedOf_65 : decode cX9_provedOf 65 = .ok (.iconst 0, 1) := by decide +kernel
theorem dX9_provedOf_66 : decode cX9_provedOf 66 = .ok (.ior, 1) := by decide +kernel
theorem dX9_provedOf_67 : decode cX9_provedOf 67 = .ok (.putfield 83, 3) := by decide +kernel
theorem dX9_provedOf_70 : decode cX9_provedOf 70 = .ok (.iinc 3 1, 3) := by decide +kernel
theorem dX9_provedOf_73 : decode cX9_provedOf 73 = .ok (.goto (-39), 3) := by decide +kernel
theorem dX9_provedOf_76 : decode cX9_provedOf 76 = .ok (.goto (-66), 3) := by decide +kernel
theorem dX9_provedOf_79 : decode cX9_provedOf 79 = .ok (.aload_n 0, 1) := by decide +kernel
theorem dX9_provedOf_80 : decode cX9_provedOf 80 = .ok (.getfield 83, 3) := by decide +kernel
theorem dX9_provedOf_83 : decode cX9_provedOf 83 = .ok (.ireturn, 1) := by decide +kernel
set_option maxRecDepth 20000 in
theorem ggX9_proved_X9_isLand : GoodIn wsX9_proved wsX9_isLand := goodIn_r _ [5, 6, 7, 8, 4, 9] (by decide +kernel) (by decide +kernel)
set_option maxRecDepth 20000 in
theorem gX9_proved_X9_isLand : GoodIn wsX9_proved (wsV RX9 177 RX9 yX9_isLand wsX9_isLand) := goodIn_app (goodIn_of _ (by decide +kernel)) ggX9_proved_X9_isLand
set_option maxRecDepth 20000 in
theorem ggX9_proved_X9_asItIs : GoodIn wsX9_proved wsX9_asItIs := goodIn_r _ [13, 14, 15, 16, 17, 18, 19, 85, 86, 87, 88, 89, 90, 91, 92, 93, 94, 95, 96, 97, 98, 99, 100, 101, 102, 103, 104, 105, 106, 107, 108, 109, 110, 111, 112, 113, 114, 115, 116, 117, 118, 119, 120, 121, 122, 123, 124] (by decide +kernel) (by decide +kernel)
set_option maxRecDepth 20000 in
theorem gX9_proved_X9_asItIs : GoodIn wsX9_proved (wsV RX9 211 RX9 yX9_asItIs wsX9_asItIs) := goodIn_app (goodIn_of _ (by decide +kernel)) ggX9_proved_X9_asItIs
set_option maxRecDepth 20000 in
theorem ggX9_proved_X9_provedOf : GoodIn wsX9_proved wsX9_provedOf := goodIn_r _ [23, 14, 15, 24, 25, 26, 27, 28, 29, 4, 30, 18, 31, 32, 33, 34, 35, 36, 37, 38, 39, 40, 41, 42, 43, 44, 45, 46, 47, 48, 49, 50, 17, 51, 52, 53, 54, 55, 56, 57, 58, 59, 60, 61, 62, 63, 64, 65, 66, 67, 68, 69, 19, 70, 71, 72, 73, 74, 75, 76, 77, 78, 79, 80, 81, 82, 83, 84, 85, 86, 87, 88, 89, 90, 91, 92, 93, 94, 95, 96, 97, 98, 99, 100, 101, 102, 103, 104, 105, 106, 107, 108, 109, 110, 111, 112, 113, 114, 115, 116, 117, 118, 119, 120, 121, 122, 123, 124] (by decide +kernel) (by decide +kernel)
set_option maxRecDepth 20000 in
theorem gX9_proved_X9_provedOf : GoodIn wsX9_proved (wsV RX9 243 RX9 yX9_provedOf wsX9_provedOf) := goodIn_app (goodIn_of _ (by decide +kernel)) ggX9_proved_X9_provedOf
theorem dX9_proved_0 : decode cX9_proved 0 = .ok (.aload_n 0, 1) := by decide +kernel
theorem dX9_proved_1 : decode cX9_proved 1 = .ok (.iload_n 1, 1) := by decide +kernel
theorem dX9_proved_2 : decode cX9_proved 2 = .ok (.invokevirtual 177, 3) := by decide +kernel
theorem dX9_proved_5 : decode cX9_proved 5 = .ok (.ifCond .ne 5, 3) := by decide +kernel
theorem dX9_proved_8 : decode cX9_proved 8 = .ok (.iconst (-1), 1) := by decide +kernel
theorem dX9_proved_9 : decode cX9_proved 9 = .ok (.ireturn, 1) := by decide +kernel
theorem dX9_proved_10 : decode cX9_proved 10 = .ok (.aload_n 0, 1) := by decide +kernel
theorem dX9_proved_11 : decode cX9_proved 11 = .ok (.invokevirtual 211, 3) := by decide +kernel
theorem dX9_proved_14 : decode cX9_proved 14 = .ok (.aload_n 0, 1) := by decide +kernel
theorem dX9_proved_15 : decode cX9_proved 15 = .ok (.iload_n 1, 1) := by decide +kernel
theorem dX9_proved_16 : decode cX9_proved 16 = .ok (.invokevirtual 243, 3) := by decide +kernel
theorem dX9_proved_19 : decode cX9_proved 19 = .ok (.ireturn, 1) := by decide +kernel
set_option maxRecDepth 20000 in
theorem ggX9_needed_X9_isLand : GoodIn wsX9_needed wsX9_isLand := goodIn_r _ [7, 8, 9, 10, 6, 11] (by decide +kernel) (by decide +kernel)
set_option maxRecDepth 20000 in
theorem gX9_needed_X9_isLand : GoodIn wsX9_needed (wsV RX9 177 RX9 yX9_isLand wsX9_isLand) := goodIn_app (goodIn_of _ (by decide +kernel)) ggX9_needed_X9_isLand
set_option maxRecDepth 20000 in
theorem ggX9_needed_X9_in : GoodIn wsX9_needed wsX9_in := goodIn_r _ [11] (by decide +kernel) (by decide +kernel)
set_option maxRecDepth 20000 in
theorem gX9_needed_X9_in : GoodIn wsX9_needed (wsV RX9 133 RX9 yX9_in wsX9_in) := goodIn_app (goodIn_of _ (by decide +kernel)) ggX9_needed_X9_in
set_option maxRecDepth 20000 in
theorem ggX9_needed_X9_asItIs : GoodIn wsX9_needed wsX9_asItIs := goodIn_r _ [15, 16, 17, 18, 19, 2, 20, 85, 86, 87, 88, 89, 90, 91, 92, 93, 94, 95, 96, 97, 98, 99, 100, 101, 102, 103, 104, 105, 106, 107, 108, 109, 110, 111, 112, 113, 114, 115, 116, 117, 118, 119, 120, 121, 122, 123, 124] (by decide +kernel) (by decide +kernel)
set_option maxRecDepth 20000 in
theorem gX9_needed_X9_asItIs : GoodIn wsX9_needed (wsV RX9 211 RX9 yX9_asItIs wsX9_asItIs) := goodIn_app (goodIn_of _ (by decide +kernel)) ggX9_needed_X9_asItIs
set_option maxRecDepth 20000 in
theorem ggX9_needed_X9_provedOf : GoodIn wsX9_needed wsX9_provedOf := goodIn_r _ [24, 16, 17, 1, 25, 26, 27, 28, 29, 6, 30, 2, 31, 32, 33, 34, 35, 36, 37, 38, 39, 40, 41, 42, 43, 44, 45, 46, 47, 48, 49, 50, 19, 51, 52, 53, 54, 55, 56, 57, 58, 59, 60, 61, 62, 63, 64, 65, 66, 67, 68, 69, 20, 70, 71, 72, 73, 74, 75, 76, 77, 78, 79, 80, 81, 82, 83, 84, 85, 86, 87, 88, 89, 90, 91, 92, 93, 94, 95, 96, 97, 98, 99, 100, 101, 102, 103, 104, 105, 106, 107, 108, 109, 110, 111, 112, 113, 114, 115, 116, 117, 118, 119, 120, 121, 122, 123, 124] (by decide +kernel) (by decide +kernel)
set_option maxRecDepth 20000 in
theorem gX9_needed_X9_provedOf : GoodIn wsX9_needed (wsV RX9 243 RX9 yX9_provedOf wsX9_provedOf) := goodIn_app (goodIn_of _ (by decide +kernel)) ggX9_needed_X9_provedOf
theorem dX9_needed_0 : decode cX9_needed 0 = .ok (.aload_n 0, 1) := by decide +kernel
theorem dX9_needed_1 : decode cX9_needed 1 = .ok (.iload_n 2, 1) := by decide +kernel
theorem dX9_needed_2 : decode cX9_needed 2 = .ok (.invokevirtual 177, 3) := by decide +kernel
theorem dX9_needed_5 : decode cX9_needed 5 = .ok (.ifCond .ne 5, 3) := by decide +kernel
theorem dX9_needed_8 : decode cX9_needed 8 = .ok (.iconst (-1), 1) := by decide +kernel
theorem dX9_needed_9 : decode cX9_needed 9 = .ok (.ireturn, 1) := by decide +kernel
theorem dX9_needed_10 : decode cX9_needed 10 = .ok (.aload_n 0, 1) := by decide +kernel
theorem dX9_needed_11 : decode cX9_needed 11 = .ok (.iload_n 1, 1) := by decide +kernel
theorem dX9_needed_12 : decode cX9_needed 12 = .ok (.iconst 0, 1) := by decide +kernel
theorem dX9_needed_13 : decode cX9_needed 13 = .ok (.sipush 1023, 3) := by decide +kernel
theorem dX9_needed_16 : decode cX9_needed 16 = .ok (.invokevirtual 133, 3) := by decide +kernel
theorem dX9_needed_19 : decode cX9_needed 19 = .ok (.ifCond .ne 6, 3) := by decide +kernel
theorem dX9_needed_22 : decode cX9_needed 22 = .ok (.bipush (-2), 2) := by decide +kernel
theorem dX9_needed_24 : decode cX9_needed 24 = .ok (.ireturn, 1) := by decide +kernel
theorem dX9_needed_25 : decode cX9_needed 25 = .ok (.aload_n 0, 1) := by decide +kernel
theorem dX9_needed_26 : decode cX9_needed 26 = .ok (.invokevirtual 211, 3) := by decide +kernel
theorem dX9_needed_29 : decode cX9_needed 29 = .ok (.iload_n 1, 1) := by decide +kernel
theorem dX9_needed_30 : decode cX9_needed 30 = .ok (.aload_n 0, 1) := by decide +kernel
theorem dX9_needed_31 : decode cX9_needed 31 = .ok (.iload_n 2, 1) := by decide +kernel
theorem dX9_needed_32 : decode cX9_needed 32 = .ok (.invokevirtual 243, 3) := by decide +kernel
theorem dX9_needed_35 : decode cX9_needed 35 = .ok (.iconst (-1), 1) := by decide +kernel
theorem dX9_needed_36 : decode cX9_needed 36 = .ok (.ixor, 1) := by decide +kernel
theorem dX9_needed_37 : decode cX9_needed 37 = .ok (.iand, 1) := by decide +kernel
theorem dX9_needed_38 : decode cX9_needed 38 = .ok (.ifCond .eq 6, 3) := by decide +kernel
theorem dX9_needed_41 : decode cX9_needed 41 = .ok (.bipush (-5), 2) := by decide +kernel
theorem dX9_needed_43 : decode cX9_needed 43 = .ok (.ireturn, 1) := by decide +kernel
theorem dX9_needed_44 : decode cX9_needed 44 = .ok (.iconst 0, 1) := by decide +kernel
theorem dX9_needed_45 : decode cX9_needed 45 = .ok (.istore_n 3, 1) := by decide +kernel
theorem dX9_needed_46 : decode cX9_needed 46 = .ok (.iconst 0, 1) := by decide +kernel
theorem dX9_needed_47 : decode cX9_needed 47 = .ok (.istore 4, 2) := by decide +kernel
theorem dX9_needed_49 : decode cX9_needed 49 = .ok (.iload 4, 2) := by decide +kernel
theorem dX9_needed_51 : decode cX9_needed 51 = .ok (.aload_n 0, 1) := by decide +kernel
theorem dX9_needed_52 : decode cX9_needed 52 = .ok (.getfield 7, 3) := by decide +kernel
theorem dX9_needed_55 : decode cX9_needed 55 = .ok (.if_icmp .ge 38, 3) := by decide +kernel
theorem dX9_needed_58 : decode cX9_needed 58 = .ok (.aload_n 0, 1) := by decide +kernel
theorem dX9_needed_59 : decode cX9_needed 59 = .ok (.iload 4, 2) := by decide +kernel
theorem dX9_needed_61 : decode cX9_needed 61 = .ok (.putfield 89, 3) := by decide +kernel
theorem dX9_needed_64 : decode cX9_needed 64 = .ok (.iload_n 3, 1) := by decide +kernel
theorem dX9_needed_65 : decode cX9_needed 65 = .ok (.iload_n 1, 1) := by decide +kernel
theorem dX9_needed_66 : decode cX9_needed 66 = .ok (.aload_n 0, 1) := by decide +kernel
theorem dX9_needed_67 : decode cX9_needed 67 = .ok (.iload_n 2, 1) := by decide +kernel
theorem dX9_needed_68 : decode cX9_needed 68 = .ok (.invokevirtual 243, 3) := by decide +kernel
theorem dX9_needed_71 : decode cX9_needed 71 = .ok (.iconst (-1), 1) := by decide +kernel
theorem dX9_needed_72 : decode cX9_needed 72 = .ok (.ixor, 1) := by decide +kernel
theorem dX9_needed_73 : decode cX9_needed 73 = .ok (.iand, 1) := by decide +kernel
theorem dX9_needed_74 : decode cX9_needed 74 = .ok (.ifCond .eq 10, 3) := by decide +kernel
theorem dX9_needed_77 : decode cX9_needed 77 = .ok (.iconst 1, 1) := by decide +kernel
theorem dX9_needed_78 : decode cX9_needed 78 = .ok (.iload 4, 2) := by decide +kernel
theorem dX9_needed_80 : decode cX9_needed 80 = .ok (.ishl, 1) := by decide +kernel
theorem dX9_needed_81 : decode cX9_needed 81 = .ok (.goto 4, 3) := by decide +kernel
theorem dX9_needed_84 : decode cX9_needed 84 = .ok (.iconst 0, 1) := by decide +kernel
theorem dX9_needed_85 : decode cX9_needed 85 = .ok (.ior, 1) := by decide +kernel
theorem dX9_needed_86 : decode cX9_needed 86 = .ok (.istore_n 3, 1) := by decide +kernel
theorem dX9_needed_87 : decode cX9_needed 87 = .ok (.iinc 4 1, 3) := by decide +kernel
theorem dX9_needed_90 : decode cX9_needed 90 = .ok (.goto (-41), 3) := by decide +kernel
theorem dX9_needed_93 : decode cX9_needed 93 = .ok (.iload_n 3, 1) := by decide +kernel
theorem dX9_needed_94 : decode cX9_needed 94 = .ok (.ireturn, 1) := by decide +kernel
set_option maxRecDepth 20000 in
theorem ggX9_isPlan_X9_asItIs : GoodIn wsX9_isPlan wsX9_asItIs := goodIn_r _ [11, 12, 3, 13, 14, 15, 5, 78, 79, 80, 81, 82, 83, 84, 85, 86, 87, 88, 89, 90, 91, 92, 93, 94, 95, 96, 97, 98, 99, 100, 101, 102, 103, 104, 105, 106, 107, 108, 109, 110, 111, 112, 113, 114, 115, 116, 117] (by decide +kernel) (by decide +kernel)
set_option maxRecDepth 20000 in
theorem gX9_isPlan_X9_asItIs : GoodIn wsX9_isPlan (wsV RX9 211 RX9 yX9_asItIs wsX9_asItIs) := goodIn_app (goodIn_of _ (by decide +kernel)) ggX9_isPlan_X9_asItIs
set_option maxRecDepth 20000 in
theorem ggX9_isPlan_X9_isHeard : GoodIn wsX9_isPlan wsX9_isHeard := goodIn_r _ [19, 20, 21, 22, 10, 23, 24, 25, 26, 27, 28, 29, 14, 30, 31, 32, 33, 34, 35, 36, 37, 38, 39, 40, 41, 42, 43, 44, 45, 46, 47, 48, 5, 6, 49, 3, 50, 51, 52, 53, 54, 55, 56, 57, 58, 59, 60, 61, 62, 63, 64, 65, 66, 67, 68, 69, 70, 71, 15, 72, 73, 74, 75, 76, 77, 78, 79, 80, 81, 82, 83, 84, 85, 86, 87, 88, 89, 90, 91, 92, 93, 94, 95, 96, 97, 98, 99, 100, 101, 102, 103, 104, 105, 106, 107, 108, 109, 110, 111, 112, 113, 114, 115, 116, 117] (by decide +kernel) (by decide +kernel)
set_option maxRecDepth 20000 in
theorem gX9_isPlan_X9_isHeard : GoodIn wsX9_isPlan (wsV RX9 237 RX9 yX9_isHeard wsX9_isHeard) := goodIn_app (goodIn_of _ (by decide +kernel)) ggX9_isPlan_X9_isHeard
theorem dX9_isPlan_0 : decode cX9_isPlan 0 = .ok (.aload_n 0, 1) := by decide +kernel
theorem dX9_isPlan_1 : decode cX9_isPlan 1 = .ok (.invokevirtual 211, 3) := by decide +kernel
theorem dX9_isPlan_4 : decode cX9_isPlan 4 = .ok (.iconst 0, 1) := by decide +kernel
theorem dX9_isPlan_5 : decode cX9_isPlan 5 = .ok (.istore_n 3, 1) := by decide +kernel
theorem dX9_isPlan_6 : decode cX9_isPlan 6 = .ok (.iload_n 3, 1) := by decide +kernel
theorem dX9_isPlan_7 : decode cX9_isPlan 7 = .ok (.iload_n 1, 1) := by decide +kernel
theorem dX9_isPlan_8 : decode cX9_isPlan 8 = .ok (.if_icmp .ge 67, 3) := by decide +kernel
theorem dX9_isPlan_11 : decode cX9_isPlan 11 = .ok (.aload_n 0, 1) := by decide +kernel
theorem dX9_isPlan_12 : decode cX9_isPlan 12 = .ok (.getfield 102, 3) := by decide +kernel
theorem dX9_isPlan_15 : decode cX9_isPlan 15 = .ok (.aload_n 0, 1) := by decide +kernel
theorem dX9_isPlan_16 : decode cX9_isPlan 16 = .ok (.getfield 105, 3) := by decide +kernel
theorem dX9_isPlan_19 : decode cX9_isPlan 19 = .ok (.iload_n 3, 1) := by decide +kernel
theorem dX9_isPlan_20 : decode cX9_isPlan 20 = .ok (.iaload, 1) := by decide +kernel
theorem dX9_isPlan_21 : decode cX9_isPlan 21 = .ok (.iaload, 1) := by decide +kernel
theorem dX9_isPlan_22 : decode cX9_isPlan 22 = .ok (.istore 4, 2) := by decide +kernel
theorem dX9_isPlan_24 : decode cX9_isPlan 24 = .ok (.aload_n 0, 1) := by decide +kernel
theorem dX9_isPlan_25 : decode cX9_isPlan 25 = .ok (.iload 4, 2) := by decide +kernel
theorem dX9_isPlan_27 : decode cX9_isPlan 27 = .ok (.iconst 0, 1) := by decide +kernel
theorem dX9_isPlan_28 : decode cX9_isPlan 28 = .ok (.iload_n 2, 1) := by decide +kernel
theorem dX9_isPlan_29 : decode cX9_isPlan 29 = .ok (.invokevirtual 237, 3) := by decide +kernel
theorem dX9_isPlan_32 : decode cX9_isPlan 32 = .ok (.ifCond .ne 5, 3) := by decide +kernel
theorem dX9_isPlan_35 : decode cX9_isPlan 35 = .ok (.iconst 0, 1) := by decide +kernel
theorem dX9_isPlan_36 : decode cX9_isPlan 36 = .ok (.ireturn, 1) := by decide +kernel
theorem dX9_isPlan_37 : decode cX9_isPlan 37 = .ok (.aload_n 0, 1) := by decide +kernel
theorem dX9_isPlan_38 : decode cX9_isPlan 38 = .ok (.dup, 1) := by decide +kernel
theorem dX9_isPlan_39 : decode cX9_isPlan 39 = .ok (.getfield 83, 3) := by decide +kernel
theorem dX9_isPlan_42 : decode cX9_isPlan 42 = .ok (.aload_n 0, 1) := by decide +kernel
theorem dX9_isPlan_43 : decode cX9_isPlan 43 = .ok (.getfield 29, 3) := by decide +kernel
theorem dX9_isPlan_46 : decode cX9_isPlan 46 = .ok (.iload 4, 2) := by decide +kernel
theorem dX9_isPlan_48 : decode cX9_isPlan 48 = .ok (.iaload, 1) := by decide +kernel
theorem dX9_isPlan_49 : decode cX9_isPlan 49 = .ok (.ior, 1) := by decide +kernel
theorem dX9_isPlan_50 : decode cX9_isPlan 50 = .ok (.putfield 83, 3) := by decide +kernel
theorem dX9_isPlan_53 : decode cX9_isPlan 53 = .ok (.aload_n 0, 1) := by decide +kernel
theorem dX9_isPlan_54 : decode cX9_isPlan 54 = .ok (.getfield 92, 3) := by decide +kernel
theorem dX9_isPlan_57 : decode cX9_isPlan 57 = .ok (.aload_n 0, 1) := by decide +kernel
theorem dX9_isPlan_58 : decode cX9_isPlan 58 = .ok (.getfield 26, 3) := by decide +kernel
theorem dX9_isPlan_61 : decode cX9_isPlan 61 = .ok (.iload 4, 2) := by decide +kernel
theorem dX9_isPlan_63 : decode cX9_isPlan 63 = .ok (.iaload, 1) := by decide +kernel
theorem dX9_isPlan_64 : decode cX9_isPlan 64 = .ok (.dup2, 1) := by decide +kernel
theorem dX9_isPlan_65 : decode cX9_isPlan 65 = .ok (.iaload, 1) := by decide +kernel
theorem dX9_isPlan_66 : decode cX9_isPlan 66 = .ok (.iconst 1, 1) := by decide +kernel
theorem dX9_isPlan_67 : decode cX9_isPlan 67 = .ok (.iadd, 1) := by decide +kernel
theorem dX9_isPlan_68 : decode cX9_isPlan 68 = .ok (.iastore, 1) := by decide +kernel
theorem dX9_isPlan_69 : decode cX9_isPlan 69 = .ok (.iinc 3 1, 3) := by decide +kernel
theorem dX9_isPlan_72 : decode cX9_isPlan 72 = .ok (.goto (-66), 3) := by decide +kernel
theorem dX9_isPlan_75 : decode cX9_isPlan 75 = .ok (.iconst 1, 1) := by decide +kernel
theorem dX9_isPlan_76 : decode cX9_isPlan 76 = .ok (.ireturn, 1) := by decide +kernel
set_option maxRecDepth 20000 in
theorem ggX9_isOrder_X9_ones : GoodIn wsX9_isOrder wsX9_ones := goodIn_r _ [6] (by decide +kernel) (by decide +kernel)
set_option maxRecDepth 20000 in
theorem gX9_isOrder_X9_ones : GoodIn wsX9_isOrder (wsV RX9 240 RX9 yX9_ones wsX9_ones) := goodIn_app (goodIn_of _ (by decide +kernel)) ggX9_isOrder_X9_ones
theorem dX9_isOrder_0 : decode cX9_isOrder 0 = .ok (.iload_n 1, 1) := by decide +kernel
theorem dX9_isOrder_1 : decode cX9_isOrder 1 = .ok (.istore_n 3, 1) := by decide +kernel
theorem dX9_isOrder_2 : decode cX9_isOrder 2 = .ok (.iconst 0, 1) := by decide +kernel
theorem dX9_isOrder_3 : decode cX9_isOrder 3 = .ok (.istore 4, 2) := by decide +kernel
theorem dX9_isOrder_5 : decode cX9_isOrder 5 = .ok (.iload_n 2, 1) := by decide +kernel
theorem dX9_isOrder_6 : decode cX9_isOrder 6 = .ok (.iconst 1, 1) := by decide +kernel
theorem dX9_isOrder_7 : decode cX9_isOrder 7 = .ok (.isub, 1) := by decide +kernel
theorem dX9_isOrder_8 : decode cX9_isOrder 8 = .ok (.istore 5, 2) := by decide +kernel
theorem dX9_isOrder_10 : decode cX9_isOrder 10 = .ok (.iload 5, 2) := by decide +kernel
theorem dX9_isOrder_12 : decode cX9_isOrder 12 = .ok (.ifCond .lt 37, 3) := by decide +kernel
theorem dX9_isOrder_15 : decode cX9_isOrder 15 = .ok (.aload_n 0, 1) := by decide +kernel
theorem dX9_isOrder_16 : decode cX9_isOrder 16 = .ok (.getfield 105, 3) := by decide +kernel
theorem dX9_isOrder_19 : decode cX9_isOrder 19 = .ok (.iload 5, 2) := by decide +kernel
theorem dX9_isOrder_21 : decode cX9_isOrder 21 = .ok (.iload_n 3, 1) := by decide +kernel
theorem dX9_isOrder_22 : decode cX9_isOrder 22 = .ok (.iload_n 2, 1) := by decide +kernel
theorem dX9_isOrder_23 : decode cX9_isOrder 23 = .ok (.irem, 1) := by decide +kernel
theorem dX9_isOrder_24 : decode cX9_isOrder 24 = .ok (.iastore, 1) := by decide +kernel
theorem dX9_isOrder_25 : decode cX9_isOrder 25 = .ok (.iload_n 3, 1) := by decide +kernel
theorem dX9_isOrder_26 : decode cX9_isOrder 26 = .ok (.iload_n 2, 1) := by decide +kernel
theorem dX9_isOrder_27 : decode cX9_isOrder 27 = .ok (.idiv, 1) := by decide +kernel
theorem dX9_isOrder_28 : decode cX9_isOrder 28 = .ok (.istore_n 3, 1) := by decide +kernel
theorem dX9_isOrder_29 : decode cX9_isOrder 29 = .ok (.iload 4, 2) := by decide +kernel
theorem dX9_isOrder_31 : decode cX9_isOrder 31 = .ok (.iconst 1, 1) := by decide +kernel
theorem dX9_isOrder_32 : decode cX9_isOrder 32 = .ok (.aload_n 0, 1) := by decide +kernel
theorem dX9_isOrder_33 : decode cX9_isOrder 33 = .ok (.getfield 105, 3) := by decide +kernel
theorem dX9_isOrder_36 : decode cX9_isOrder 36 = .ok (.iload 5, 2) := by decide +kernel
theorem dX9_isOrder_38 : decode cX9_isOrder 38 = .ok (.iaload, 1) := by decide +kernel
theorem dX9_isOrder_39 : decode cX9_isOrder 39 = .ok (.ishl, 1) := by decide +kernel
theorem dX9_isOrder_40 : decode cX9_isOrder 40 = .ok (.ior, 1) := by decide +kernel
theorem dX9_isOrder_41 : decode cX9_isOrder 41 = .ok (.istore 4, 2) := by decide +kernel
theorem dX9_isOrder_43 : decode cX9_isOrder 43 = .ok (.iinc 5 (-1), 3) := by decide +kernel
theorem dX9_isOrder_46 : decode cX9_isOrder 46 = .ok (.goto (-36), 3) := by decide +kernel
theorem dX9_isOrder_49 : decode cX9_isOrder 49 = .ok (.aload_n 0, 1) := by decide +kernel
theorem dX9_isOrder_50 : decode cX9_isOrder 50 = .ok (.iload 4, 2) := by decide +kernel
theorem dX9_isOrder_52 : decode cX9_isOrder 52 = .ok (.invokevirtual 240, 3) := by decide +kernel
theorem dX9_isOrder_55 : decode cX9_isOrder 55 = .ok (.iload_n 2, 1) := by decide +kernel
theorem dX9_isOrder_56 : decode cX9_isOrder 56 = .ok (.if_icmp .ne 7, 3) := by decide +kernel
theorem dX9_isOrder_59 : decode cX9_isOrder 59 = .ok (.iconst 1, 1) := by decide +kernel
theorem dX9_isOrder_60 : decode cX9_isOrder 60 = .ok (.goto 4, 3) := by decide +kernel
theorem dX9_isOrder_63 : decode cX9_isOrder 63 = .ok (.iconst 0, 1) := by decide +kernel
theorem dX9_isOrder_64 : decode cX9_isOrder 64 = .ok (.ireturn, 1) := by decide +kernel
set_option maxRecDepth 20000 in
theorem ggX9_plan_X9_isLand : GoodIn wsX9_plan wsX9_isLand := goodIn_r _ [8, 9, 10, 11, 7, 12] (by decide +kernel) (by decide +kernel)
set_option maxRecDepth 20000 in
theorem gX9_plan_X9_isLand : GoodIn wsX9_plan (wsV RX9 177 RX9 yX9_isLand wsX9_isLand) := goodIn_app (goodIn_of _ (by decide +kernel)) ggX9_plan_X9_isLand
set_option maxRecDepth 20000 in
theorem ggX9_plan_X9_in : GoodIn wsX9_plan wsX9_in := goodIn_r _ [12] (by decide +kernel) (by decide +kernel)
set_option maxRecDepth 20000 in
theorem gX9_plan_X9_in : GoodIn wsX9_plan (wsV RX9 133 RX9 yX9_in wsX9_in) := goodIn_app (goodIn_of _ (by decide +kernel)) ggX9_plan_X9_in
set_option maxRecDepth 20000 in
theorem ggX9_plan_X9_ones : GoodIn wsX9_plan wsX9_ones := goodIn_r _ [16] (by decide +kernel) (by decide +kernel)
set_option maxRecDepth 20000 in
theorem gX9_plan_X9_ones : GoodIn wsX9_plan (wsV RX9 240 RX9 yX9_ones wsX9_ones) := goodIn_app (goodIn_of _ (by decide +kernel)) ggX9_plan_X9_ones
set_option maxRecDepth 20000 in
theorem ggX9_plan_X9_has : GoodIn wsX9_plan wsX9_has := goodIn_r _ [20] (by decide +kernel) (by decide +kernel)
set_option maxRecDepth 20000 in
theorem gX9_plan_X9_has : GoodIn wsX9_plan (wsV RX9 189 RX9 yX9_has wsX9_has) := goodIn_app (goodIn_of _ (by decide +kernel)) ggX9_plan_X9_has
set_option maxRecDepth 20000 in
theorem ggX9_plan_X9_isOrder : GoodIn wsX9_plan wsX9_isOrder := goodIn_r _ [24, 3, 13, 14, 15, 7, 16, 99, 100, 101, 102, 103, 104, 105, 106, 107, 108, 109, 110, 111, 112, 113, 114, 115, 116, 117, 118, 119, 120, 121, 122, 123, 124, 125, 126, 127, 128, 129, 130, 131, 132, 133, 134, 135, 136, 137, 138] (by decide +kernel) (by decide +kernel)
set_option maxRecDepth 20000 in
theorem gX9_plan_X9_isOrder : GoodIn wsX9_plan (wsV RX9 246 RX9 yX9_isOrder wsX9_isOrder) := goodIn_app (goodIn_of _ (by decide +kernel)) ggX9_plan_X9_isOrder
set_option maxRecDepth 20000 in
theorem ggX9_plan_X9_isPlan : GoodIn wsX9_plan wsX9_isPlan := goodIn_r _ [28, 2, 3, 29, 30, 31, 32, 33, 34, 35, 7, 36, 37, 38, 39, 40, 41, 42, 43, 44, 45, 46, 47, 48, 49, 50, 51, 52, 53, 54, 55, 56, 57, 58, 59, 60, 61, 62, 63, 64, 65, 66, 67, 68, 69, 70, 71, 72, 73, 74, 75, 76, 77, 78, 79, 80, 81, 82, 17, 18, 19, 20, 83, 84, 85, 86, 87, 88, 89, 90, 91, 92, 93, 94, 95, 96, 97, 98, 99, 100, 101, 102, 103, 104, 105, 106, 107, 108, 109, 110, 111, 112, 113, 114, 115, 116, 117, 118, 119, 120, 121, 122, 123, 124, 125, 126, 127, 128, 129, 130, 131, 132, 133, 134, 135, 136, 137, 138] (by decide +kernel) (by decide +kernel)
set_option maxRecDepth 20000 in
theorem gX9_plan_X9_isPlan : GoodIn wsX9_plan (wsV RX9 249 RX9 yX9_isPlan wsX9_isPlan) := goodIn_app (goodIn_of _ (by decide +kernel)) ggX9_plan_X9_isPlan
theorem dX9_plan_0 : decode cX9_plan 0 = .ok (.aload_n 0, 1) := by decide +kernel
theorem dX9_plan_1 : decode cX9_plan 1 = .ok (.iload_n 2, 1) := by decide +kernel
theorem dX9_plan_2 : decode cX9_plan 2 = .ok (.invokevirtual 177, 3) := by decide +kernel
theorem dX9_plan_5 : decode cX9_plan 5 = .ok (.ifCond .eq 8, 3) := by decide +kernel
theorem dX9_plan_8 : decode cX9_plan 8 = .ok (.iload_n 3, 1) := by decide +kernel
theorem dX9_plan_9 : decode cX9_plan 9 = .ok (.iconst (-1), 1) := by decide +kernel
theorem dX9_plan_10 : decode cX9_plan 10 = .ok (.if_icmp .ge 5, 3) := by decide +kernel
theorem dX9_plan_13 : decode cX9_plan 13 = .ok (.iconst (-1), 1) := by decide +kernel
theorem dX9_plan_14 : decode cX9_plan 14 = .ok (.ireturn, 1) := by decide +kernel
theorem dX9_plan_15 : decode cX9_plan 15 = .ok (.aload_n 0, 1) := by decide +kernel
theorem dX9_plan_16 : decode cX9_plan 16 = .ok (.iload_n 1, 1) := by decide +kernel
theorem dX9_plan_17 : decode cX9_plan 17 = .ok (.iconst 1, 1) := by decide +kernel
theorem dX9_plan_18 : decode cX9_plan 18 = .ok (.iconst 1, 1) := by decide +kernel
theorem dX9_plan_19 : decode cX9_plan 19 = .ok (.aload_n 0, 1) := by decide +kernel
theorem dX9_plan_20 : decode cX9_plan 20 = .ok (.getfield 7, 3) := by decide +kernel
theorem dX9_plan_23 : decode cX9_plan 23 = .ok (.ishl, 1) := by decide +kernel
theorem dX9_plan_24 : decode cX9_plan 24 = .ok (.iconst 1, 1) := by decide +kernel
theorem dX9_plan_25 : decode cX9_plan 25 = .ok (.isub, 1) := by decide +kernel
theorem dX9_plan_26 : decode cX9_plan 26 = .ok (.invokevirtual 133, 3) := by decide +kernel
theorem dX9_plan_29 : decode cX9_plan 29 = .ok (.ifCond .eq 12, 3) := by decide +kernel
theorem dX9_plan_32 : decode cX9_plan 32 = .ok (.aload_n 0, 1) := by decide +kernel
theorem dX9_plan_33 : decode cX9_plan 33 = .ok (.iload_n 1, 1) := by decide +kernel
theorem dX9_plan_34 : decode cX9_plan 34 = .ok (.invokevirtual 240, 3) := by decide +kernel
theorem dX9_plan_37 : decode cX9_plan 37 = .ok (.iconst 5, 1) := by decide +kernel
theorem dX9_plan_38 : decode cX9_plan 38 = .ok (.if_icmp .le 6, 3) := by decide +kernel
theorem dX9_plan_41 : decode cX9_plan 41 = .ok (.bipush (-2), 2) := by decide +kernel
theorem dX9_plan_43 : decode cX9_plan 43 = .ok (.ireturn, 1) := by decide +kernel
theorem dX9_plan_44 : decode cX9_plan 44 = .ok (.iconst 0, 1) := by decide +kernel
theorem dX9_plan_45 : decode cX9_plan 45 = .ok (.istore 4, 2) := by decide +kernel
theorem dX9_plan_47 : decode cX9_plan 47 = .ok (.iconst 1, 1) := by decide +kernel
theorem dX9_plan_48 : decode cX9_plan 48 = .ok (.istore 5, 2) := by decide +kernel
theorem dX9_plan_50 : decode cX9_plan 50 = .ok (.iconst 0, 1) := by decide +kernel
theorem dX9_plan_51 : decode cX9_plan 51 = .ok (.istore 6, 2) := by decide +kernel
theorem dX9_plan_53 : decode cX9_plan 53 = .ok (.iload 6, 2) := by decide +kernel
theorem dX9_plan_55 : decode cX9_plan 55 = .ok (.aload_n 0, 1) := by decide +kernel
theorem dX9_plan_56 : decode cX9_plan 56 = .ok (.getfield 7, 3) := by decide +kernel
theorem dX9_plan_59 : decode cX9_plan 59 = .ok (.if_icmp .ge 34, 3) := by decide +kernel
theorem dX9_plan_62 : decode cX9_plan 62 = .ok (.aload_n 0, 1) := by decide +kernel
theorem dX9_plan_63 : decode cX9_plan 63 = .ok (.iload_n 1, 1) := by decide +kernel
theorem dX9_plan_64 : decode cX9_plan 64 = .ok (.iload 6, 2) := by decide +kernel
theorem dX9_plan_66 : decode cX9_plan 66 = .ok (.invokevirtual 189, 3) := by decide +kernel
theorem dX9_plan_69 : decode cX9_plan 69 = .ok (.ifCond .ne 6, 3) := by decide +kernel
theorem dX9_plan_72 : decode cX9_plan 72 = .ok (.goto 15, 3) := by decide +kernel
theorem dX9_plan_75 : decode cX9_plan 75 = .ok (.aload_n 0, 1) := by decide +kernel
theorem dX9_plan_76 : decode cX9_plan 76 = .ok (.getfield 102, 3) := by decide +kernel
theorem dX9_plan_79 : decode cX9_plan 79 = .ok (.iload 4, 2) := by decide +kernel
theorem dX9_plan_81 : decode cX9_plan 81 = .ok (.iload 6, 2) := by decide +kernel
theorem dX9_plan_83 : decode cX9_plan 83 = .ok (.iastore, 1) := by decide +kernel
theorem dX9_plan_84 : decode cX9_plan 84 = .ok (.iinc 4 1, 3) := by decide +kernel
theorem dX9_plan_87 : decode cX9_plan 87 = .ok (.iinc 6 1, 3) := by decide +kernel
theorem dX9_plan_90 : decode cX9_plan 90 = .ok (.goto (-37), 3) := by decide +kernel
theorem dX9_plan_93 : decode cX9_plan 93 = .ok (.iconst 0, 1) := by decide +kernel
theorem dX9_plan_94 : decode cX9_plan 94 = .ok (.istore 6, 2) := by decide +kernel
theorem dX9_plan_96 : decode cX9_plan 96 = .ok (.iload 6, 2) := by decide +kernel
theorem dX9_plan_98 : decode cX9_plan 98 = .ok (.iload 4, 2) := by decide +kernel
theorem dX9_plan_100 : decode cX9_plan 100 = .ok (.if_icmp .ge 16, 3) := by decide +kernel
theorem dX9_plan_103 : decode cX9_plan 103 = .ok (.iload 5, 2) := by decide +kernel
theorem dX9_plan_105 : decode cX9_plan 105 = .ok (.iload 4, 2) := by decide +kernel
theorem dX9_plan_107 : decode cX9_plan 107 = .ok (.imul, 1) := by decide +kernel
theorem dX9_plan_108 : decode cX9_plan 108 = .ok (.istore 5, 2) := by decide +kernel
theorem dX9_plan_110 : decode cX9_plan 110 = .ok (.iinc 6 1, 3) := by decide +kernel
theorem dX9_plan_113 : decode cX9_plan 113 = .ok (.goto (-17), 3) := by decide +kernel
theorem dX9_plan_116 : decode cX9_plan 116 = .ok (.iconst 0, 1) := by decide +kernel
theorem dX9_plan_117 : decode cX9_plan 117 = .ok (.istore 6, 2) := by decide +kernel
theorem dX9_plan_119 : decode cX9_plan 119 = .ok (.iload 6, 2) := by decide +kernel
theorem dX9_plan_121 : decode cX9_plan 121 = .ok (.iload 5, 2) := by decide +kernel
theorem dX9_plan_123 : decode cX9_plan 123 = .ok (.if_icmp .ge 61, 3) := by decide +kernel
theorem dX9_plan_126 : decode cX9_plan 126 = .ok (.aload_n 0, 1) := by decide +kernel
theorem dX9_plan_127 : decode cX9_plan 127 = .ok (.iload 6, 2) := by decide +kernel
theorem dX9_plan_129 : decode cX9_plan 129 = .ok (.iload 4, 2) := by decide +kernel
theorem dX9_plan_131 : decode cX9_plan 131 = .ok (.invokevirtual 246, 3) := by decide +kernel
theorem dX9_plan_134 : decode cX9_plan 134 = .ok (.ifCond .eq 44, 3) := by decide +kernel
theorem dX9_plan_137 : decode cX9_plan 137 = .ok (.aload_n 0, 1) := by decide +kernel
theorem dX9_plan_138 : decode cX9_plan 138 = .ok (.iload 4, 2) := by decide +kernel
theorem dX9_plan_140 : decode cX9_plan 140 = .ok (.iload_n 2, 1) := by decide +kernel
theorem dX9_plan_141 : decode cX9_plan 141 = .ok (.invokevirtual 249, 3) := by decide +kernel
theorem dX9_plan_144 : decode cX9_plan 144 = .ok (.ifCond .eq 34, 3) := by decide +kernel
theorem dX9_plan_147 : decode cX9_plan 147 = .ok (.iload_n 3, 1) := by decide +kernel
theorem dX9_plan_148 : decode cX9_plan 148 = .ok (.iconst (-1), 1) := by decide +kernel
theorem dX9_plan_149 : decode cX9_plan 149 = .ok (.if_icmp .ne 7, 3) := by decide +kernel
theorem dX9_plan_152 : decode cX9_plan 152 = .ok (.iconst 1, 1) := by decide +kernel
theorem dX9_plan_153 : decode cX9_plan 153 = .ok (.goto 24, 3) := by decide +kernel
theorem dX9_plan_156 : decode cX9_plan 156 = .ok (.iload_n 3, 1) := by decide +kernel
theorem dX9_plan_157 : decode cX9_plan 157 = .ok (.iload 4, 2) := by decide +kernel
theorem dX9_plan_159 : decode cX9_plan 159 = .ok (.if_icmp .ge 17, 3) := by decide +kernel
theorem dX9_plan_162 : decode cX9_plan 162 = .ok (.aload_n 0, 1) := by decide +kernel
theorem dX9_plan_163 : decode cX9_plan 163 = .ok (.getfield 102, 3) := by decide +kernel
theorem dX9_plan_166 : decode cX9_plan 166 = .ok (.aload_n 0, 1) := by decide +kernel
theorem dX9_plan_167 : decode cX9_plan 167 = .ok (.getfield 105, 3) := by decide +kernel
theorem dX9_plan_170 : decode cX9_plan 170 = .ok (.iload_n 3, 1) := by decide +kernel
theorem dX9_plan_171 : decode cX9_plan 171 = .ok (.iaload, 1) := by decide +kernel
theorem dX9_plan_172 : decode cX9_plan 172 = .ok (.iaload, 1) := by decide +kernel
theorem dX9_plan_173 : decode cX9_plan 173 = .ok (.goto 4, 3) := by decide +kernel
theorem dX9_plan_176 : decode cX9_plan 176 = .ok (.iconst (-1), 1) := by decide +kernel
theorem dX9_plan_177 : decode cX9_plan 177 = .ok (.ireturn, 1) := by decide +kernel
theorem dX9_plan_178 : decode cX9_plan 178 = .ok (.iinc 6 1, 3) := by decide +kernel
theorem dX9_plan_181 : decode cX9_plan 181 = .ok (.goto (-62), 3) := by decide +kernel
theorem dX9_plan_184 : decode cX9_plan 184 = .ok (.iload_n 3, 1) := by decide +kernel
theorem dX9_plan_185 : decode cX9_plan 185 = .ok (.iconst (-1), 1) := by decide +kernel
theorem dX9_plan_186 : decode cX9_plan 186 = .ok (.if_icmp .ne 7, 3) := by decide +kernel
theorem dX9_plan_189 : decode cX9_plan 189 = .ok (.iconst 0, 1) := by decide +kernel
theorem dX9_plan_190 : decode cX9_plan 190 = .ok (.goto 4, 3) := by decide +kernel
theorem dX9_plan_193 : decode cX9_plan 193 = .ok (.iconst (-1), 1) := by decide +kernel
theorem dX9_plan_194 : decode cX9_plan 194 = .ok (.ireturn, 1) := by decide +kernel
set_option maxRecDepth 20000 in
theorem ggX9_clash_X9_isLayer : GoodIn wsX9_clash wsX9_isLayer := goodIn_r _ [7, 8, 9, 10, 6, 11, 12, 13, 14, 15, 16, 17, 18, 19, 20, 21, 22, 23, 24, 77, 78, 79, 80, 81, 82, 83, 84, 85, 86, 87, 88, 89, 90, 91, 92, 93, 94, 95, 96, 97, 98, 99, 100, 101, 102, 103, 104, 105, 106, 107, 108, 109, 110, 111, 112, 113, 114, 115, 116] (by decide +kernel) (by decide +kernel)
set_option maxRecDepth 20000 in
theorem gX9_clash_X9_isLayer : GoodIn wsX9_clash (wsV RX9 234 RX9 yX9_isLayer wsX9_isLayer) := goodIn_app (goodIn_of _ (by decide +kernel)) ggX9_clash_X9_isLayer
set_option maxRecDepth 20000 in
theorem ggX9_clash_X9_asItIs : GoodIn wsX9_clash wsX9_asItIs := goodIn_r _ [28, 29, 30, 31, 32, 33, 34, 77, 78, 79, 80, 81, 82, 83, 84, 85, 86, 87, 88, 89, 90, 91, 92, 93, 94, 95, 96, 97, 98, 99, 100, 101, 102, 103, 104, 105, 106, 107, 108, 109, 110, 111, 112, 113, 114, 115, 116] (by decide +kernel) (by decide +kernel)
set_option maxRecDepth 20000 in
theorem gX9_clash_X9_asItIs : GoodIn wsX9_clash (wsV RX9 211 RX9 yX9_asItIs wsX9_asItIs) := goodIn_app (goodIn_of _ (by decide +kernel)) ggX9_clash_X9_asItIs
set_option maxRecDepth 20000 in
theorem ggX9_clash_X9_keepsOut : GoodIn wsX9_clash wsX9_keepsOut := goodIn_r _ [38, 32, 39, 40, 41, 6, 42, 43, 44, 45, 46, 47, 48, 49, 50, 51, 52, 53, 54, 55, 56, 57, 34, 58, 59, 30, 60, 61, 62, 63, 64, 65, 66, 67, 68, 69, 70, 71, 72, 73, 74, 75, 76, 77, 78, 79, 80, 81, 82, 83, 84, 85, 86, 87, 88, 89, 90, 91, 92, 93, 94, 95, 96, 97, 98, 99, 100, 101, 102, 103, 104, 105, 106, 107, 108, 109, 110, 111, 112, 113, 114, 115, 116] (by decide +kernel) (by decide +kernel)
set_option maxRecDepth 20000 in
theorem gX9_clash_X9_keepsOut : GoodIn wsX9_clash (wsV RX9 217 RX9 yX9_keepsOut wsX9_keepsOut) := goodIn_app (goodIn_of _ (by decide +kernel)) ggX9_clash_X9_keepsOut
set_option maxRecDepth 20000 in
theorem ggX9_clash_X9_firstOf : GoodIn wsX9_clash wsX9_firstOf := goodIn_r _ [42, 43, 44, 45, 46, 47, 6, 48, 49, 50, 51, 52, 53, 54, 55, 56, 57, 34, 58, 59, 30, 60, 61, 62, 63, 64, 65, 66, 67, 68, 69, 70, 71, 77, 78, 79, 80, 81, 82, 83, 84, 85, 86, 87, 88, 89, 90, 91, 92, 93, 94, 95, 96, 97, 98, 99, 100, 101, 102, 103, 104, 105, 106, 107, 108, 109, 110, 111, 112, 113, 114, 115, 116] (by decide +kernel) (by decide +kernel)
set_option maxRecDepth 20000 in
theorem gX9_clash_X9_firstOf : GoodIn wsX9_clash (wsV RX9 198 RX9 yX9_firstOf wsX9_firstOf) := goodIn_app (goodIn_of _ (by decide +kernel)) ggX9_clash_X9_firstOf
theorem dX9_clash_0 : decode cX9_clash 0 = .ok (.aload_n 0, 1) := by decide +kernel
theorem dX9_clash_1 : decode cX9_clash 1 = .ok (.iload_n 1, 1) := by decide +kernel
theorem dX9_clash_2 : decode cX9_clash 2 = .ok (.iload_n 2, 1) := by decide +kernel
theorem dX9_clash_3 : decode cX9_clash 3 = .ok (.iload_n 3, 1) := by decide +kernel
theorem dX9_clash_4 : decode cX9_clash 4 = .ok (.invokevirtual 234, 3) := by decide +kernel
theorem dX9_clash_7 : decode cX9_clash 7 = .ok (.ifCond .ne 5, 3) := by decide +kernel
theorem dX9_clash_10 : decode cX9_clash 10 = .ok (.iconst (-1), 1) := by decide +kernel
theorem dX9_clash_11 : decode cX9_clash 11 = .ok (.ireturn, 1) := by decide +kernel
theorem dX9_clash_12 : decode cX9_clash 12 = .ok (.aload_n 0, 1) := by decide +kernel
theorem dX9_clash_13 : decode cX9_clash 13 = .ok (.invokevirtual 211, 3) := by decide +kernel
theorem dX9_clash_16 : decode cX9_clash 16 = .ok (.iconst 0, 1) := by decide +kernel
theorem dX9_clash_17 : decode cX9_clash 17 = .ok (.istore 4, 2) := by decide +kernel
theorem dX9_clash_19 : decode cX9_clash 19 = .ok (.iconst 0, 1) := by decide +kernel
theorem dX9_clash_20 : decode cX9_clash 20 = .ok (.istore 5, 2) := by decide +kernel
theorem dX9_clash_22 : decode cX9_clash 22 = .ok (.iconst 0, 1) := by decide +kernel
theorem dX9_clash_23 : decode cX9_clash 23 = .ok (.istore 6, 2) := by decide +kernel
theorem dX9_clash_25 : decode cX9_clash 25 = .ok (.iload 6, 2) := by decide +kernel
theorem dX9_clash_27 : decode cX9_clash 27 = .ok (.aload_n 0, 1) := by decide +kernel
theorem dX9_clash_28 : decode cX9_clash 28 = .ok (.getfield 38, 3) := by decide +kernel
theorem dX9_clash_31 : decode cX9_clash 31 = .ok (.if_icmp .ge 75, 3) := by decide +kernel
theorem dX9_clash_34 : decode cX9_clash 34 = .ok (.aload_n 0, 1) := by decide +kernel
theorem dX9_clash_35 : decode cX9_clash 35 = .ok (.getfield 50, 3) := by decide +kernel
theorem dX9_clash_38 : decode cX9_clash 38 = .ok (.iload 6, 2) := by decide +kernel
theorem dX9_clash_40 : decode cX9_clash 40 = .ok (.iaload, 1) := by decide +kernel
theorem dX9_clash_41 : decode cX9_clash 41 = .ok (.iload_n 3, 1) := by decide +kernel
theorem dX9_clash_42 : decode cX9_clash 42 = .ok (.if_icmp .eq 6, 3) := by decide +kernel
theorem dX9_clash_45 : decode cX9_clash 45 = .ok (.goto 55, 3) := by decide +kernel
theorem dX9_clash_48 : decode cX9_clash 48 = .ok (.aload_n 0, 1) := by decide +kernel
theorem dX9_clash_49 : decode cX9_clash 49 = .ok (.iload 6, 2) := by decide +kernel
theorem dX9_clash_51 : decode cX9_clash 51 = .ok (.iload_n 1, 1) := by decide +kernel
theorem dX9_clash_52 : decode cX9_clash 52 = .ok (.iload_n 2, 1) := by decide +kernel
theorem dX9_clash_53 : decode cX9_clash 53 = .ok (.invokevirtual 217, 3) := by decide +kernel
theorem dX9_clash_56 : decode cX9_clash 56 = .ok (.istore 7, 2) := by decide +kernel
theorem dX9_clash_58 : decode cX9_clash 58 = .ok (.iload 4, 2) := by decide +kernel
theorem dX9_clash_60 : decode cX9_clash 60 = .ok (.iload 7, 2) := by decide +kernel
theorem dX9_clash_62 : decode cX9_clash 62 = .ok (.ifCond .eq 7, 3) := by decide +kernel
theorem dX9_clash_65 : decode cX9_clash 65 = .ok (.iconst 1, 1) := by decide +kernel
theorem dX9_clash_66 : decode cX9_clash 66 = .ok (.goto 4, 3) := by decide +kernel
theorem dX9_clash_69 : decode cX9_clash 69 = .ok (.iconst 0, 1) := by decide +kernel
theorem dX9_clash_70 : decode cX9_clash 70 = .ok (.iadd, 1) := by decide +kernel
theorem dX9_clash_71 : decode cX9_clash 71 = .ok (.istore 4, 2) := by decide +kernel
theorem dX9_clash_73 : decode cX9_clash 73 = .ok (.iload 5, 2) := by decide +kernel
theorem dX9_clash_75 : decode cX9_clash 75 = .ok (.iload 7, 2) := by decide +kernel
theorem dX9_clash_77 : decode cX9_clash 77 = .ok (.ifCond .ne 19, 3) := by decide +kernel
theorem dX9_clash_80 : decode cX9_clash 80 = .ok (.aload_n 0, 1) := by decide +kernel
theorem dX9_clash_81 : decode cX9_clash 81 = .ok (.iload 6, 2) := by decide +kernel
theorem dX9_clash_83 : decode cX9_clash 83 = .ok (.iconst 1, 1) := by decide +kernel
theorem dX9_clash_84 : decode cX9_clash 84 = .ok (.iload_n 1, 1) := by decide +kernel
theorem dX9_clash_85 : decode cX9_clash 85 = .ok (.iload_n 2, 1) := by decide +kernel
theorem dX9_clash_86 : decode cX9_clash 86 = .ok (.invokevirtual 198, 3) := by decide +kernel
theorem dX9_clash_89 : decode cX9_clash 89 = .ok (.ifCond .lt 7, 3) := by decide +kernel
theorem dX9_clash_92 : decode cX9_clash 92 = .ok (.iconst 1, 1) := by decide +kernel
theorem dX9_clash_93 : decode cX9_clash 93 = .ok (.goto 4, 3) := by decide +kernel
theorem dX9_clash_96 : decode cX9_clash 96 = .ok (.iconst 0, 1) := by decide +kernel
theorem dX9_clash_97 : decode cX9_clash 97 = .ok (.iadd, 1) := by decide +kernel
theorem dX9_clash_98 : decode cX9_clash 98 = .ok (.istore 5, 2) := by decide +kernel
theorem dX9_clash_100 : decode cX9_clash 100 = .ok (.iinc 6 1, 3) := by decide +kernel
theorem dX9_clash_103 : decode cX9_clash 103 = .ok (.goto (-78), 3) := by decide +kernel
theorem dX9_clash_106 : decode cX9_clash 106 = .ok (.iload 4, 2) := by decide +kernel
theorem dX9_clash_108 : decode cX9_clash 108 = .ok (.iload 5, 2) := by decide +kernel
theorem dX9_clash_110 : decode cX9_clash 110 = .ok (.imul, 1) := by decide +kernel
theorem dX9_clash_111 : decode cX9_clash 111 = .ok (.ireturn, 1) := by decide +kernel
set_option maxRecDepth 20000 in
theorem ggX9_silent_X9_isEnd : GoodIn wsX9_silent wsX9_isEnd := goodIn_r _ [8, 9, 10, 11, 7, 12] (by decide +kernel) (by decide +kernel)
set_option maxRecDepth 20000 in
theorem gX9_silent_X9_isEnd : GoodIn wsX9_silent (wsV RX9 208 RX9 yX9_isEnd wsX9_isEnd) := goodIn_app (goodIn_of _ (by decide +kernel)) ggX9_silent_X9_isEnd
set_option maxRecDepth 20000 in
theorem ggX9_silent_X9_isLand : GoodIn wsX9_silent wsX9_isLand := goodIn_r _ [16, 9, 10, 11, 7, 12] (by decide +kernel) (by decide +kernel)
set_option maxRecDepth 20000 in
theorem gX9_silent_X9_isLand : GoodIn wsX9_silent (wsV RX9 177 RX9 yX9_isLand wsX9_isLand) := goodIn_app (goodIn_of _ (by decide +kernel)) ggX9_silent_X9_isLand
set_option maxRecDepth 20000 in
theorem ggX9_silent_X9_asItIs : GoodIn wsX9_silent wsX9_asItIs := goodIn_r _ [20, 21, 22, 23, 24, 25, 26, 59, 60, 61, 62, 63, 64, 65, 66, 67, 68, 69, 70, 71, 72, 73, 74, 75, 76, 77, 78, 79, 80, 81, 82, 83, 84, 85, 86, 87, 88, 89, 90, 91, 92, 93, 94, 95, 96, 97, 98] (by decide +kernel) (by decide +kernel)
set_option maxRecDepth 20000 in
theorem gX9_silent_X9_asItIs : GoodIn wsX9_silent (wsV RX9 211 RX9 yX9_asItIs wsX9_asItIs) := goodIn_app (goodIn_of _ (by decide +kernel)) ggX9_silent_X9_asItIs
set_option maxRecDepth 20000 in
theorem ggX9_silent_X9_meetsIt : GoodIn wsX9_silent wsX9_meetsIt := goodIn_r _ [30, 31, 32, 33, 34, 7, 35, 36, 37, 38, 39, 40, 41, 42, 43, 44, 26, 45, 46, 22, 47, 48, 49, 50, 51, 52, 53, 54, 55, 56, 57, 58, 59, 60, 61, 62, 63, 64, 65, 66, 67, 68, 69, 70, 71, 72, 73, 74, 75, 76, 77, 78, 79, 80, 81, 82, 83, 84, 85, 86, 87, 88, 89, 90, 91, 92, 93, 94, 95, 96, 97, 98] (by decide +kernel) (by decide +kernel)
set_option maxRecDepth 20000 in
theorem gX9_silent_X9_meetsIt : GoodIn wsX9_silent (wsV RX9 214 RX9 yX9_meetsIt wsX9_meetsIt) := goodIn_app (goodIn_of _ (by decide +kernel)) ggX9_silent_X9_meetsIt
theorem dX9_silent_0 : decode cX9_silent 0 = .ok (.aload_n 0, 1) := by decide +kernel
theorem dX9_silent_1 : decode cX9_silent 1 = .ok (.iload_n 1, 1) := by decide +kernel
theorem dX9_silent_2 : decode cX9_silent 2 = .ok (.invokevirtual 208, 3) := by decide +kernel
theorem dX9_silent_5 : decode cX9_silent 5 = .ok (.ifCond .eq 11, 3) := by decide +kernel
theorem dX9_silent_8 : decode cX9_silent 8 = .ok (.aload_n 0, 1) := by decide +kernel
theorem dX9_silent_9 : decode cX9_silent 9 = .ok (.iload_n 2, 1) := by decide +kernel
theorem dX9_silent_10 : decode cX9_silent 10 = .ok (.invokevirtual 177, 3) := by decide +kernel
theorem dX9_silent_13 : decode cX9_silent 13 = .ok (.ifCond .ne 5, 3) := by decide +kernel
theorem dX9_silent_16 : decode cX9_silent 16 = .ok (.iconst (-1), 1) := by decide +kernel
theorem dX9_silent_17 : decode cX9_silent 17 = .ok (.ireturn, 1) := by decide +kernel
theorem dX9_silent_18 : decode cX9_silent 18 = .ok (.aload_n 0, 1) := by decide +kernel
theorem dX9_silent_19 : decode cX9_silent 19 = .ok (.invokevirtual 211, 3) := by decide +kernel
theorem dX9_silent_22 : decode cX9_silent 22 = .ok (.iconst 0, 1) := by decide +kernel
theorem dX9_silent_23 : decode cX9_silent 23 = .ok (.istore_n 3, 1) := by decide +kernel
theorem dX9_silent_24 : decode cX9_silent 24 = .ok (.iconst 0, 1) := by decide +kernel
theorem dX9_silent_25 : decode cX9_silent 25 = .ok (.istore 4, 2) := by decide +kernel
theorem dX9_silent_27 : decode cX9_silent 27 = .ok (.iload 4, 2) := by decide +kernel
theorem dX9_silent_29 : decode cX9_silent 29 = .ok (.aload_n 0, 1) := by decide +kernel
theorem dX9_silent_30 : decode cX9_silent 30 = .ok (.getfield 7, 3) := by decide +kernel
theorem dX9_silent_33 : decode cX9_silent 33 = .ok (.if_icmp .ge 81, 3) := by decide +kernel
theorem dX9_silent_36 : decode cX9_silent 36 = .ok (.iconst 0, 1) := by decide +kernel
theorem dX9_silent_37 : decode cX9_silent 37 = .ok (.istore 5, 2) := by decide +kernel
theorem dX9_silent_39 : decode cX9_silent 39 = .ok (.iconst 0, 1) := by decide +kernel
theorem dX9_silent_40 : decode cX9_silent 40 = .ok (.istore 6, 2) := by decide +kernel
theorem dX9_silent_42 : decode cX9_silent 42 = .ok (.iload 6, 2) := by decide +kernel
theorem dX9_silent_44 : decode cX9_silent 44 = .ok (.aload_n 0, 1) := by decide +kernel
theorem dX9_silent_45 : decode cX9_silent 45 = .ok (.getfield 38, 3) := by decide +kernel
theorem dX9_silent_48 : decode cX9_silent 48 = .ok (.if_icmp .ge 44, 3) := by decide +kernel
theorem dX9_silent_51 : decode cX9_silent 51 = .ok (.iload 5, 2) := by decide +kernel
theorem dX9_silent_53 : decode cX9_silent 53 = .ok (.ifCond .ne 26, 3) := by decide +kernel
theorem dX9_silent_56 : decode cX9_silent 56 = .ok (.aload_n 0, 1) := by decide +kernel
theorem dX9_silent_57 : decode cX9_silent 57 = .ok (.getfield 50, 3) := by decide +kernel
theorem dX9_silent_60 : decode cX9_silent 60 = .ok (.iload 6, 2) := by decide +kernel
theorem dX9_silent_62 : decode cX9_silent 62 = .ok (.iaload, 1) := by decide +kernel
theorem dX9_silent_63 : decode cX9_silent 63 = .ok (.iload_n 2, 1) := by decide +kernel
theorem dX9_silent_64 : decode cX9_silent 64 = .ok (.if_icmp .ne 19, 3) := by decide +kernel
theorem dX9_silent_67 : decode cX9_silent 67 = .ok (.aload_n 0, 1) := by decide +kernel
theorem dX9_silent_68 : decode cX9_silent 68 = .ok (.iload 6, 2) := by decide +kernel
theorem dX9_silent_70 : decode cX9_silent 70 = .ok (.iload 4, 2) := by decide +kernel
theorem dX9_silent_72 : decode cX9_silent 72 = .ok (.iload_n 1, 1) := by decide +kernel
theorem dX9_silent_73 : decode cX9_silent 73 = .ok (.invokevirtual 214, 3) := by decide +kernel
theorem dX9_silent_76 : decode cX9_silent 76 = .ok (.ifCond .eq 7, 3) := by decide +kernel
theorem dX9_silent_79 : decode cX9_silent 79 = .ok (.iconst 1, 1) := by decide +kernel
theorem dX9_silent_80 : decode cX9_silent 80 = .ok (.goto 4, 3) := by decide +kernel
theorem dX9_silent_83 : decode cX9_silent 83 = .ok (.iconst 0, 1) := by decide +kernel
theorem dX9_silent_84 : decode cX9_silent 84 = .ok (.istore 5, 2) := by decide +kernel
theorem dX9_silent_86 : decode cX9_silent 86 = .ok (.iinc 6 1, 3) := by decide +kernel
theorem dX9_silent_89 : decode cX9_silent 89 = .ok (.goto (-47), 3) := by decide +kernel
theorem dX9_silent_92 : decode cX9_silent 92 = .ok (.iload_n 3, 1) := by decide +kernel
theorem dX9_silent_93 : decode cX9_silent 93 = .ok (.iload 5, 2) := by decide +kernel
theorem dX9_silent_95 : decode cX9_silent 95 = .ok (.ifCond .eq 7, 3) := by decide +kernel
theorem dX9_silent_98 : decode cX9_silent 98 = .ok (.iconst 0, 1) := by decide +kernel
theorem dX9_silent_99 : decode cX9_silent 99 = .ok (.goto 7, 3) := by decide +kernel
theorem dX9_silent_102 : decode cX9_silent 102 = .ok (.iconst 1, 1) := by decide +kernel
theorem dX9_silent_103 : decode cX9_silent 103 = .ok (.iload 4, 2) := by decide +kernel
theorem dX9_silent_105 : decode cX9_silent 105 = .ok (.ishl, 1) := by decide +kernel
theorem dX9_silent_106 : decode cX9_silent 106 = .ok (.ior, 1) := by decide +kernel
theorem dX9_silent_107 : decode cX9_silent 107 = .ok (.istore_n 3, 1) := by decide +kernel
theorem dX9_silent_108 : decode cX9_silent 108 = .ok (.iinc 4 1, 3) := by decide +kernel
theorem dX9_silent_111 : decode cX9_silent 111 = .ok (.goto (-84), 3) := by decide +kernel
theorem dX9_silent_114 : decode cX9_silent 114 = .ok (.iload_n 3, 1) := by decide +kernel
theorem dX9_silent_115 : decode cX9_silent 115 = .ok (.ireturn, 1) := by decide +kernel
set_option maxRecDepth 20000 in
theorem ggX9_hangsOf_X9_asItIs : GoodIn wsX9_hangsOf wsX9_asItIs := goodIn_r _ [10, 11, 12, 1, 2, 13, 14, 73, 74, 75, 76, 77, 78, 79, 80, 81, 82, 83, 84, 85, 86, 87, 88, 89, 90, 91, 92, 93, 94, 95, 96, 97, 98, 99, 100, 101, 102, 103, 104, 105, 106, 107, 108, 109, 110, 111, 112] (by decide +kernel) (by decide +kernel)
set_option maxRecDepth 20000 in
theorem gX9_hangsOf_X9_asItIs : GoodIn wsX9_hangsOf (wsV RX9 211 RX9 yX9_asItIs wsX9_asItIs) := goodIn_app (goodIn_of _ (by decide +kernel)) ggX9_hangsOf_X9_asItIs
set_option maxRecDepth 20000 in
theorem ggX9_hangsOf_X9_findHeard : GoodIn wsX9_hangsOf wsX9_findHeard := goodIn_r _ [18, 19, 13, 20, 21, 22, 9, 23, 24, 25, 26, 27, 28, 29, 30, 31, 32, 33, 34, 4, 35, 36, 37, 38, 2, 39, 40, 41, 42, 43, 44, 45, 46, 47, 48, 49, 50, 51, 52, 53, 54, 55, 56, 57, 14, 58, 59, 12, 60, 61, 62, 63, 64, 65, 66, 67, 68, 69, 70, 71, 72, 73, 74, 75, 76, 77, 78, 79, 80, 81, 82, 83, 84, 85, 86, 87, 88, 89, 90, 91, 92, 93, 94, 95, 96, 97, 98, 99, 100, 101, 102, 103, 104, 105, 106, 107, 108, 109, 110, 111, 112] (by decide +kernel) (by decide +kernel)
set_option maxRecDepth 20000 in
theorem gX9_hangsOf_X9_findHeard : GoodIn wsX9_hangsOf (wsV RX9 230 RX9 yX9_findHeard wsX9_findHeard) := goodIn_app (goodIn_of _ (by decide +kernel)) ggX9_hangsOf_X9_findHeard
set_option maxRecDepth 20000 in
theorem ggX9_hangsOf_X9_keeper : GoodIn wsX9_hangsOf wsX9_keeper := goodIn_r _ [33, 34, 4, 35, 36, 37, 9, 38, 2, 39, 40, 41, 42, 43, 44, 45, 46, 47, 48, 49, 50, 51, 52, 53, 54, 55, 56, 57, 14, 58, 59, 12, 60, 61, 62, 63, 64, 65, 66, 67, 26, 27, 28, 29, 68, 69, 70, 71, 72, 73, 74, 75, 76, 77, 78, 79, 80, 81, 82, 83, 84, 85, 86, 87, 88, 89, 90, 91, 92, 93, 94, 95, 96, 97, 98, 99, 100, 101, 102, 103, 104, 105, 106, 107, 108, 109, 110, 111, 112] (by decide +kernel) (by decide +kernel)
set_option maxRecDepth 20000 in
theorem gX9_hangsOf_X9_keeper : GoodIn wsX9_hangsOf (wsV RX9 227 RX9 yX9_keeper wsX9_keeper) := goodIn_app (goodIn_of _ (by decide +kernel)) ggX9_hangsOf_X9_keeper
set_option maxRecDepth 20000 in
theorem ggX9_hangsOf_X9_arePartsHeard : GoodIn wsX9_hangsOf wsX9_arePartsHeard := goodIn_r _ [23, 24, 19, 25, 26, 27, 28, 9, 29, 73, 74, 75, 76, 77, 78, 79, 80, 81, 82, 83, 84, 85, 86, 87, 88, 89, 90, 91, 92, 93, 94, 95, 96, 97, 98, 99, 100, 101, 102, 103, 104, 105, 106, 107, 108, 109, 110, 111, 112] (by decide +kernel) (by decide +kernel)
set_option maxRecDepth 20000 in
theorem gX9_hangsOf_X9_arePartsHeard : GoodIn wsX9_hangsOf (wsV RX9 224 RX9 yX9_arePartsHeard wsX9_arePartsHeard) := goodIn_app (goodIn_of _ (by decide +kernel)) ggX9_hangsOf_X9_arePartsHeard
theorem dX9_hangsOf_0 : decode cX9_hangsOf 0 = .ok (.aload_n 0, 1) := by decide +kernel
theorem dX9_hangsOf_1 : decode cX9_hangsOf 1 = .ok (.invokevirtual 211, 3) := by decide +kernel
theorem dX9_hangsOf_4 : decode cX9_hangsOf 4 = .ok (.iconst 0, 1) := by decide +kernel
theorem dX9_hangsOf_5 : decode cX9_hangsOf 5 = .ok (.istore_n 2, 1) := by decide +kernel
theorem dX9_hangsOf_6 : decode cX9_hangsOf 6 = .ok (.iconst 0, 1) := by decide +kernel
theorem dX9_hangsOf_7 : decode cX9_hangsOf 7 = .ok (.istore_n 3, 1) := by decide +kernel
theorem dX9_hangsOf_8 : decode cX9_hangsOf 8 = .ok (.iload_n 3, 1) := by decide +kernel
theorem dX9_hangsOf_9 : decode cX9_hangsOf 9 = .ok (.iconst 2, 1) := by decide +kernel
theorem dX9_hangsOf_10 : decode cX9_hangsOf 10 = .ok (.if_icmp .ge 160, 3) := by decide +kernel
theorem dX9_hangsOf_13 : decode cX9_hangsOf 13 = .ok (.aload_n 0, 1) := by decide +kernel
theorem dX9_hangsOf_14 : decode cX9_hangsOf 14 = .ok (.iload_n 3, 1) := by decide +kernel
theorem dX9_hangsOf_15 : decode cX9_hangsOf 15 = .ok (.ifCond .ne 16, 3) := by decide +kernel
theorem dX9_hangsOf_18 : decode cX9_hangsOf 18 = .ok (.aload_n 0, 1) := by decide +kernel
theorem dX9_hangsOf_19 : decode cX9_hangsOf 19 = .ok (.getfield 16, 3) := by decide +kernel
theorem dX9_hangsOf_22 : decode cX9_hangsOf 22 = .ok (.iconst 1, 1) := by decide +kernel
theorem dX9_hangsOf_23 : decode cX9_hangsOf 23 = .ok (.iload_n 1, 1) := by decide +kernel
theorem dX9_hangsOf_24 : decode cX9_hangsOf 24 = .ok (.ishl, 1) := by decide +kernel
theorem dX9_hangsOf_25 : decode cX9_hangsOf 25 = .ok (.iconst (-1), 1) := by decide +kernel
theorem dX9_hangsOf_26 : decode cX9_hangsOf 26 = .ok (.ixor, 1) := by decide +kernel
theorem dX9_hangsOf_27 : decode cX9_hangsOf 27 = .ok (.iand, 1) := by decide +kernel
theorem dX9_hangsOf_28 : decode cX9_hangsOf 28 = .ok (.goto 11, 3) := by decide +kernel
theorem dX9_hangsOf_31 : decode cX9_hangsOf 31 = .ok (.aload_n 0, 1) := by decide +kernel
theorem dX9_hangsOf_32 : decode cX9_hangsOf 32 = .ok (.getfield 16, 3) := by decide +kernel
theorem dX9_hangsOf_35 : decode cX9_hangsOf 35 = .ok (.iconst 1, 1) := by decide +kernel
theorem dX9_hangsOf_36 : decode cX9_hangsOf 36 = .ok (.iload_n 1, 1) := by decide +kernel
theorem dX9_hangsOf_37 : decode cX9_hangsOf 37 = .ok (.ishl, 1) := by decide +kernel
theorem dX9_hangsOf_38 : decode cX9_hangsOf 38 = .ok (.ior, 1) := by decide +kernel
theorem dX9_hangsOf_39 : decode cX9_hangsOf 39 = .ok (.putfield 86, 3) := by decide +kernel
theorem dX9_hangsOf_42 : decode cX9_hangsOf 42 = .ok (.aload_n 0, 1) := by decide +kernel
theorem dX9_hangsOf_43 : decode cX9_hangsOf 43 = .ok (.aload_n 0, 1) := by decide +kernel
theorem dX9_hangsOf_44 : decode cX9_hangsOf 44 = .ok (.getfield 7, 3) := by decide +kernel
theorem dX9_hangsOf_47 : decode cX9_hangsOf 47 = .ok (.aload_n 0, 1) := by decide +kernel
theorem dX9_hangsOf_48 : decode cX9_hangsOf 48 = .ok (.getfield 50, 3) := by decide +kernel
theorem dX9_hangsOf_51 : decode cX9_hangsOf 51 = .ok (.iload_n 1, 1) := by decide +kernel
theorem dX9_hangsOf_52 : decode cX9_hangsOf 52 = .ok (.iaload, 1) := by decide +kernel
theorem dX9_hangsOf_53 : decode cX9_hangsOf 53 = .ok (.invokevirtual 230, 3) := by decide +kernel
theorem dX9_hangsOf_56 : decode cX9_hangsOf 56 = .ok (.iconst 0, 1) := by decide +kernel
theorem dX9_hangsOf_57 : decode cX9_hangsOf 57 = .ok (.istore 4, 2) := by decide +kernel
theorem dX9_hangsOf_59 : decode cX9_hangsOf 59 = .ok (.iload 4, 2) := by decide +kernel
theorem dX9_hangsOf_61 : decode cX9_hangsOf 61 = .ok (.iconst 4, 1) := by decide +kernel
theorem dX9_hangsOf_62 : decode cX9_hangsOf 62 = .ok (.aload_n 0, 1) := by decide +kernel
theorem dX9_hangsOf_63 : decode cX9_hangsOf 63 = .ok (.getfield 7, 3) := by decide +kernel
theorem dX9_hangsOf_66 : decode cX9_hangsOf 66 = .ok (.imul, 1) := by decide +kernel
theorem dX9_hangsOf_67 : decode cX9_hangsOf 67 = .ok (.if_icmp .ge 97, 3) := by decide +kernel
theorem dX9_hangsOf_70 : decode cX9_hangsOf 70 = .ok (.iload 4, 2) := by decide +kernel
theorem dX9_hangsOf_72 : decode cX9_hangsOf 72 = .ok (.iconst 4, 1) := by decide +kernel
theorem dX9_hangsOf_73 : decode cX9_hangsOf 73 = .ok (.idiv, 1) := by decide +kernel
theorem dX9_hangsOf_74 : decode cX9_hangsOf 74 = .ok (.istore 5, 2) := by decide +kernel
theorem dX9_hangsOf_76 : decode cX9_hangsOf 76 = .ok (.iload 4, 2) := by decide +kernel
theorem dX9_hangsOf_78 : decode cX9_hangsOf 78 = .ok (.iconst 4, 1) := by decide +kernel
theorem dX9_hangsOf_79 : decode cX9_hangsOf 79 = .ok (.irem, 1) := by decide +kernel
theorem dX9_hangsOf_80 : decode cX9_hangsOf 80 = .ok (.istore 6, 2) := by decide +kernel
theorem dX9_hangsOf_82 : decode cX9_hangsOf 82 = .ok (.aload_n 0, 1) := by decide +kernel
theorem dX9_hangsOf_83 : decode cX9_hangsOf 83 = .ok (.iload 5, 2) := by decide +kernel
theorem dX9_hangsOf_85 : decode cX9_hangsOf 85 = .ok (.iload 6, 2) := by decide +kernel
theorem dX9_hangsOf_87 : decode cX9_hangsOf 87 = .ok (.aload_n 0, 1) := by decide +kernel
theorem dX9_hangsOf_88 : decode cX9_hangsOf 88 = .ok (.getfield 50, 3) := by decide +kernel
theorem dX9_hangsOf_91 : decode cX9_hangsOf 91 = .ok (.iload_n 1, 1) := by decide +kernel
theorem dX9_hangsOf_92 : decode cX9_hangsOf 92 = .ok (.iaload, 1) := by decide +kernel
theorem dX9_hangsOf_93 : decode cX9_hangsOf 93 = .ok (.invokevirtual 227, 3) := by decide +kernel
theorem dX9_hangsOf_96 : decode cX9_hangsOf 96 = .ok (.ifCond .ge 23, 3) := by decide +kernel
theorem dX9_hangsOf_99 : decode cX9_hangsOf 99 = .ok (.iload 6, 2) := by decide +kernel
theorem dX9_hangsOf_101 : decode cX9_hangsOf 101 = .ok (.iconst 1, 1) := by decide +kernel
theorem dX9_hangsOf_102 : decode cX9_hangsOf 102 = .ok (.if_icmp .eq 13, 3) := by decide +kernel
theorem dX9_hangsOf_105 : decode cX9_hangsOf 105 = .ok (.aload_n 0, 1) := by decide +kernel
theorem dX9_hangsOf_106 : decode cX9_hangsOf 106 = .ok (.iload 5, 2) := by decide +kernel
theorem dX9_hangsOf_108 : decode cX9_hangsOf 108 = .ok (.iconst 0, 1) := by decide +kernel
theorem dX9_hangsOf_109 : decode cX9_hangsOf 109 = .ok (.invokevirtual 224, 3) := by decide +kernel
theorem dX9_hangsOf_112 : decode cX9_hangsOf 112 = .ok (.ifCond .eq 7, 3) := by decide +kernel
theorem dX9_hangsOf_115 : decode cX9_hangsOf 115 = .ok (.iconst 1, 1) := by decide +kernel
theorem dX9_hangsOf_116 : decode cX9_hangsOf 116 = .ok (.goto 4, 3) := by decide +kernel
theorem dX9_hangsOf_119 : decode cX9_hangsOf 119 = .ok (.iconst 0, 1) := by decide +kernel
theorem dX9_hangsOf_120 : decode cX9_hangsOf 120 = .ok (.istore 7, 2) := by decide +kernel
theorem dX9_hangsOf_122 : decode cX9_hangsOf 122 = .ok (.iload_n 3, 1) := by decide +kernel
theorem dX9_hangsOf_123 : decode cX9_hangsOf 123 = .ok (.ifCond .ne 15, 3) := by decide +kernel
theorem dX9_hangsOf_126 : decode cX9_hangsOf 126 = .ok (.aload_n 0, 1) := by decide +kernel
theorem dX9_hangsOf_127 : decode cX9_hangsOf 127 = .ok (.getfield 108, 3) := by decide +kernel
theorem dX9_hangsOf_130 : decode cX9_hangsOf 130 = .ok (.iload 4, 2) := by decide +kernel
theorem dX9_hangsOf_132 : decode cX9_hangsOf 132 = .ok (.iload 7, 2) := by decide +kernel
theorem dX9_hangsOf_134 : decode cX9_hangsOf 134 = .ok (.bastore, 1) := by decide +kernel
theorem dX9_hangsOf_135 : decode cX9_hangsOf 135 = .ok (.goto 23, 3) := by decide +kernel
theorem dX9_hangsOf_138 : decode cX9_hangsOf 138 = .ok (.iload_n 2, 1) := by decide +kernel
theorem dX9_hangsOf_139 : decode cX9_hangsOf 139 = .ok (.iload 7, 2) := by decide +kernel
theorem dX9_hangsOf_141 : decode cX9_hangsOf 141 = .ok (.aload_n 0, 1) := by decide +kernel
theorem dX9_hangsOf_142 : decode cX9_hangsOf 142 = .ok (.getfield 108, 3) := by decide +kernel
theorem dX9_hangsOf_145 : decode cX9_hangsOf 145 = .ok (.iload 4, 2) := by decide +kernel
theorem dX9_hangsOf_147 : decode cX9_hangsOf 147 = .ok (.baload, 1) := by decide +kernel
theorem dX9_hangsOf_148 : decode cX9_hangsOf 148 = .ok (.if_icmp .ne 7, 3) := by decide +kernel
theorem dX9_hangsOf_151 : decode cX9_hangsOf 151 = .ok (.iconst 0, 1) := by decide +kernel
theorem dX9_hangsOf_152 : decode cX9_hangsOf 152 = .ok (.goto 4, 3) := by decide +kernel
theorem dX9_hangsOf_155 : decode cX9_hangsOf 155 = .ok (.iconst 1, 1) := by decide +kernel
theorem dX9_hangsOf_156 : decode cX9_hangsOf 156 = .ok (.iadd, 1) := by decide +kernel
theorem dX9_hangsOf_157 : decode cX9_hangsOf 157 = .ok (.istore_n 2, 1) := by decide +kernel
theorem dX9_hangsOf_158 : decode cX9_hangsOf 158 = .ok (.iinc 4 1, 3) := by decide +kernel
theorem dX9_hangsOf_161 : decode cX9_hangsOf 161 = .ok (.goto (-102), 3) := by decide +kernel
theorem dX9_hangsOf_164 : decode cX9_hangsOf 164 = .ok (.iinc 3 1, 3) := by decide +kernel
theorem dX9_hangsOf_167 : decode cX9_hangsOf 167 = .ok (.goto (-159), 3) := by decide +kernel
theorem dX9_hangsOf_170 : decode cX9_hangsOf 170 = .ok (.iload_n 2, 1) := by decide +kernel
theorem dX9_hangsOf_171 : decode cX9_hangsOf 171 = .ok (.ireturn, 1) := by decide +kernel
set_option maxRecDepth 20000 in
theorem ggX9_hangs_X9_isRule : GoodIn wsX9_hangs wsX9_isRule := goodIn_r _ [5, 6, 7, 8, 9, 4, 10, 85, 86, 87, 88, 89, 90, 91, 92, 93, 94, 95, 96, 97, 98, 99, 100, 101, 102, 103, 104, 105, 106, 107, 108, 109, 110, 111, 112, 113, 114, 115, 116, 117, 118, 119, 120, 121, 122, 123, 124] (by decide +kernel) (by decide +kernel)
set_option maxRecDepth 20000 in
theorem gX9_hangs_X9_isRule : GoodIn wsX9_hangs (wsV RX9 205 RX9 yX9_isRule wsX9_isRule) := goodIn_app (goodIn_of _ (by decide +kernel)) ggX9_hangs_X9_isRule
set_option maxRecDepth 20000 in
theorem ggX9_hangs_X9_hangsOf : GoodIn wsX9_hangs wsX9_hangsOf := goodIn_r _ [14, 15, 16, 17, 18, 19, 20, 21, 22, 4, 23, 24, 25, 26, 27, 28, 29, 30, 31, 32, 33, 34, 35, 36, 37, 38, 39, 40, 41, 42, 43, 44, 45, 46, 6, 47, 48, 49, 50, 51, 52, 53, 54, 55, 56, 57, 58, 59, 60, 61, 62, 63, 64, 65, 66, 67, 68, 69, 70, 71, 72, 73, 74, 75, 76, 77, 78, 79, 80, 81, 82, 83, 84, 85, 86, 87, 88, 89, 90, 91, 92, 93, 94, 95, 96, 97, 98, 99, 100, 101, 102, 103, 104, 105, 106, 107, 108, 109, 110, 111, 112, 113, 114, 115, 116, 117, 118, 119, 120, 121, 122, 123, 124] (by decide +kernel) (by decide +kernel)
set_option maxRecDepth 20000 in
theorem gX9_hangs_X9_hangsOf : GoodIn wsX9_hangs (wsV RX9 252 RX9 yX9_hangsOf wsX9_hangsOf) := goodIn_app (goodIn_of _ (by decide +kernel)) ggX9_hangs_X9_hangsOf
theorem dX9_hangs_0 : decode cX9_hangs 0 = .ok (.aload_n 0, 1) := by decide +kernel
theorem dX9_hangs_1 : decode cX9_hangs 1 = .ok (.iload_n 1, 1) := by decide +kernel
theorem dX9_hangs_2 : decode cX9_hangs 2 = .ok (.invokevirtual 205, 3) := by decide +kernel
theorem dX9_hangs_5 : decode cX9_hangs 5 = .ok (.ifCond .eq 11, 3) := by decide +kernel
theorem dX9_hangs_8 : decode cX9_hangs 8 = .ok (.aload_n 0, 1) := by decide +kernel
theorem dX9_hangs_9 : decode cX9_hangs 9 = .ok (.iload_n 1, 1) := by decide +kernel
theorem dX9_hangs_10 : decode cX9_hangs 10 = .ok (.invokevirtual 252, 3) := by decide +kernel
theorem dX9_hangs_13 : decode cX9_hangs 13 = .ok (.goto 4, 3) := by decide +kernel
theorem dX9_hangs_16 : decode cX9_hangs 16 = .ok (.iconst (-1), 1) := by decide +kernel
theorem dX9_hangs_17 : decode cX9_hangs 17 = .ok (.ireturn, 1) := by decide +kernel
set_option maxRecDepth 20000 in
theorem ggX9_most_X9_hangsOf : GoodIn wsX9_most wsX9_hangsOf := goodIn_r _ [6, 7, 8, 9, 10, 11, 12, 13, 14, 5, 15, 16, 17, 18, 19, 20, 21, 22, 23, 24, 25, 26, 27, 28, 29, 30, 31, 32, 33, 34, 35, 36, 37, 38, 1, 39, 40, 41, 42, 43, 44, 45, 46, 47, 48, 49, 50, 51, 52, 53, 54, 55, 56, 57, 58, 59, 60, 61, 62, 63, 64, 65, 66, 67, 68, 69, 70, 71, 72, 73, 74, 75, 76, 77, 78, 79, 80, 81, 82, 83, 84, 85, 86, 87, 88, 89, 90, 91, 92, 93, 94, 95, 96, 97, 98, 99, 100, 101, 102, 103, 104, 105, 106, 107, 108, 109, 110, 111, 112, 113, 114, 115, 116] (by decide +kernel) (by decide +kernel)
set_option maxRecDepth 20000 in
theorem gX9_most_X9_hangsOf : GoodIn wsX9_most (wsV RX9 252 RX9 yX9_hangsOf wsX9_hangsOf) := goodIn_app (goodIn_of _ (by decide +kernel)) ggX9_most_X9_hangsOf
theorem dX9_most_0 : decode cX9_most 0 = .ok (.bipush (-5), 2) := by decide +kernel
theorem dX9_most_2 : decode cX9_most 2 = .ok (.istore_n 1, 1) := by decide +kernel
theorem dX9_most_3 : decode cX9_most 3 = .ok (.iconst (-1), 1) := by decide +kernel
theorem dX9_most_4 : decode cX9_most 4 = .ok (.istore_n 2, 1) := by decide +kernel
theorem dX9_most_5 : decode cX9_most 5 = .ok (.iconst 0, 1) := by decide +kernel
theorem dX9_most_6 : decode cX9_most 6 = .ok (.istore_n 3, 1) := by decide +kernel
theorem dX9_most_7 : decode cX9_most 7 = .ok (.iload_n 3, 1) := by decide +kernel
theorem dX9_most_8 : decode cX9_most 8 = .ok (.aload_n 0, 1) := by decide +kernel
theorem dX9_most_9 : decode cX9_most 9 = .ok (.getfield 38, 3) := by decide +kernel
theorem dX9_most_12 : decode cX9_most 12 = .ok (.if_icmp .ge 30, 3) := by decide +kernel
theorem dX9_most_15 : decode cX9_most 15 = .ok (.aload_n 0, 1) := by decide +kernel
theorem dX9_most_16 : decode cX9_most 16 = .ok (.iload_n 3, 1) := by decide +kernel
theorem dX9_most_17 : decode cX9_most 17 = .ok (.invokevirtual 252, 3) := by decide +kernel
theorem dX9_most_20 : decode cX9_most 20 = .ok (.istore 4, 2) := by decide +kernel
theorem dX9_most_22 : decode cX9_most 22 = .ok (.iload 4, 2) := by decide +kernel
theorem dX9_most_24 : decode cX9_most 24 = .ok (.iload_n 2, 1) := by decide +kernel
theorem dX9_most_25 : decode cX9_most 25 = .ok (.if_icmp .gt 6, 3) := by decide +kernel
theorem dX9_most_28 : decode cX9_most 28 = .ok (.goto 8, 3) := by decide +kernel
theorem dX9_most_31 : decode cX9_most 31 = .ok (.iload_n 3, 1) := by decide +kernel
theorem dX9_most_32 : decode cX9_most 32 = .ok (.istore_n 1, 1) := by decide +kernel
theorem dX9_most_33 : decode cX9_most 33 = .ok (.iload 4, 2) := by decide +kernel
theorem dX9_most_35 : decode cX9_most 35 = .ok (.istore_n 2, 1) := by decide +kernel
theorem dX9_most_36 : decode cX9_most 36 = .ok (.iinc 3 1, 3) := by decide +kernel
theorem dX9_most_39 : decode cX9_most 39 = .ok (.goto (-32), 3) := by decide +kernel
theorem dX9_most_42 : decode cX9_most 42 = .ok (.iload_n 1, 1) := by decide +kernel
theorem dX9_most_43 : decode cX9_most 43 = .ok (.ireturn, 1) := by decide +kernel
set_option maxRecDepth 20000 in
theorem ggX9_beside_X9_isEnd : GoodIn wsX9_beside wsX9_isEnd := goodIn_r _ [6, 7, 8, 9, 5, 10] (by decide +kernel) (by decide +kernel)
set_option maxRecDepth 20000 in
theorem gX9_beside_X9_isEnd : GoodIn wsX9_beside (wsV RX9 208 RX9 yX9_isEnd wsX9_isEnd) := goodIn_app (goodIn_of _ (by decide +kernel)) ggX9_beside_X9_isEnd
set_option maxRecDepth 20000 in
theorem ggX9_beside_X9_in : GoodIn wsX9_beside wsX9_in := goodIn_r _ [10] (by decide +kernel) (by decide +kernel)
set_option maxRecDepth 20000 in
theorem gX9_beside_X9_in : GoodIn wsX9_beside (wsV RX9 133 RX9 yX9_in wsX9_in) := goodIn_app (goodIn_of _ (by decide +kernel)) ggX9_beside_X9_in
set_option maxRecDepth 20000 in
theorem ggX9_beside_X9_asItIs : GoodIn wsX9_beside wsX9_asItIs := goodIn_r _ [14, 15, 16, 17, 18, 19, 20, 84, 85, 86, 87, 88, 89, 90, 91, 92, 93, 94, 95, 96, 97, 98, 99, 100, 101, 102, 103, 104, 105, 106, 107, 108, 109, 110, 111, 112, 113, 114, 115, 116, 117, 118, 119, 120, 121, 122, 123] (by decide +kernel) (by decide +kernel)
set_option maxRecDepth 20000 in
theorem gX9_beside_X9_asItIs : GoodIn wsX9_beside (wsV RX9 211 RX9 yX9_asItIs wsX9_asItIs) := goodIn_app (goodIn_of _ (by decide +kernel)) ggX9_beside_X9_asItIs
set_option maxRecDepth 20000 in
theorem ggX9_beside_X9_isHeard : GoodIn wsX9_beside wsX9_isHeard := goodIn_r _ [24, 25, 26, 27, 5, 28, 29, 30, 31, 32, 33, 34, 18, 35, 36, 37, 38, 39, 40, 41, 42, 43, 44, 45, 46, 47, 48, 49, 50, 51, 52, 53, 20, 54, 55, 16, 56, 57, 58, 59, 60, 61, 62, 63, 64, 65, 66, 67, 68, 69, 70, 71, 72, 73, 74, 75, 76, 77, 19, 78, 79, 80, 81, 82, 83, 84, 85, 86, 87, 88, 89, 90, 91, 92, 93, 94, 95, 96, 97, 98, 99, 100, 101, 102, 103, 104, 105, 106, 107, 108, 109, 110, 111, 112, 113, 114, 115, 116, 117, 118, 119, 120, 121, 122, 123] (by decide +kernel) (by decide +kernel)
set_option maxRecDepth 20000 in
theorem gX9_beside_X9_isHeard : GoodIn wsX9_beside (wsV RX9 237 RX9 yX9_isHeard wsX9_isHeard) := goodIn_app (goodIn_of _ (by decide +kernel)) ggX9_beside_X9_isHeard
theorem dX9_beside_0 : decode cX9_beside 0 = .ok (.aload_n 0, 1) := by decide +kernel
theorem dX9_beside_1 : decode cX9_beside 1 = .ok (.iload_n 1, 1) := by decide +kernel
theorem dX9_beside_2 : decode cX9_beside 2 = .ok (.invokevirtual 208, 3) := by decide +kernel
theorem dX9_beside_5 : decode cX9_beside 5 = .ok (.ifCond .eq 13, 3) := by decide +kernel
theorem dX9_beside_8 : decode cX9_beside 8 = .ok (.aload_n 0, 1) := by decide +kernel
theorem dX9_beside_9 : decode cX9_beside 9 = .ok (.iload_n 2, 1) := by decide +kernel
theorem dX9_beside_10 : decode cX9_beside 10 = .ok (.iconst 0, 1) := by decide +kernel
theorem dX9_beside_11 : decode cX9_beside 11 = .ok (.iconst 2, 1) := by decide +kernel
theorem dX9_beside_12 : decode cX9_beside 12 = .ok (.invokevirtual 133, 3) := by decide +kernel
theorem dX9_beside_15 : decode cX9_beside 15 = .ok (.ifCond .ne 5, 3) := by decide +kernel
theorem dX9_beside_18 : decode cX9_beside 18 = .ok (.iconst (-1), 1) := by decide +kernel
theorem dX9_beside_19 : decode cX9_beside 19 = .ok (.ireturn, 1) := by decide +kernel
theorem dX9_beside_20 : decode cX9_beside 20 = .ok (.aload_n 0, 1) := by decide +kernel
theorem dX9_beside_21 : decode cX9_beside 21 = .ok (.invokevirtual 211, 3) := by decide +kernel
theorem dX9_beside_24 : decode cX9_beside 24 = .ok (.iconst 0, 1) := by decide +kernel
theorem dX9_beside_25 : decode cX9_beside 25 = .ok (.istore_n 3, 1) := by decide +kernel
theorem dX9_beside_26 : decode cX9_beside 26 = .ok (.iconst 0, 1) := by decide +kernel
theorem dX9_beside_27 : decode cX9_beside 27 = .ok (.istore 4, 2) := by decide +kernel
theorem dX9_beside_29 : decode cX9_beside 29 = .ok (.iload 4, 2) := by decide +kernel
theorem dX9_beside_31 : decode cX9_beside 31 = .ok (.aload_n 0, 1) := by decide +kernel
theorem dX9_beside_32 : decode cX9_beside 32 = .ok (.getfield 7, 3) := by decide +kernel
theorem dX9_beside_35 : decode cX9_beside 35 = .ok (.if_icmp .ge 85, 3) := by decide +kernel
theorem dX9_beside_38 : decode cX9_beside 38 = .ok (.aload_n 0, 1) := by decide +kernel
theorem dX9_beside_39 : decode cX9_beside 39 = .ok (.iload 4, 2) := by decide +kernel
theorem dX9_beside_41 : decode cX9_beside 41 = .ok (.iload_n 1, 1) := by decide +kernel
theorem dX9_beside_42 : decode cX9_beside 42 = .ok (.iconst 0, 1) := by decide +kernel
theorem dX9_beside_43 : decode cX9_beside 43 = .ok (.invokevirtual 237, 3) := by decide +kernel
theorem dX9_beside_46 : decode cX9_beside 46 = .ok (.istore 5, 2) := by decide +kernel
theorem dX9_beside_48 : decode cX9_beside 48 = .ok (.aload_n 0, 1) := by decide +kernel
theorem dX9_beside_49 : decode cX9_beside 49 = .ok (.iload 4, 2) := by decide +kernel
theorem dX9_beside_51 : decode cX9_beside 51 = .ok (.iload_n 1, 1) := by decide +kernel
theorem dX9_beside_52 : decode cX9_beside 52 = .ok (.iconst 1, 1) := by decide +kernel
theorem dX9_beside_53 : decode cX9_beside 53 = .ok (.invokevirtual 237, 3) := by decide +kernel
theorem dX9_beside_56 : decode cX9_beside 56 = .ok (.istore 6, 2) := by decide +kernel
theorem dX9_beside_58 : decode cX9_beside 58 = .ok (.iload_n 3, 1) := by decide +kernel
theorem dX9_beside_59 : decode cX9_beside 59 = .ok (.iload_n 2, 1) := by decide +kernel
theorem dX9_beside_60 : decode cX9_beside 60 = .ok (.ifCond .ne 16, 3) := by decide +kernel
theorem dX9_beside_63 : decode cX9_beside 63 = .ok (.iload 5, 2) := by decide +kernel
theorem dX9_beside_65 : decode cX9_beside 65 = .ok (.ifCond .eq 46, 3) := by decide +kernel
theorem dX9_beside_68 : decode cX9_beside 68 = .ok (.iload 6, 2) := by decide +kernel
theorem dX9_beside_70 : decode cX9_beside 70 = .ok (.ifCond .ne 41, 3) := by decide +kernel
theorem dX9_beside_73 : decode cX9_beside 73 = .ok (.goto 31, 3) := by decide +kernel
theorem dX9_beside_76 : decode cX9_beside 76 = .ok (.iload_n 2, 1) := by decide +kernel
theorem dX9_beside_77 : decode cX9_beside 77 = .ok (.iconst 1, 1) := by decide +kernel
theorem dX9_beside_78 : decode cX9_beside 78 = .ok (.if_icmp .ne 16, 3) := by decide +kernel
theorem dX9_beside_81 : decode cX9_beside 81 = .ok (.iload 6, 2) := by decide +kernel
theorem dX9_beside_83 : decode cX9_beside 83 = .ok (.ifCond .eq 28, 3) := by decide +kernel
theorem dX9_beside_86 : decode cX9_beside 86 = .ok (.iload 5, 2) := by decide +kernel
theorem dX9_beside_88 : decode cX9_beside 88 = .ok (.ifCond .ne 23, 3) := by decide +kernel
theorem dX9_beside_91 : decode cX9_beside 91 = .ok (.goto 13, 3) := by decide +kernel
theorem dX9_beside_94 : decode cX9_beside 94 = .ok (.iload 5, 2) := by decide +kernel
theorem dX9_beside_96 : decode cX9_beside 96 = .ok (.ifCond .eq 15, 3) := by decide +kernel
theorem dX9_beside_99 : decode cX9_beside 99 = .ok (.iload 6, 2) := by decide +kernel
theorem dX9_beside_101 : decode cX9_beside 101 = .ok (.ifCond .eq 10, 3) := by decide +kernel
theorem dX9_beside_104 : decode cX9_beside 104 = .ok (.iconst 1, 1) := by decide +kernel
theorem dX9_beside_105 : decode cX9_beside 105 = .ok (.iload 4, 2) := by decide +kernel
theorem dX9_beside_107 : decode cX9_beside 107 = .ok (.ishl, 1) := by decide +kernel
theorem dX9_beside_108 : decode cX9_beside 108 = .ok (.goto 4, 3) := by decide +kernel
theorem dX9_beside_111 : decode cX9_beside 111 = .ok (.iconst 0, 1) := by decide +kernel
theorem dX9_beside_112 : decode cX9_beside 112 = .ok (.ior, 1) := by decide +kernel
theorem dX9_beside_113 : decode cX9_beside 113 = .ok (.istore_n 3, 1) := by decide +kernel
theorem dX9_beside_114 : decode cX9_beside 114 = .ok (.iinc 4 1, 3) := by decide +kernel
theorem dX9_beside_117 : decode cX9_beside 117 = .ok (.goto (-88), 3) := by decide +kernel
theorem dX9_beside_120 : decode cX9_beside 120 = .ok (.iload_n 3, 1) := by decide +kernel
theorem dX9_beside_121 : decode cX9_beside 121 = .ok (.ireturn, 1) := by decide +kernel
set_option maxRecDepth 20000 in
theorem ggX9_way_X9_isTape : GoodIn wsX9_way wsX9_isTape := goodIn_r _ [13, 14, 15, 16, 12, 17] (by decide +kernel) (by decide +kernel)
set_option maxRecDepth 20000 in
theorem gX9_way_X9_isTape : GoodIn wsX9_way (wsV RX9 255 RX9 yX9_isTape wsX9_isTape) := goodIn_app (goodIn_of _ (by decide +kernel)) ggX9_way_X9_isTape
set_option maxRecDepth 20000 in
theorem ggX9_way_X9_isLayer : GoodIn wsX9_way wsX9_isLayer := goodIn_r _ [21, 22, 23, 24, 12, 25, 26, 14, 15, 16, 17, 27, 28, 29, 30, 31, 32, 33, 34, 82, 83, 84, 85, 86, 87, 88, 89, 90, 91, 92, 93, 94, 95, 96, 97, 98, 99, 100, 101, 102, 103, 104, 105, 106, 107, 108, 109, 110, 111, 112, 113, 114, 115, 116, 117, 118, 119, 120, 121] (by decide +kernel) (by decide +kernel)
set_option maxRecDepth 20000 in
theorem gX9_way_X9_isLayer : GoodIn wsX9_way (wsV RX9 234 RX9 yX9_isLayer wsX9_isLayer) := goodIn_app (goodIn_of _ (by decide +kernel)) ggX9_way_X9_isLayer
set_option maxRecDepth 20000 in
theorem ggX9_way_X9_asItIs : GoodIn wsX9_way wsX9_asItIs := goodIn_r _ [38, 39, 40, 41, 42, 43, 44, 82, 83, 84, 85, 86, 87, 88, 89, 90, 91, 92, 93, 94, 95, 96, 97, 98, 99, 100, 101, 102, 103, 104, 105, 106, 107, 108, 109, 110, 111, 112, 113, 114, 115, 116, 117, 118, 119, 120, 121] (by decide +kernel) (by decide +kernel)
set_option maxRecDepth 20000 in
theorem gX9_way_X9_asItIs : GoodIn wsX9_way (wsV RX9 211 RX9 yX9_asItIs wsX9_asItIs) := goodIn_app (goodIn_of _ (by decide +kernel)) ggX9_way_X9_asItIs
set_option maxRecDepth 20000 in
theorem ggX9_way_X9_wayOf : GoodIn wsX9_way wsX9_wayOf := goodIn_r _ [48, 49, 50, 51, 12, 52, 53, 54, 55, 56, 57, 58, 59, 60, 61, 62, 63, 64, 65, 66, 67, 44, 68, 69, 40, 70, 71, 72, 73, 74, 75, 76, 77, 78, 79, 80, 81, 82, 83, 84, 85, 86, 87, 88, 89, 90, 91, 92, 93, 94, 95, 96, 97, 98, 99, 100, 101, 102, 103, 104, 105, 106, 107, 108, 109, 110, 111, 112, 113, 114, 115, 116, 117, 118, 119, 120, 121] (by decide +kernel) (by decide +kernel)
set_option maxRecDepth 20000 in
theorem gX9_way_X9_wayOf : GoodIn wsX9_way (wsV RX9 220 RX9 yX9_wayOf wsX9_wayOf) := goodIn_app (goodIn_of _ (by decide +kernel)) ggX9_way_X9_wayOf
theorem dX9_way_0 : decode cX9_way 0 = .ok (.aload_n 0, 1) := by decide +kernel
theorem dX9_way_1 : decode cX9_way 1 = .ok (.iload_n 1, 1) := by decide +kernel
theorem dX9_way_2 : decode cX9_way 2 = .ok (.invokevirtual 255, 3) := by decide +kernel
theorem dX9_way_5 : decode cX9_way 5 = .ok (.ifCond .eq 15, 3) := by decide +kernel
theorem dX9_way_8 : decode cX9_way 8 = .ok (.aload_n 0, 1) := by decide +kernel
theorem dX9_way_9 : decode cX9_way 9 = .ok (.iload_n 3, 1) := by decide +kernel
theorem dX9_way_10 : decode cX9_way 10 = .ok (.iload 4, 2) := by decide +kernel
theorem dX9_way_12 : decode cX9_way 12 = .ok (.iload 5, 2) := by decide +kernel
theorem dX9_way_14 : decode cX9_way 14 = .ok (.invokevirtual 234, 3) := by decide +kernel
theorem dX9_way_17 : decode cX9_way 17 = .ok (.ifCond .ne 5, 3) := by decide +kernel
theorem dX9_way_20 : decode cX9_way 20 = .ok (.iconst (-1), 1) := by decide +kernel
theorem dX9_way_21 : decode cX9_way 21 = .ok (.ireturn, 1) := by decide +kernel
theorem dX9_way_22 : decode cX9_way 22 = .ok (.aload_n 0, 1) := by decide +kernel
theorem dX9_way_23 : decode cX9_way 23 = .ok (.getfield 120, 3) := by decide +kernel
theorem dX9_way_26 : decode cX9_way 26 = .ok (.iload_n 1, 1) := by decide +kernel
theorem dX9_way_27 : decode cX9_way 27 = .ok (.iaload, 1) := by decide +kernel
theorem dX9_way_28 : decode cX9_way 28 = .ok (.ifCond .le 6, 3) := by decide +kernel
theorem dX9_way_31 : decode cX9_way 31 = .ok (.bipush (-12), 2) := by decide +kernel
theorem dX9_way_33 : decode cX9_way 33 = .ok (.ireturn, 1) := by decide +kernel
theorem dX9_way_34 : decode cX9_way 34 = .ok (.aload_n 0, 1) := by decide +kernel
theorem dX9_way_35 : decode cX9_way 35 = .ok (.invokevirtual 211, 3) := by decide +kernel
theorem dX9_way_38 : decode cX9_way 38 = .ok (.iconst 1, 1) := by decide +kernel
theorem dX9_way_39 : decode cX9_way 39 = .ok (.istore 6, 2) := by decide +kernel
theorem dX9_way_41 : decode cX9_way 41 = .ok (.iconst 0, 1) := by decide +kernel
theorem dX9_way_42 : decode cX9_way 42 = .ok (.istore 7, 2) := by decide +kernel
theorem dX9_way_44 : decode cX9_way 44 = .ok (.iload 4, 2) := by decide +kernel
theorem dX9_way_46 : decode cX9_way 46 = .ok (.istore 8, 2) := by decide +kernel
theorem dX9_way_48 : decode cX9_way 48 = .ok (.aload_n 0, 1) := by decide +kernel
theorem dX9_way_49 : decode cX9_way 49 = .ok (.getfield 111, 3) := by decide +kernel
theorem dX9_way_52 : decode cX9_way 52 = .ok (.iconst 0, 1) := by decide +kernel
theorem dX9_way_53 : decode cX9_way 53 = .ok (.iload_n 3, 1) := by decide +kernel
theorem dX9_way_54 : decode cX9_way 54 = .ok (.iastore, 1) := by decide +kernel
theorem dX9_way_55 : decode cX9_way 55 = .ok (.iload 6, 2) := by decide +kernel
theorem dX9_way_57 : decode cX9_way 57 = .ok (.ifCond .le 180, 3) := by decide +kernel
theorem dX9_way_60 : decode cX9_way 60 = .ok (.iinc 6 (-1), 3) := by decide +kernel
theorem dX9_way_63 : decode cX9_way 63 = .ok (.aload_n 0, 1) := by decide +kernel
theorem dX9_way_64 : decode cX9_way 64 = .ok (.getfield 111, 3) := by decide +kernel
theorem dX9_way_67 : decode cX9_way 67 = .ok (.iload 6, 2) := by decide +kernel
theorem dX9_way_69 : decode cX9_way 69 = .ok (.iaload, 1) := by decide +kernel
theorem dX9_way_70 : decode cX9_way 70 = .ok (.istore 9, 2) := by decide +kernel
theorem dX9_way_72 : decode cX9_way 72 = .ok (.iconst 0, 1) := by decide +kernel
theorem dX9_way_73 : decode cX9_way 73 = .ok (.istore 10, 2) := by decide +kernel
theorem dX9_way_75 : decode cX9_way 75 = .ok (.iload 10, 2) := by decide +kernel
theorem dX9_way_77 : decode cX9_way 77 = .ok (.aload_n 0, 1) := by decide +kernel
theorem dX9_way_78 : decode cX9_way 78 = .ok (.getfield 38, 3) := by decide +kernel
theorem dX9_way_81 : decode cX9_way 81 = .ok (.if_icmp .ge 93, 3) := by decide +kernel
theorem dX9_way_84 : decode cX9_way 84 = .ok (.aload_n 0, 1) := by decide +kernel
theorem dX9_way_85 : decode cX9_way 85 = .ok (.getfield 50, 3) := by decide +kernel
theorem dX9_way_88 : decode cX9_way 88 = .ok (.iload 10, 2) := by decide +kernel
theorem dX9_way_90 : decode cX9_way 90 = .ok (.iaload, 1) := by decide +kernel
theorem dX9_way_91 : decode cX9_way 91 = .ok (.iload 5, 2) := by decide +kernel
theorem dX9_way_93 : decode cX9_way 93 = .ok (.if_icmp .eq 6, 3) := by decide +kernel
theorem dX9_way_96 : decode cX9_way 96 = .ok (.goto 72, 3) := by decide +kernel
theorem dX9_way_99 : decode cX9_way 99 = .ok (.aload_n 0, 1) := by decide +kernel
theorem dX9_way_100 : decode cX9_way 100 = .ok (.getfield 120, 3) := by decide +kernel
theorem dX9_way_103 : decode cX9_way 103 = .ok (.iload_n 1, 1) := by decide +kernel
theorem dX9_way_104 : decode cX9_way 104 = .ok (.iaload, 1) := by decide +kernel
theorem dX9_way_105 : decode cX9_way 105 = .ok (.ifCond .lt 22, 3) := by decide +kernel
theorem dX9_way_108 : decode cX9_way 108 = .ok (.iload_n 2, 1) := by decide +kernel
theorem dX9_way_109 : decode cX9_way 109 = .ok (.ifCond .lt 18, 3) := by decide +kernel
theorem dX9_way_112 : decode cX9_way 112 = .ok (.iload_n 2, 1) := by decide +kernel
theorem dX9_way_113 : decode cX9_way 113 = .ok (.aload_n 0, 1) := by decide +kernel
theorem dX9_way_114 : decode cX9_way 114 = .ok (.getfield 123, 3) := by decide +kernel
theorem dX9_way_117 : decode cX9_way 117 = .ok (.iload_n 1, 1) := by decide +kernel
theorem dX9_way_118 : decode cX9_way 118 = .ok (.iaload, 1) := by decide +kernel
theorem dX9_way_119 : decode cX9_way 119 = .ok (.iload 7, 2) := by decide +kernel
theorem dX9_way_121 : decode cX9_way 121 = .ok (.isub, 1) := by decide +kernel
theorem dX9_way_122 : decode cX9_way 122 = .ok (.iconst 1, 1) := by decide +kernel
theorem dX9_way_123 : decode cX9_way 123 = .ok (.isub, 1) := by decide +kernel
theorem dX9_way_124 : decode cX9_way 124 = .ok (.if_icmp .le 9, 3) := by decide +kernel
theorem dX9_way_127 : decode cX9_way 127 = .ok (.bipush 100, 2) := by decide +kernel
theorem dX9_way_129 : decode cX9_way 129 = .ok (.iload 7, 2) := by decide +kernel
theorem dX9_way_131 : decode cX9_way 131 = .ok (.iadd, 1) := by decide +kernel
theorem dX9_way_132 : decode cX9_way 132 = .ok (.ireturn, 1) := by decide +kernel
theorem dX9_way_133 : decode cX9_way 133 = .ok (.aload_n 0, 1) := by decide +kernel
theorem dX9_way_134 : decode cX9_way 134 = .ok (.getfield 126, 3) := by decide +kernel
theorem dX9_way_137 : decode cX9_way 137 = .ok (.bipush 60, 2) := by decide +kernel
theorem dX9_way_139 : decode cX9_way 139 = .ok (.iload_n 1, 1) := by decide +kernel
theorem dX9_way_140 : decode cX9_way 140 = .ok (.imul, 1) := by decide +kernel
theorem dX9_way_141 : decode cX9_way 141 = .ok (.iload_n 2, 1) := by decide +kernel
theorem dX9_way_142 : decode cX9_way 142 = .ok (.iadd, 1) := by decide +kernel
theorem dX9_way_143 : decode cX9_way 143 = .ok (.iload 7, 2) := by decide +kernel
theorem dX9_way_145 : decode cX9_way 145 = .ok (.iadd, 1) := by decide +kernel
theorem dX9_way_146 : decode cX9_way 146 = .ok (.laload, 1) := by decide +kernel
theorem dX9_way_147 : decode cX9_way 147 = .ok (.aload_n 0, 1) := by decide +kernel
theorem dX9_way_148 : decode cX9_way 148 = .ok (.iload 10, 2) := by decide +kernel
theorem dX9_way_150 : decode cX9_way 150 = .ok (.iload 9, 2) := by decide +kernel
theorem dX9_way_152 : decode cX9_way 152 = .ok (.iload 8, 2) := by decide +kernel
theorem dX9_way_154 : decode cX9_way 154 = .ok (.invokevirtual 220, 3) := by decide +kernel
theorem dX9_way_157 : decode cX9_way 157 = .ok (.i2l, 1) := by decide +kernel
theorem dX9_way_158 : decode cX9_way 158 = .ok (.lcmp, 1) := by decide +kernel
theorem dX9_way_159 : decode cX9_way 159 = .ok (.ifCond .eq 6, 3) := by decide +kernel
theorem dX9_way_162 : decode cX9_way 162 = .ok (.iload 7, 2) := by decide +kernel
theorem dX9_way_164 : decode cX9_way 164 = .ok (.ireturn, 1) := by decide +kernel
theorem dX9_way_165 : decode cX9_way 165 = .ok (.iinc 7 1, 3) := by decide +kernel
theorem dX9_way_168 : decode cX9_way 168 = .ok (.iinc 10 1, 3) := by decide +kernel
theorem dX9_way_171 : decode cX9_way 171 = .ok (.goto (-96), 3) := by decide +kernel
theorem dX9_way_174 : decode cX9_way 174 = .ok (.aload_n 0, 1) := by decide +kernel
theorem dX9_way_175 : decode cX9_way 175 = .ok (.getfield 32, 3) := by decide +kernel
theorem dX9_way_178 : decode cX9_way 178 = .ok (.iload 9, 2) := by decide +kernel
theorem dX9_way_180 : decode cX9_way 180 = .ok (.iaload, 1) := by decide +kernel
theorem dX9_way_181 : decode cX9_way 181 = .ok (.iconst 1, 1) := by decide +kernel
theorem dX9_way_182 : decode cX9_way 182 = .ok (.isub, 1) := by decide +kernel
theorem dX9_way_183 : decode cX9_way 183 = .ok (.istore 10, 2) := by decide +kernel
theorem dX9_way_185 : decode cX9_way 185 = .ok (.iload 10, 2) := by decide +kernel
theorem dX9_way_187 : decode cX9_way 187 = .ok (.ifCond .lt 37, 3) := by decide +kernel
theorem dX9_way_190 : decode cX9_way 190 = .ok (.iload 8, 2) := by decide +kernel
theorem dX9_way_192 : decode cX9_way 192 = .ok (.iconst 1, 1) := by decide +kernel
theorem dX9_way_193 : decode cX9_way 193 = .ok (.if_icmp .eq 31, 3) := by decide +kernel
theorem dX9_way_196 : decode cX9_way 196 = .ok (.aload_n 0, 1) := by decide +kernel
theorem dX9_way_197 : decode cX9_way 197 = .ok (.getfield 111, 3) := by decide +kernel
theorem dX9_way_200 : decode cX9_way 200 = .ok (.iload 6, 2) := by decide +kernel
theorem dX9_way_202 : decode cX9_way 202 = .ok (.aload_n 0, 1) := by decide +kernel
theorem dX9_way_203 : decode cX9_way 203 = .ok (.getfield 35, 3) := by decide +kernel
theorem dX9_way_206 : decode cX9_way 206 = .ok (.iconst 4, 1) := by decide +kernel
theorem dX9_way_207 : decode cX9_way 207 = .ok (.iload 9, 2) := by decide +kernel
theorem dX9_way_209 : decode cX9_way 209 = .ok (.imul, 1) := by decide +kernel
theorem dX9_way_210 : decode cX9_way 210 = .ok (.iload 10, 2) := by decide +kernel
theorem dX9_way_212 : decode cX9_way 212 = .ok (.iadd, 1) := by decide +kernel
theorem dX9_way_213 : decode cX9_way 213 = .ok (.iaload, 1) := by decide +kernel
theorem dX9_way_214 : decode cX9_way 214 = .ok (.iastore, 1) := by decide +kernel
theorem dX9_way_215 : decode cX9_way 215 = .ok (.iinc 6 1, 3) := by decide +kernel
theorem dX9_way_218 : decode cX9_way 218 = .ok (.iinc 10 (-1), 3) := by decide +kernel
theorem dX9_way_221 : decode cX9_way 221 = .ok (.goto (-36), 3) := by decide +kernel
theorem dX9_way_224 : decode cX9_way 224 = .ok (.iconst 0, 1) := by decide +kernel
theorem dX9_way_225 : decode cX9_way 225 = .ok (.istore 8, 2) := by decide +kernel
theorem dX9_way_227 : decode cX9_way 227 = .ok (.iload 7, 2) := by decide +kernel
theorem dX9_way_229 : decode cX9_way 229 = .ok (.ifCond .ne 5, 3) := by decide +kernel
theorem dX9_way_232 : decode cX9_way 232 = .ok (.iconst 0, 1) := by decide +kernel
theorem dX9_way_233 : decode cX9_way 233 = .ok (.ireturn, 1) := by decide +kernel
theorem dX9_way_234 : decode cX9_way 234 = .ok (.goto (-179), 3) := by decide +kernel
theorem dX9_way_237 : decode cX9_way 237 = .ok (.iload 7, 2) := by decide +kernel
theorem dX9_way_239 : decode cX9_way 239 = .ok (.ireturn, 1) := by decide +kernel
theorem dX9_body_0 : decode cX9_body 0 = .ok (.aload_n 0, 1) := by decide +kernel
theorem dX9_body_1 : decode cX9_body 1 = .ok (.getfield 114, 3) := by decide +kernel
theorem dX9_body_4 : decode cX9_body 4 = .ok (.bipush 20, 2) := by decide +kernel
theorem dX9_body_6 : decode cX9_body 6 = .ok (.if_icmp .ge 13, 3) := by decide +kernel
theorem dX9_body_9 : decode cX9_body 9 = .ok (.aload_n 0, 1) := by decide +kernel
theorem dX9_body_10 : decode cX9_body 10 = .ok (.getfield 117, 3) := by decide +kernel
theorem dX9_body_13 : decode cX9_body 13 = .ok (.aload_n 0, 1) := by decide +kernel
theorem dX9_body_14 : decode cX9_body 14 = .ok (.getfield 114, 3) := by decide +kernel
theorem dX9_body_17 : decode cX9_body 17 = .ok (.iload_n 1, 1) := by decide +kernel
theorem dX9_body_18 : decode cX9_body 18 = .ok (.iastore, 1) := by decide +kernel
theorem dX9_body_19 : decode cX9_body 19 = .ok (.aload_n 0, 1) := by decide +kernel
theorem dX9_body_20 : decode cX9_body 20 = .ok (.dup, 1) := by decide +kernel
theorem dX9_body_21 : decode cX9_body 21 = .ok (.getfield 114, 3) := by decide +kernel
theorem dX9_body_24 : decode cX9_body 24 = .ok (.iconst 1, 1) := by decide +kernel
theorem dX9_body_25 : decode cX9_body 25 = .ok (.iadd, 1) := by decide +kernel
theorem dX9_body_26 : decode cX9_body 26 = .ok (.putfield 114, 3) := by decide +kernel
theorem dX9_body_29 : decode cX9_body 29 = .ok (.return_, 1) := by decide +kernel
set_option maxRecDepth 20000 in
theorem ggX9_plainHears_X9_body : GoodIn wsX9_plainHears wsX9_body := goodIn_r _ [5, 6, 7, 8, 9, 10, 11, 12, 13, 14, 15, 16, 17, 18, 19, 20, 21, 22, 23, 24, 25, 26, 27, 28, 29, 30, 31, 32, 33, 34, 35, 36, 37, 38, 39, 40, 41, 42, 43, 44, 45, 46, 47] (by decide +kernel) (by decide +kernel)
set_option maxRecDepth 20000 in
theorem gX9_plainHears_X9_body : GoodIn wsX9_plainHears (wsV RX9 258 RX9 yX9_body wsX9_body) := goodIn_app (goodIn_of _ (by decide +kernel)) ggX9_plainHears_X9_body
theorem dX9_plainHears_0 : decode cX9_plainHears 0 = .ok (.aload_n 0, 1) := by decide +kernel
theorem dX9_plainHears_1 : decode cX9_plainHears 1 = .ok (.bipush 10, 2) := by decide +kernel
theorem dX9_plainHears_3 : decode cX9_plainHears 3 = .ok (.invokevirtual 258, 3) := by decide +kernel
theorem dX9_plainHears_6 : decode cX9_plainHears 6 = .ok (.iload_n 2, 1) := by decide +kernel
theorem dX9_plainHears_7 : decode cX9_plainHears 7 = .ok (.iload_n 1, 1) := by decide +kernel
theorem dX9_plainHears_8 : decode cX9_plainHears 8 = .ok (.iadd, 1) := by decide +kernel
theorem dX9_plainHears_9 : decode cX9_plainHears 9 = .ok (.ireturn, 1) := by decide +kernel
set_option maxRecDepth 20000 in
theorem ggX9_writtenHears_X9_body : GoodIn wsX9_writtenHears wsX9_body := goodIn_r _ [5, 6, 7, 12, 13, 14, 15, 16, 17, 18, 19, 20, 21, 22, 23, 24, 25, 26, 27, 28, 29, 30, 31, 32, 33, 34, 35, 36, 37, 38, 39, 40, 41, 42, 43, 44, 45, 46, 47, 48, 49, 50, 51] (by decide +kernel) (by decide +kernel)
set_option maxRecDepth 20000 in
theorem gX9_writtenHears_X9_body : GoodIn wsX9_writtenHears (wsV RX9 258 RX9 yX9_body wsX9_body) := goodIn_app (goodIn_of _ (by decide +kernel)) ggX9_writtenHears_X9_body
set_option maxRecDepth 20000 in
theorem ggX9_writtenHears_X9_plainHears : GoodIn wsX9_writtenHears wsX9_plainHears := goodIn_r _ [11, 1, 2, 3, 4, 5, 6, 7, 12, 13, 14, 15, 16, 17, 18, 19, 20, 21, 22, 23, 24, 25, 26, 27, 28, 29, 30, 31, 32, 33, 34, 35, 36, 37, 38, 39, 40, 41, 42, 43, 44, 45, 46, 47, 48, 49, 50, 51] (by decide +kernel) (by decide +kernel)
set_option maxRecDepth 20000 in
theorem gX9_writtenHears_X9_plainHears : GoodIn wsX9_writtenHears (wsV RX9 261 RX9 yX9_plainHears wsX9_plainHears) := goodIn_app (goodIn_of _ (by decide +kernel)) ggX9_writtenHears_X9_plainHears
theorem dX9_writtenHears_0 : decode cX9_writtenHears 0 = .ok (.aload_n 0, 1) := by decide +kernel
theorem dX9_writtenHears_1 : decode cX9_writtenHears 1 = .ok (.bipush 30, 2) := by decide +kernel
theorem dX9_writtenHears_3 : decode cX9_writtenHears 3 = .ok (.invokevirtual 258, 3) := by decide +kernel
theorem dX9_writtenHears_6 : decode cX9_writtenHears 6 = .ok (.aload_n 0, 1) := by decide +kernel
theorem dX9_writtenHears_7 : decode cX9_writtenHears 7 = .ok (.iload_n 1, 1) := by decide +kernel
theorem dX9_writtenHears_8 : decode cX9_writtenHears 8 = .ok (.iload_n 2, 1) := by decide +kernel
theorem dX9_writtenHears_9 : decode cX9_writtenHears 9 = .ok (.iconst 3, 1) := by decide +kernel
theorem dX9_writtenHears_10 : decode cX9_writtenHears 10 = .ok (.imul, 1) := by decide +kernel
theorem dX9_writtenHears_11 : decode cX9_writtenHears 11 = .ok (.invokevirtual 261, 3) := by decide +kernel
theorem dX9_writtenHears_14 : decode cX9_writtenHears 14 = .ok (.ireturn, 1) := by decide +kernel
set_option maxRecDepth 20000 in
theorem ggX9_hears_X9_writtenHears : GoodIn wsX9_hears wsX9_writtenHears := goodIn_r _ [7, 8, 9, 10, 6, 11, 12, 13, 14, 15, 16, 17, 18, 19, 20, 21, 22, 23, 24, 25, 26, 27, 28, 29, 30, 31, 32, 33, 34, 35, 36, 37, 38, 39, 40, 41, 42, 43, 44, 45, 46, 47, 48, 49, 50, 51, 52, 53, 54, 55, 56, 57] (by decide +kernel) (by decide +kernel)
set_option maxRecDepth 20000 in
theorem gX9_hears_X9_writtenHears : GoodIn wsX9_hears (wsV RX9 265 RX9 yX9_writtenHears wsX9_writtenHears) := goodIn_app (goodIn_of _ (by decide +kernel)) ggX9_hears_X9_writtenHears
set_option maxRecDepth 20000 in
theorem ggX9_hears_X9_body : GoodIn wsX9_hears wsX9_body := goodIn_r _ [11, 12, 13, 18, 19, 20, 21, 22, 23, 24, 25, 26, 27, 28, 29, 30, 31, 32, 33, 34, 35, 36, 37, 38, 39, 40, 41, 42, 43, 44, 45, 46, 47, 48, 49, 50, 51, 52, 53, 54, 55, 56, 57] (by decide +kernel) (by decide +kernel)
set_option maxRecDepth 20000 in
theorem gX9_hears_X9_body : GoodIn wsX9_hears (wsV RX9 258 RX9 yX9_body wsX9_body) := goodIn_app (goodIn_of _ (by decide +kernel)) ggX9_hears_X9_body
set_option maxRecDepth 20000 in
theorem ggX9_hears_X9_plainHears : GoodIn wsX9_hears wsX9_plainHears := goodIn_r _ [17, 8, 9, 10, 6, 11, 12, 13, 18, 19, 20, 21, 22, 23, 24, 25, 26, 27, 28, 29, 30, 31, 32, 33, 34, 35, 36, 37, 38, 39, 40, 41, 42, 43, 44, 45, 46, 47, 48, 49, 50, 51, 52, 53, 54, 55, 56, 57] (by decide +kernel) (by decide +kernel)
set_option maxRecDepth 20000 in
theorem gX9_hears_X9_plainHears : GoodIn wsX9_hears (wsV RX9 261 RX9 yX9_plainHears wsX9_plainHears) := goodIn_app (goodIn_of _ (by decide +kernel)) ggX9_hears_X9_plainHears
theorem dX9_hears_0 : decode cX9_hears 0 = .ok (.aload_n 0, 1) := by decide +kernel
theorem dX9_hears_1 : decode cX9_hears 1 = .ok (.getfield 23, 3) := by decide +kernel
theorem dX9_hears_4 : decode cX9_hears 4 = .ok (.iload_n 1, 1) := by decide +kernel
theorem dX9_hears_5 : decode cX9_hears 5 = .ok (.iaload, 1) := by decide +kernel
theorem dX9_hears_6 : decode cX9_hears 6 = .ok (.tableswitch 75 2 6 #[34, 41, 75, 34, 55], 34) := by decide +kernel
theorem dX9_hears_40 : decode cX9_hears 40 = .ok (.aload_n 0, 1) := by decide +kernel
theorem dX9_hears_41 : decode cX9_hears 41 = .ok (.iload_n 1, 1) := by decide +kernel
theorem dX9_hears_42 : decode cX9_hears 42 = .ok (.iload_n 2, 1) := by decide +kernel
theorem dX9_hears_43 : decode cX9_hears 43 = .ok (.invokevirtual 265, 3) := by decide +kernel
theorem dX9_hears_46 : decode cX9_hears 46 = .ok (.ireturn, 1) := by decide +kernel
theorem dX9_hears_47 : decode cX9_hears 47 = .ok (.aload_n 0, 1) := by decide +kernel
theorem dX9_hears_48 : decode cX9_hears 48 = .ok (.bipush 40, 2) := by decide +kernel
theorem dX9_hears_50 : decode cX9_hears 50 = .ok (.invokevirtual 258, 3) := by decide +kernel
theorem dX9_hears_53 : decode cX9_hears 53 = .ok (.aload_n 0, 1) := by decide +kernel
theorem dX9_hears_54 : decode cX9_hears 54 = .ok (.iload_n 1, 1) := by decide +kernel
theorem dX9_hears_55 : decode cX9_hears 55 = .ok (.iload_n 2, 1) := by decide +kernel
theorem dX9_hears_56 : decode cX9_hears 56 = .ok (.invokevirtual 261, 3) := by decide +kernel
theorem dX9_hears_59 : decode cX9_hears 59 = .ok (.ineg, 1) := by decide +kernel
theorem dX9_hears_60 : decode cX9_hears 60 = .ok (.ireturn, 1) := by decide +kernel
theorem dX9_hears_61 : decode cX9_hears 61 = .ok (.aload_n 0, 1) := by decide +kernel
theorem dX9_hears_62 : decode cX9_hears 62 = .ok (.bipush 71, 2) := by decide +kernel
theorem dX9_hears_64 : decode cX9_hears 64 = .ok (.invokevirtual 258, 3) := by decide +kernel
theorem dX9_hears_67 : decode cX9_hears 67 = .ok (.aload_n 0, 1) := by decide +kernel
theorem dX9_hears_68 : decode cX9_hears 68 = .ok (.iload_n 1, 1) := by decide +kernel
theorem dX9_hears_69 : decode cX9_hears 69 = .ok (.iload_n 2, 1) := by decide +kernel
theorem dX9_hears_70 : decode cX9_hears 70 = .ok (.invokevirtual 261, 3) := by decide +kernel
theorem dX9_hears_73 : decode cX9_hears 73 = .ok (.aload_n 0, 1) := by decide +kernel
theorem dX9_hears_74 : decode cX9_hears 74 = .ok (.getfield 26, 3) := by decide +kernel
theorem dX9_hears_77 : decode cX9_hears 77 = .ok (.iload_n 1, 1) := by decide +kernel
theorem dX9_hears_78 : decode cX9_hears 78 = .ok (.iaload, 1) := by decide +kernel
theorem dX9_hears_79 : decode cX9_hears 79 = .ok (.ixor, 1) := by decide +kernel
theorem dX9_hears_80 : decode cX9_hears 80 = .ok (.ireturn, 1) := by decide +kernel
theorem dX9_hears_81 : decode cX9_hears 81 = .ok (.aload_n 0, 1) := by decide +kernel
theorem dX9_hears_82 : decode cX9_hears 82 = .ok (.iload_n 1, 1) := by decide +kernel
theorem dX9_hears_83 : decode cX9_hears 83 = .ok (.iload_n 2, 1) := by decide +kernel
theorem dX9_hears_84 : decode cX9_hears 84 = .ok (.invokevirtual 261, 3) := by decide +kernel
theorem dX9_hears_87 : decode cX9_hears 87 = .ok (.ireturn, 1) := by decide +kernel
set_option maxRecDepth 20000 in
theorem ggX9_plainKeeps_X9_body : GoodIn wsX9_plainKeeps wsX9_body := goodIn_r _ [6, 7, 8, 22, 23, 24, 25, 26, 27, 28, 29, 30, 31, 32, 33, 34, 35, 36, 37, 38, 39, 40, 41, 42, 43, 44, 45, 46, 47, 48, 49, 50, 51, 52, 53, 54, 55, 56, 57, 58, 59, 60, 61] (by decide +kernel) (by decide +kernel)
set_option maxRecDepth 20000 in
theorem gX9_plainKeeps_X9_body : GoodIn wsX9_plainKeeps (wsV RX9 258 RX9 yX9_body wsX9_body) := goodIn_app (goodIn_of _ (by decide +kernel)) ggX9_plainKeeps_X9_body
set_option maxRecDepth 20000 in
theorem ggX9_plainKeeps_X9_hears : GoodIn wsX9_plainKeeps wsX9_hears := goodIn_r _ [12, 13, 1, 14, 15, 16, 5, 17, 2, 3, 4, 6, 7, 8, 18, 19, 20, 21, 22, 23, 24, 25, 26, 27, 28, 29, 30, 31, 32, 33, 34, 35, 36, 37, 38, 39, 40, 41, 42, 43, 44, 45, 46, 47, 48, 49, 50, 51, 52, 53, 54, 55, 56, 57, 58, 59, 60, 61] (by decide +kernel) (by decide +kernel)
set_option maxRecDepth 20000 in
theorem gX9_plainKeeps_X9_hears : GoodIn wsX9_plainKeeps (wsV RX9 268 RX9 yX9_hears wsX9_hears) := goodIn_app (goodIn_of _ (by decide +kernel)) ggX9_plainKeeps_X9_hears
theorem dX9_plainKeeps_0 : decode cX9_plainKeeps 0 = .ok (.aload_n 0, 1) := by decide +kernel
theorem dX9_plainKeeps_1 : decode cX9_plainKeeps 1 = .ok (.bipush 11, 2) := by decide +kernel
theorem dX9_plainKeeps_3 : decode cX9_plainKeeps 3 = .ok (.invokevirtual 258, 3) := by decide +kernel
theorem dX9_plainKeeps_6 : decode cX9_plainKeeps 6 = .ok (.aload_n 0, 1) := by decide +kernel
theorem dX9_plainKeeps_7 : decode cX9_plainKeeps 7 = .ok (.iload_n 1, 1) := by decide +kernel
theorem dX9_plainKeeps_8 : decode cX9_plainKeeps 8 = .ok (.iload_n 2, 1) := by decide +kernel
theorem dX9_plainKeeps_9 : decode cX9_plainKeeps 9 = .ok (.invokevirtual 268, 3) := by decide +kernel
theorem dX9_plainKeeps_12 : decode cX9_plainKeeps 12 = .ok (.aload_n 0, 1) := by decide +kernel
theorem dX9_plainKeeps_13 : decode cX9_plainKeeps 13 = .ok (.getfield 26, 3) := by decide +kernel
theorem dX9_plainKeeps_16 : decode cX9_plainKeeps 16 = .ok (.iload_n 1, 1) := by decide +kernel
theorem dX9_plainKeeps_17 : decode cX9_plainKeeps 17 = .ok (.iaload, 1) := by decide +kernel
theorem dX9_plainKeeps_18 : decode cX9_plainKeeps 18 = .ok (.isub, 1) := by decide +kernel
theorem dX9_plainKeeps_19 : decode cX9_plainKeeps 19 = .ok (.ireturn, 1) := by decide +kernel
set_option maxRecDepth 20000 in
theorem ggX9_saidKeeps_X9_body : GoodIn wsX9_saidKeeps wsX9_body := goodIn_r _ [5, 6, 7, 26, 27, 28, 29, 30, 31, 32, 33, 34, 35, 36, 37, 38, 39, 40, 41, 42, 43, 44, 45, 46, 47, 48, 49, 50, 51, 52, 53, 54, 55, 56, 57, 58, 59, 60, 61, 62, 63, 64, 65] (by decide +kernel) (by decide +kernel)
set_option maxRecDepth 20000 in
theorem gX9_saidKeeps_X9_body : GoodIn wsX9_saidKeeps (wsV RX9 258 RX9 yX9_body wsX9_body) := goodIn_app (goodIn_of _ (by decide +kernel)) ggX9_saidKeeps_X9_body
set_option maxRecDepth 20000 in
theorem ggX9_saidKeeps_X9_plainKeeps : GoodIn wsX9_saidKeeps wsX9_plainKeeps := goodIn_r _ [11, 12, 1, 2, 3, 4, 5, 6, 7, 13, 14, 15, 16, 17, 18, 19, 20, 21, 22, 23, 24, 25, 26, 27, 28, 29, 30, 31, 32, 33, 34, 35, 36, 37, 38, 39, 40, 41, 42, 43, 44, 45, 46, 47, 48, 49, 50, 51, 52, 53, 54, 55, 56, 57, 58, 59, 60, 61, 62, 63, 64, 65] (by decide +kernel) (by decide +kernel)
set_option maxRecDepth 20000 in
theorem gX9_saidKeeps_X9_plainKeeps : GoodIn wsX9_saidKeeps (wsV RX9 271 RX9 yX9_plainKeeps wsX9_plainKeeps) := goodIn_app (goodIn_of _ (by decide +kernel)) ggX9_saidKeeps_X9_plainKeeps
theorem dX9_saidKeeps_0 : decode cX9_saidKeeps 0 = .ok (.aload_n 0, 1) := by decide +kernel
theorem dX9_saidKeeps_1 : decode cX9_saidKeeps 1 = .ok (.bipush 20, 2) := by decide +kernel
theorem dX9_saidKeeps_3 : decode cX9_saidKeeps 3 = .ok (.invokevirtual 258, 3) := by decide +kernel
theorem dX9_saidKeeps_6 : decode cX9_saidKeeps 6 = .ok (.aload_n 0, 1) := by decide +kernel
theorem dX9_saidKeeps_7 : decode cX9_saidKeeps 7 = .ok (.iload_n 1, 1) := by decide +kernel
theorem dX9_saidKeeps_8 : decode cX9_saidKeeps 8 = .ok (.iload_n 2, 1) := by decide +kernel
theorem dX9_saidKeeps_9 : decode cX9_saidKeeps 9 = .ok (.invokevirtual 271, 3) := by decide +kernel
theorem dX9_saidKeeps_12 : decode cX9_saidKeeps 12 = .ok (.iconst 5, 1) := by decide +kernel
theorem dX9_saidKeeps_13 : decode cX9_saidKeeps 13 = .ok (.ixor, 1) := by decide +kernel
theorem dX9_saidKeeps_14 : decode cX9_saidKeeps 14 = .ok (.ireturn, 1) := by decide +kernel
set_option maxRecDepth 20000 in
theorem ggX9_keeps_X9_body : GoodIn wsX9_keeps wsX9_body := goodIn_r _ [6, 7, 8, 34, 35, 36, 37, 38, 39, 40, 41, 42, 43, 44, 45, 46, 47, 48, 49, 50, 51, 52, 53, 54, 55, 56, 57, 58, 59, 60, 61, 62, 63, 64, 65, 66, 67, 68, 69, 70, 71, 72, 73] (by decide +kernel) (by decide +kernel)
set_option maxRecDepth 20000 in
theorem gX9_keeps_X9_body : GoodIn wsX9_keeps (wsV RX9 258 RX9 yX9_body wsX9_body) := goodIn_app (goodIn_of _ (by decide +kernel)) ggX9_keeps_X9_body
set_option maxRecDepth 20000 in
theorem ggX9_keeps_X9_saidKeeps : GoodIn wsX9_keeps wsX9_saidKeeps := goodIn_r _ [12, 2, 3, 4, 5, 6, 7, 8, 13, 14, 15, 16, 17, 18, 19, 20, 21, 1, 22, 23, 24, 25, 26, 27, 28, 29, 34, 35, 36, 37, 38, 39, 40, 41, 42, 43, 44, 45, 46, 47, 48, 49, 50, 51, 52, 53, 54, 55, 56, 57, 58, 59, 60, 61, 62, 63, 64, 65, 66, 67, 68, 69, 70, 71, 72, 73] (by decide +kernel) (by decide +kernel)
set_option maxRecDepth 20000 in
theorem gX9_keeps_X9_saidKeeps : GoodIn wsX9_keeps (wsV RX9 274 RX9 yX9_saidKeeps wsX9_saidKeeps) := goodIn_app (goodIn_of _ (by decide +kernel)) ggX9_keeps_X9_saidKeeps
set_option maxRecDepth 20000 in
theorem ggX9_keeps_X9_writtenHears : GoodIn wsX9_keeps wsX9_writtenHears := goodIn_r _ [25, 2, 3, 4, 5, 6, 7, 8, 26, 27, 28, 29, 34, 35, 36, 37, 38, 39, 40, 41, 42, 43, 44, 45, 46, 47, 48, 49, 50, 51, 52, 53, 54, 55, 56, 57, 58, 59, 60, 61, 62, 63, 64, 65, 66, 67, 68, 69, 70, 71, 72, 73] (by decide +kernel) (by decide +kernel)
set_option maxRecDepth 20000 in
theorem gX9_keeps_X9_writtenHears : GoodIn wsX9_keeps (wsV RX9 265 RX9 yX9_writtenHears wsX9_writtenHears) := goodIn_app (goodIn_of _ (by decide +kernel)) ggX9_keeps_X9_writtenHears
set_option maxRecDepth 20000 in
theorem ggX9_keeps_X9_isUnder : GoodIn wsX9_keeps wsX9_isUnder := goodIn_r _ [33] (by decide +kernel) (by decide +kernel)
set_option maxRecDepth 20000 in
theorem gX9_keeps_X9_isUnder : GoodIn wsX9_keeps (wsV RX9 186 RX9 yX9_isUnder wsX9_isUnder) := goodIn_app (goodIn_of _ (by decide +kernel)) ggX9_keeps_X9_isUnder
set_option maxRecDepth 20000 in
theorem ggX9_keeps_X9_plainKeeps : GoodIn wsX9_keeps wsX9_plainKeeps := goodIn_r _ [16, 17, 2, 3, 4, 5, 6, 7, 8, 18, 19, 20, 21, 1, 22, 23, 24, 25, 26, 27, 28, 29, 34, 35, 36, 37, 38, 39, 40, 41, 42, 43, 44, 45, 46, 47, 48, 49, 50, 51, 52, 53, 54, 55, 56, 57, 58, 59, 60, 61, 62, 63, 64, 65, 66, 67, 68, 69, 70, 71, 72, 73] (by decide +kernel) (by decide +kernel)
set_option maxRecDepth 20000 in
theorem gX9_keeps_X9_plainKeeps : GoodIn wsX9_keeps (wsV RX9 271 RX9 yX9_plainKeeps wsX9_plainKeeps) := goodIn_app (goodIn_of _ (by decide +kernel)) ggX9_keeps_X9_plainKeeps
theorem dX9_keeps_0 : decode cX9_keeps 0 = .ok (.aload_n 0, 1) := by decide +kernel
theorem dX9_keeps_1 : decode cX9_keeps 1 = .ok (.getfield 23, 3) := by decide +kernel
theorem dX9_keeps_4 : decode cX9_keeps 4 = .ok (.iload_n 1, 1) := by decide +kernel
theorem dX9_keeps_5 : decode cX9_keeps 5 = .ok (.iaload, 1) := by decide +kernel
theorem dX9_keeps_6 : decode cX9_keeps 6 = .ok (.iconst 5, 1) := by decide +kernel
theorem dX9_keeps_7 : decode cX9_keeps 7 = .ok (.if_icmp .ne 25, 3) := by decide +kernel
theorem dX9_keeps_10 : decode cX9_keeps 10 = .ok (.aload_n 0, 1) := by decide +kernel
theorem dX9_keeps_11 : decode cX9_keeps 11 = .ok (.bipush 60, 2) := by decide +kernel
theorem dX9_keeps_13 : decode cX9_keeps 13 = .ok (.invokevirtual 258, 3) := by decide +kernel
theorem dX9_keeps_16 : decode cX9_keeps 16 = .ok (.aload_n 0, 1) := by decide +kernel
theorem dX9_keeps_17 : decode cX9_keeps 17 = .ok (.iload_n 1, 1) := by decide +kernel
theorem dX9_keeps_18 : decode cX9_keeps 18 = .ok (.iload_n 2, 1) := by decide +kernel
theorem dX9_keeps_19 : decode cX9_keeps 19 = .ok (.invokevirtual 274, 3) := by decide +kernel
theorem dX9_keeps_22 : decode cX9_keeps 22 = .ok (.istore_n 3, 1) := by decide +kernel
theorem dX9_keeps_23 : decode cX9_keeps 23 = .ok (.iload_n 3, 1) := by decide +kernel
theorem dX9_keeps_24 : decode cX9_keeps 24 = .ok (.aload_n 0, 1) := by decide +kernel
theorem dX9_keeps_25 : decode cX9_keeps 25 = .ok (.iload_n 1, 1) := by decide +kernel
theorem dX9_keeps_26 : decode cX9_keeps 26 = .ok (.iconst 2, 1) := by decide +kernel
theorem dX9_keeps_27 : decode cX9_keeps 27 = .ok (.invokevirtual 265, 3) := by decide +kernel
theorem dX9_keeps_30 : decode cX9_keeps 30 = .ok (.iadd, 1) := by decide +kernel
theorem dX9_keeps_31 : decode cX9_keeps 31 = .ok (.ireturn, 1) := by decide +kernel
theorem dX9_keeps_32 : decode cX9_keeps 32 = .ok (.aload_n 0, 1) := by decide +kernel
theorem dX9_keeps_33 : decode cX9_keeps 33 = .ok (.aload_n 0, 1) := by decide +kernel
theorem dX9_keeps_34 : decode cX9_keeps 34 = .ok (.getfield 23, 3) := by decide +kernel
theorem dX9_keeps_37 : decode cX9_keeps 37 = .ok (.iload_n 1, 1) := by decide +kernel
theorem dX9_keeps_38 : decode cX9_keeps 38 = .ok (.iaload, 1) := by decide +kernel
theorem dX9_keeps_39 : decode cX9_keeps 39 = .ok (.iconst 1, 1) := by decide +kernel
theorem dX9_keeps_40 : decode cX9_keeps 40 = .ok (.invokevirtual 186, 3) := by decide +kernel
theorem dX9_keeps_43 : decode cX9_keeps 43 = .ok (.ifCond .eq 12, 3) := by decide +kernel
theorem dX9_keeps_46 : decode cX9_keeps 46 = .ok (.aload_n 0, 1) := by decide +kernel
theorem dX9_keeps_47 : decode cX9_keeps 47 = .ok (.iload_n 1, 1) := by decide +kernel
theorem dX9_keeps_48 : decode cX9_keeps 48 = .ok (.iload_n 2, 1) := by decide +kernel
theorem dX9_keeps_49 : decode cX9_keeps 49 = .ok (.invokevirtual 274, 3) := by decide +kernel
theorem dX9_keeps_52 : decode cX9_keeps 52 = .ok (.goto 9, 3) := by decide +kernel
theorem dX9_keeps_55 : decode cX9_keeps 55 = .ok (.aload_n 0, 1) := by decide +kernel
theorem dX9_keeps_56 : decode cX9_keeps 56 = .ok (.iload_n 1, 1) := by decide +kernel
theorem dX9_keeps_57 : decode cX9_keeps 57 = .ok (.iload_n 2, 1) := by decide +kernel
theorem dX9_keeps_58 : decode cX9_keeps 58 = .ok (.invokevirtual 271, 3) := by decide +kernel
theorem dX9_keeps_61 : decode cX9_keeps 61 = .ok (.ireturn, 1) := by decide +kernel
set_option maxRecDepth 20000 in
theorem ggX9_plainTells_X9_body : GoodIn wsX9_plainTells wsX9_body := goodIn_r _ [5, 6, 7, 38, 39, 40, 41, 42, 43, 44, 45, 46, 47, 48, 49, 50, 51, 52, 53, 54, 55, 56, 57, 58, 59, 60, 61, 62, 63, 64, 65, 66, 67, 68, 69, 70, 71, 72, 73, 74, 75, 76, 77] (by decide +kernel) (by decide +kernel)
set_option maxRecDepth 20000 in
theorem gX9_plainTells_X9_body : GoodIn wsX9_plainTells (wsV RX9 258 RX9 yX9_body wsX9_body) := goodIn_app (goodIn_of _ (by decide +kernel)) ggX9_plainTells_X9_body
set_option maxRecDepth 20000 in
theorem ggX9_plainTells_X9_keeps : GoodIn wsX9_plainTells wsX9_keeps := goodIn_r _ [11, 12, 1, 2, 3, 4, 5, 6, 7, 13, 14, 15, 16, 17, 18, 19, 20, 21, 22, 23, 24, 25, 26, 27, 28, 29, 30, 31, 32, 33, 34, 35, 36, 37, 38, 39, 40, 41, 42, 43, 44, 45, 46, 47, 48, 49, 50, 51, 52, 53, 54, 55, 56, 57, 58, 59, 60, 61, 62, 63, 64, 65, 66, 67, 68, 69, 70, 71, 72, 73, 74, 75, 76, 77] (by decide +kernel) (by decide +kernel)
set_option maxRecDepth 20000 in
theorem gX9_plainTells_X9_keeps : GoodIn wsX9_plainTells (wsV RX9 277 RX9 yX9_keeps wsX9_keeps) := goodIn_app (goodIn_of _ (by decide +kernel)) ggX9_plainTells_X9_keeps
theorem dX9_plainTells_0 : decode cX9_plainTells 0 = .ok (.aload_n 0, 1) := by decide +kernel
theorem dX9_plainTells_1 : decode cX9_plainTells 1 = .ok (.bipush 12, 2) := by decide +kernel
theorem dX9_plainTells_3 : decode cX9_plainTells 3 = .ok (.invokevirtual 258, 3) := by decide +kernel
theorem dX9_plainTells_6 : decode cX9_plainTells 6 = .ok (.aload_n 0, 1) := by decide +kernel
theorem dX9_plainTells_7 : decode cX9_plainTells 7 = .ok (.iload_n 1, 1) := by decide +kernel
theorem dX9_plainTells_8 : decode cX9_plainTells 8 = .ok (.iload_n 2, 1) := by decide +kernel
theorem dX9_plainTells_9 : decode cX9_plainTells 9 = .ok (.invokevirtual 277, 3) := by decide +kernel
theorem dX9_plainTells_12 : decode cX9_plainTells 12 = .ok (.iconst 2, 1) := by decide +kernel
theorem dX9_plainTells_13 : decode cX9_plainTells 13 = .ok (.imul, 1) := by decide +kernel
theorem dX9_plainTells_14 : decode cX9_plainTells 14 = .ok (.ireturn, 1) := by decide +kernel
set_option maxRecDepth 20000 in
theorem ggX9_tells_X9_body : GoodIn wsX9_tells wsX9_body := goodIn_r _ [6, 7, 8, 42, 43, 44, 45, 46, 47, 48, 49, 50, 51, 52, 53, 54, 55, 56, 57, 58, 59, 60, 61, 62, 63, 64, 65, 66, 67, 68, 69, 70, 71, 72, 73, 74, 75, 76, 77, 78, 79, 80, 81] (by decide +kernel) (by decide +kernel)
set_option maxRecDepth 20000 in
theorem gX9_tells_X9_body : GoodIn wsX9_tells (wsV RX9 258 RX9 yX9_body wsX9_body) := goodIn_app (goodIn_of _ (by decide +kernel)) ggX9_tells_X9_body
set_option maxRecDepth 20000 in
theorem ggX9_tells_X9_plainTells : GoodIn wsX9_tells wsX9_plainTells := goodIn_r _ [12, 2, 3, 4, 5, 6, 7, 8, 13, 14, 15, 16, 1, 17, 18, 19, 20, 21, 22, 23, 24, 25, 26, 27, 28, 29, 30, 31, 32, 33, 34, 35, 36, 37, 38, 39, 40, 41, 42, 43, 44, 45, 46, 47, 48, 49, 50, 51, 52, 53, 54, 55, 56, 57, 58, 59, 60, 61, 62, 63, 64, 65, 66, 67, 68, 69, 70, 71, 72, 73, 74, 75, 76, 77, 78, 79, 80, 81] (by decide +kernel) (by decide +kernel)
set_option maxRecDepth 20000 in
theorem gX9_tells_X9_plainTells : GoodIn wsX9_tells (wsV RX9 280 RX9 yX9_plainTells wsX9_plainTells) := goodIn_app (goodIn_of _ (by decide +kernel)) ggX9_tells_X9_plainTells
set_option maxRecDepth 20000 in
theorem ggX9_tells_X9_keeps : GoodIn wsX9_tells wsX9_keeps := goodIn_r _ [16, 1, 2, 3, 4, 5, 6, 7, 8, 17, 18, 19, 20, 21, 22, 23, 24, 25, 26, 27, 28, 29, 30, 31, 32, 33, 34, 35, 36, 37, 38, 39, 40, 41, 42, 43, 44, 45, 46, 47, 48, 49, 50, 51, 52, 53, 54, 55, 56, 57, 58, 59, 60, 61, 62, 63, 64, 65, 66, 67, 68, 69, 70, 71, 72, 73, 74, 75, 76, 77, 78, 79, 80, 81] (by decide +kernel) (by decide +kernel)
set_option maxRecDepth 20000 in
theorem gX9_tells_X9_keeps : GoodIn wsX9_tells (wsV RX9 277 RX9 yX9_keeps wsX9_keeps) := goodIn_app (goodIn_of _ (by decide +kernel)) ggX9_tells_X9_keeps
theorem dX9_tells_0 : decode cX9_tells 0 = .ok (.aload_n 0, 1) := by decide +kernel
theorem dX9_tells_1 : decode cX9_tells 1 = .ok (.getfield 23, 3) := by decide +kernel
theorem dX9_tells_4 : decode cX9_tells 4 = .ok (.iload_n 1, 1) := by decide +kernel
theorem dX9_tells_5 : decode cX9_tells 5 = .ok (.iaload, 1) := by decide +kernel
theorem dX9_tells_6 : decode cX9_tells 6 = .ok (.tableswitch 95 2 6 #[34, 95, 56, 34, 71], 34) := by decide +kernel
theorem dX9_tells_40 : decode cX9_tells 40 = .ok (.aload_n 0, 1) := by decide +kernel
theorem dX9_tells_41 : decode cX9_tells 41 = .ok (.bipush 31, 2) := by decide +kernel
theorem dX9_tells_43 : decode cX9_tells 43 = .ok (.invokevirtual 258, 3) := by decide +kernel
theorem dX9_tells_46 : decode cX9_tells 46 = .ok (.aload_n 0, 1) := by decide +kernel
theorem dX9_tells_47 : decode cX9_tells 47 = .ok (.iload_n 1, 1) := by decide +kernel
theorem dX9_tells_48 : decode cX9_tells 48 = .ok (.iload_n 2, 1) := by decide +kernel
theorem dX9_tells_49 : decode cX9_tells 49 = .ok (.invokevirtual 280, 3) := by decide +kernel
theorem dX9_tells_52 : decode cX9_tells 52 = .ok (.istore_n 3, 1) := by decide +kernel
theorem dX9_tells_53 : decode cX9_tells 53 = .ok (.iload_n 3, 1) := by decide +kernel
theorem dX9_tells_54 : decode cX9_tells 54 = .ok (.aload_n 0, 1) := by decide +kernel
