theorem dX0_init_0 : decode cX0_init 0 = .ok (.aload_n 0, 1) := by decide +kernel
theorem dX0_init_1 : decode cX0_init 1 = .ok (.invokespecial 3, 3) := by decide +kernel
theorem dX0_init_4 : decode cX0_init 4 = .ok (.aload_n 0, 1) := by decide +kernel
theorem dX0_init_5 : decode cX0_init 5 = .ok (.bipush 20, 2) := by decide +kernel
theorem dX0_init_7 : decode cX0_init 7 = .ok (.newarray .int, 2) := by decide +kernel
theorem dX0_init_9 : decode cX0_init 9 = .ok (.putfield 9, 3) := by decide +kernel
theorem dX0_init_12 : decode cX0_init 12 = .ok (.return_, 1) := by decide +kernel
set_option maxRecDepth 20000 in
theorem ggX0_hears_X0_begin : GoodIn wsX0_hears wsX0_begin := goodIn_r _ [8, 9, 10, 27, 28] (by decide +kernel) (by decide +kernel)
set_option maxRecDepth 20000 in
theorem gX0_hears_X0_begin : GoodIn wsX0_hears (wsV RX0 15 RX0 yX0_begin wsX0_begin) := goodIn_app (goodIn_of _ (by decide +kernel)) ggX0_hears_X0_begin
set_option maxRecDepth 20000 in
theorem ggX0_hears_X8_kindAbove : GoodIn wsX0_hears wsX8_kindAbove := goodIn_r _ [13] (by decide +kernel) (by decide +kernel)
set_option maxRecDepth 20000 in
theorem gX0_hears_X8_kindAbove_n25 : GoodIn wsX0_hears (wsX8_kindAbove) := ggX0_hears_X8_kindAbove
set_option maxRecDepth 20000 in
theorem ggX0_hears_X0_hears : GoodIn wsX0_hears wsX0_hears := goodIn_r _ [0, 1, 2, 3, 4, 5, 6, 7, 8, 9, 10, 11, 12, 13, 14, 15, 16, 17, 18, 19, 20, 21, 22, 23, 24, 25, 26, 27, 28] (by decide +kernel) (by decide +kernel)
set_option maxRecDepth 20000 in
theorem gX0_hears_X0_hears : GoodIn wsX0_hears (wsV RX0 29 RX0 yX0_hears wsX0_hears) := goodIn_app (goodIn_of _ (by decide +kernel)) ggX0_hears_X0_hears
theorem dX0_hears_0 : decode cX0_hears 0 = .ok (.iload_n 2, 1) := by decide +kernel
theorem dX0_hears_1 : decode cX0_hears 1 = .ok (.tableswitch 119 0 6 #[43, 119, 56, 75, 119, 119, 93], 43) := by decide +kernel
theorem dX0_hears_44 : decode cX0_hears 44 = .ok (.aload_n 0, 1) := by decide +kernel
theorem dX0_hears_45 : decode cX0_hears 45 = .ok (.bipush 10, 2) := by decide +kernel
theorem dX0_hears_47 : decode cX0_hears 47 = .ok (.invokevirtual 15, 3) := by decide +kernel
theorem dX0_hears_50 : decode cX0_hears 50 = .ok (.iload_n 3, 1) := by decide +kernel
theorem dX0_hears_51 : decode cX0_hears 51 = .ok (.aload_n 1, 1) := by decide +kernel
theorem dX0_hears_52 : decode cX0_hears 52 = .ok (.getfield 19, 3) := by decide +kernel
theorem dX0_hears_55 : decode cX0_hears 55 = .ok (.iadd, 1) := by decide +kernel
theorem dX0_hears_56 : decode cX0_hears 56 = .ok (.ireturn, 1) := by decide +kernel
theorem dX0_hears_57 : decode cX0_hears 57 = .ok (.aload_n 0, 1) := by decide +kernel
theorem dX0_hears_58 : decode cX0_hears 58 = .ok (.bipush 30, 2) := by decide +kernel
theorem dX0_hears_60 : decode cX0_hears 60 = .ok (.invokevirtual 15, 3) := by decide +kernel
theorem dX0_hears_63 : decode cX0_hears 63 = .ok (.aload_n 0, 1) := by decide +kernel
theorem dX0_hears_64 : decode cX0_hears 64 = .ok (.aload_n 1, 1) := by decide +kernel
theorem dX0_hears_65 : decode cX0_hears 65 = .ok (.iconst 2, 1) := by decide +kernel
theorem dX0_hears_66 : decode cX0_hears 66 = .ok (.invokestatic 25, 3) := by decide +kernel
theorem dX0_hears_69 : decode cX0_hears 69 = .ok (.iload_n 3, 1) := by decide +kernel
theorem dX0_hears_70 : decode cX0_hears 70 = .ok (.iconst 3, 1) := by decide +kernel
theorem dX0_hears_71 : decode cX0_hears 71 = .ok (.imul, 1) := by decide +kernel
theorem dX0_hears_72 : decode cX0_hears 72 = .ok (.invokevirtual 29, 3) := by decide +kernel
theorem dX0_hears_75 : decode cX0_hears 75 = .ok (.ireturn, 1) := by decide +kernel
theorem dX0_hears_76 : decode cX0_hears 76 = .ok (.aload_n 0, 1) := by decide +kernel
theorem dX0_hears_77 : decode cX0_hears 77 = .ok (.bipush 40, 2) := by decide +kernel
theorem dX0_hears_79 : decode cX0_hears 79 = .ok (.invokevirtual 15, 3) := by decide +kernel
theorem dX0_hears_82 : decode cX0_hears 82 = .ok (.aload_n 0, 1) := by decide +kernel
theorem dX0_hears_83 : decode cX0_hears 83 = .ok (.aload_n 1, 1) := by decide +kernel
theorem dX0_hears_84 : decode cX0_hears 84 = .ok (.iconst 3, 1) := by decide +kernel
theorem dX0_hears_85 : decode cX0_hears 85 = .ok (.invokestatic 25, 3) := by decide +kernel
theorem dX0_hears_88 : decode cX0_hears 88 = .ok (.iload_n 3, 1) := by decide +kernel
theorem dX0_hears_89 : decode cX0_hears 89 = .ok (.invokevirtual 29, 3) := by decide +kernel
theorem dX0_hears_92 : decode cX0_hears 92 = .ok (.ineg, 1) := by decide +kernel
theorem dX0_hears_93 : decode cX0_hears 93 = .ok (.ireturn, 1) := by decide +kernel
theorem dX0_hears_94 : decode cX0_hears 94 = .ok (.aload_n 0, 1) := by decide +kernel
theorem dX0_hears_95 : decode cX0_hears 95 = .ok (.bipush 71, 2) := by decide +kernel
theorem dX0_hears_97 : decode cX0_hears 97 = .ok (.invokevirtual 15, 3) := by decide +kernel
theorem dX0_hears_100 : decode cX0_hears 100 = .ok (.aload_n 0, 1) := by decide +kernel
theorem dX0_hears_101 : decode cX0_hears 101 = .ok (.aload_n 1, 1) := by decide +kernel
theorem dX0_hears_102 : decode cX0_hears 102 = .ok (.bipush 6, 2) := by decide +kernel
theorem dX0_hears_104 : decode cX0_hears 104 = .ok (.invokestatic 25, 3) := by decide +kernel
theorem dX0_hears_107 : decode cX0_hears 107 = .ok (.iload_n 3, 1) := by decide +kernel
theorem dX0_hears_108 : decode cX0_hears 108 = .ok (.invokevirtual 29, 3) := by decide +kernel
theorem dX0_hears_111 : decode cX0_hears 111 = .ok (.aload_n 1, 1) := by decide +kernel
theorem dX0_hears_112 : decode cX0_hears 112 = .ok (.getfield 33, 3) := by decide +kernel
theorem dX0_hears_115 : decode cX0_hears 115 = .ok (.getfield 37, 3) := by decide +kernel
theorem dX0_hears_118 : decode cX0_hears 118 = .ok (.ixor, 1) := by decide +kernel
theorem dX0_hears_119 : decode cX0_hears 119 = .ok (.ireturn, 1) := by decide +kernel
theorem dX0_hears_120 : decode cX0_hears 120 = .ok (.aload_n 0, 1) := by decide +kernel
theorem dX0_hears_121 : decode cX0_hears 121 = .ok (.aload_n 1, 1) := by decide +kernel
theorem dX0_hears_122 : decode cX0_hears 122 = .ok (.iload_n 2, 1) := by decide +kernel
theorem dX0_hears_123 : decode cX0_hears 123 = .ok (.invokestatic 25, 3) := by decide +kernel
theorem dX0_hears_126 : decode cX0_hears 126 = .ok (.iload_n 3, 1) := by decide +kernel
theorem dX0_hears_127 : decode cX0_hears 127 = .ok (.invokevirtual 29, 3) := by decide +kernel
theorem dX0_hears_130 : decode cX0_hears 130 = .ok (.ireturn, 1) := by decide +kernel
set_option maxRecDepth 20000 in
theorem ggX0_keeps_X0_begin : GoodIn wsX0_keeps wsX0_begin := goodIn_r _ [8, 9, 10, 32, 33] (by decide +kernel) (by decide +kernel)
set_option maxRecDepth 20000 in
theorem gX0_keeps_X0_begin : GoodIn wsX0_keeps (wsV RX0 15 RX0 yX0_begin wsX0_begin) := goodIn_app (goodIn_of _ (by decide +kernel)) ggX0_keeps_X0_begin
set_option maxRecDepth 20000 in
theorem ggX0_keeps_X0_hears : GoodIn wsX0_keeps wsX0_hears := goodIn_r _ [14, 15, 2, 3, 4, 5, 6, 7, 8, 9, 10, 16, 17, 18, 11, 12, 13, 22, 23, 24, 25, 26, 27, 28, 29, 30, 31, 32, 33] (by decide +kernel) (by decide +kernel)
set_option maxRecDepth 20000 in
theorem gX0_keeps_X0_hears : GoodIn wsX0_keeps (wsV RX0 29 RX0 yX0_hears wsX0_hears) := goodIn_app (goodIn_of _ (by decide +kernel)) ggX0_keeps_X0_hears
set_option maxRecDepth 20000 in
theorem ggX0_keeps_X8_kindAbove : GoodIn wsX0_keeps wsX8_kindAbove := goodIn_r _ [18] (by decide +kernel) (by decide +kernel)
set_option maxRecDepth 20000 in
theorem gX0_keeps_X8_kindAbove_n25 : GoodIn wsX0_keeps (wsX8_kindAbove) := ggX0_keeps_X8_kindAbove
set_option maxRecDepth 20000 in
theorem ggX0_keeps_X0_keeps : GoodIn wsX0_keeps wsX0_keeps := goodIn_r _ [0, 1, 2, 3, 4, 5, 6, 7, 8, 9, 10, 11, 12, 13, 14, 15, 16, 17, 18, 19, 20, 21, 22, 23, 24, 25, 26, 27, 28, 29, 30, 31, 32, 33] (by decide +kernel) (by decide +kernel)
set_option maxRecDepth 20000 in
theorem gX0_keeps_X0_keeps : GoodIn wsX0_keeps (wsV RX0 43 RX0 yX0_keeps wsX0_keeps) := goodIn_app (goodIn_of _ (by decide +kernel)) ggX0_keeps_X0_keeps
theorem dX0_keeps_0 : decode cX0_keeps 0 = .ok (.iload_n 2, 1) := by decide +kernel
theorem dX0_keeps_1 : decode cX0_keeps 1 = .ok (.lookupswitch 107 #[(0, 35), (1, 60), (5, 79)], 35) := by decide +kernel
theorem dX0_keeps_36 : decode cX0_keeps 36 = .ok (.aload_n 0, 1) := by decide +kernel
theorem dX0_keeps_37 : decode cX0_keeps 37 = .ok (.bipush 11, 2) := by decide +kernel
theorem dX0_keeps_39 : decode cX0_keeps 39 = .ok (.invokevirtual 15, 3) := by decide +kernel
theorem dX0_keeps_42 : decode cX0_keeps 42 = .ok (.aload_n 0, 1) := by decide +kernel
theorem dX0_keeps_43 : decode cX0_keeps 43 = .ok (.aload_n 1, 1) := by decide +kernel
theorem dX0_keeps_44 : decode cX0_keeps 44 = .ok (.aload_n 1, 1) := by decide +kernel
theorem dX0_keeps_45 : decode cX0_keeps 45 = .ok (.getfield 40, 3) := by decide +kernel
theorem dX0_keeps_48 : decode cX0_keeps 48 = .ok (.iload_n 3, 1) := by decide +kernel
theorem dX0_keeps_49 : decode cX0_keeps 49 = .ok (.invokevirtual 29, 3) := by decide +kernel
theorem dX0_keeps_52 : decode cX0_keeps 52 = .ok (.aload_n 1, 1) := by decide +kernel
theorem dX0_keeps_53 : decode cX0_keeps 53 = .ok (.getfield 33, 3) := by decide +kernel
theorem dX0_keeps_56 : decode cX0_keeps 56 = .ok (.getfield 37, 3) := by decide +kernel
theorem dX0_keeps_59 : decode cX0_keeps 59 = .ok (.isub, 1) := by decide +kernel
theorem dX0_keeps_60 : decode cX0_keeps 60 = .ok (.ireturn, 1) := by decide +kernel
theorem dX0_keeps_61 : decode cX0_keeps 61 = .ok (.aload_n 0, 1) := by decide +kernel
theorem dX0_keeps_62 : decode cX0_keeps 62 = .ok (.bipush 20, 2) := by decide +kernel
theorem dX0_keeps_64 : decode cX0_keeps 64 = .ok (.invokevirtual 15, 3) := by decide +kernel
theorem dX0_keeps_67 : decode cX0_keeps 67 = .ok (.aload_n 0, 1) := by decide +kernel
theorem dX0_keeps_68 : decode cX0_keeps 68 = .ok (.aload_n 1, 1) := by decide +kernel
theorem dX0_keeps_69 : decode cX0_keeps 69 = .ok (.iconst 1, 1) := by decide +kernel
theorem dX0_keeps_70 : decode cX0_keeps 70 = .ok (.invokestatic 25, 3) := by decide +kernel
theorem dX0_keeps_73 : decode cX0_keeps 73 = .ok (.iload_n 3, 1) := by decide +kernel
theorem dX0_keeps_74 : decode cX0_keeps 74 = .ok (.invokevirtual 43, 3) := by decide +kernel
theorem dX0_keeps_77 : decode cX0_keeps 77 = .ok (.iconst 5, 1) := by decide +kernel
theorem dX0_keeps_78 : decode cX0_keeps 78 = .ok (.ixor, 1) := by decide +kernel
theorem dX0_keeps_79 : decode cX0_keeps 79 = .ok (.ireturn, 1) := by decide +kernel
theorem dX0_keeps_80 : decode cX0_keeps 80 = .ok (.aload_n 0, 1) := by decide +kernel
theorem dX0_keeps_81 : decode cX0_keeps 81 = .ok (.bipush 60, 2) := by decide +kernel
theorem dX0_keeps_83 : decode cX0_keeps 83 = .ok (.invokevirtual 15, 3) := by decide +kernel
theorem dX0_keeps_86 : decode cX0_keeps 86 = .ok (.aload_n 0, 1) := by decide +kernel
theorem dX0_keeps_87 : decode cX0_keeps 87 = .ok (.aload_n 1, 1) := by decide +kernel
theorem dX0_keeps_88 : decode cX0_keeps 88 = .ok (.iconst 5, 1) := by decide +kernel
theorem dX0_keeps_89 : decode cX0_keeps 89 = .ok (.invokestatic 25, 3) := by decide +kernel
theorem dX0_keeps_92 : decode cX0_keeps 92 = .ok (.iload_n 3, 1) := by decide +kernel
theorem dX0_keeps_93 : decode cX0_keeps 93 = .ok (.invokevirtual 43, 3) := by decide +kernel
theorem dX0_keeps_96 : decode cX0_keeps 96 = .ok (.aload_n 0, 1) := by decide +kernel
theorem dX0_keeps_97 : decode cX0_keeps 97 = .ok (.aload_n 1, 1) := by decide +kernel
theorem dX0_keeps_98 : decode cX0_keeps 98 = .ok (.iconst 5, 1) := by decide +kernel
theorem dX0_keeps_99 : decode cX0_keeps 99 = .ok (.invokestatic 25, 3) := by decide +kernel
theorem dX0_keeps_102 : decode cX0_keeps 102 = .ok (.iconst 2, 1) := by decide +kernel
theorem dX0_keeps_103 : decode cX0_keeps 103 = .ok (.invokevirtual 29, 3) := by decide +kernel
theorem dX0_keeps_106 : decode cX0_keeps 106 = .ok (.iadd, 1) := by decide +kernel
theorem dX0_keeps_107 : decode cX0_keeps 107 = .ok (.ireturn, 1) := by decide +kernel
theorem dX0_keeps_108 : decode cX0_keeps 108 = .ok (.aload_n 0, 1) := by decide +kernel
theorem dX0_keeps_109 : decode cX0_keeps 109 = .ok (.aload_n 1, 1) := by decide +kernel
theorem dX0_keeps_110 : decode cX0_keeps 110 = .ok (.iload_n 2, 1) := by decide +kernel
theorem dX0_keeps_111 : decode cX0_keeps 111 = .ok (.invokestatic 25, 3) := by decide +kernel
theorem dX0_keeps_114 : decode cX0_keeps 114 = .ok (.iload_n 3, 1) := by decide +kernel
theorem dX0_keeps_115 : decode cX0_keeps 115 = .ok (.invokevirtual 43, 3) := by decide +kernel
theorem dX0_keeps_118 : decode cX0_keeps 118 = .ok (.ireturn, 1) := by decide +kernel
set_option maxRecDepth 20000 in
theorem ggX0_tells_X0_begin : GoodIn wsX0_tells wsX0_begin := goodIn_r _ [7, 8, 9, 33, 34] (by decide +kernel) (by decide +kernel)
set_option maxRecDepth 20000 in
theorem gX0_tells_X0_begin : GoodIn wsX0_tells (wsV RX0 15 RX0 yX0_begin wsX0_begin) := goodIn_app (goodIn_of _ (by decide +kernel)) ggX0_tells_X0_begin
set_option maxRecDepth 20000 in
theorem ggX0_tells_X0_keeps : GoodIn wsX0_tells wsX0_keeps := goodIn_r _ [13, 1, 14, 15, 3, 4, 5, 6, 7, 8, 9, 16, 17, 18, 19, 2, 20, 21, 22, 10, 11, 12, 26, 27, 28, 29, 30, 31, 32, 35, 36, 37, 33, 34] (by decide +kernel) (by decide +kernel)
set_option maxRecDepth 20000 in
theorem gX0_tells_X0_keeps : GoodIn wsX0_tells (wsV RX0 43 RX0 yX0_keeps wsX0_keeps) := goodIn_app (goodIn_of _ (by decide +kernel)) ggX0_tells_X0_keeps
set_option maxRecDepth 20000 in
theorem ggX0_tells_X8_kindAbove : GoodIn wsX0_tells wsX8_kindAbove := goodIn_r _ [22] (by decide +kernel) (by decide +kernel)
set_option maxRecDepth 20000 in
theorem gX0_tells_X8_kindAbove_n25 : GoodIn wsX0_tells (wsX8_kindAbove) := ggX0_tells_X8_kindAbove
set_option maxRecDepth 20000 in
theorem ggX0_tells_X0_tells : GoodIn wsX0_tells wsX0_tells := goodIn_r _ [0, 1, 2, 3, 4, 5, 6, 7, 8, 9, 10, 11, 12, 13, 14, 15, 16, 17, 18, 19, 20, 21, 22, 23, 24, 25, 26, 27, 28, 29, 30, 31, 32, 33, 34, 35, 36, 37] (by decide +kernel) (by decide +kernel)
set_option maxRecDepth 20000 in
theorem gX0_tells_X0_tells : GoodIn wsX0_tells (wsV RX0 46 RX0 yX0_tells wsX0_tells) := goodIn_app (goodIn_of _ (by decide +kernel)) ggX0_tells_X0_tells
theorem dX0_tells_0 : decode cX0_tells 0 = .ok (.iload_n 2, 1) := by decide +kernel
theorem dX0_tells_1 : decode cX0_tells 1 = .ok (.tableswitch 141 0 6 #[43, 141, 62, 141, 90, 141, 112], 43) := by decide +kernel
theorem dX0_tells_44 : decode cX0_tells 44 = .ok (.aload_n 0, 1) := by decide +kernel
theorem dX0_tells_45 : decode cX0_tells 45 = .ok (.bipush 12, 2) := by decide +kernel
theorem dX0_tells_47 : decode cX0_tells 47 = .ok (.invokevirtual 15, 3) := by decide +kernel
theorem dX0_tells_50 : decode cX0_tells 50 = .ok (.aload_n 0, 1) := by decide +kernel
theorem dX0_tells_51 : decode cX0_tells 51 = .ok (.aload_n 1, 1) := by decide +kernel
theorem dX0_tells_52 : decode cX0_tells 52 = .ok (.aload_n 1, 1) := by decide +kernel
theorem dX0_tells_53 : decode cX0_tells 53 = .ok (.getfield 40, 3) := by decide +kernel
theorem dX0_tells_56 : decode cX0_tells 56 = .ok (.iload_n 3, 1) := by decide +kernel
theorem dX0_tells_57 : decode cX0_tells 57 = .ok (.invokevirtual 43, 3) := by decide +kernel
theorem dX0_tells_60 : decode cX0_tells 60 = .ok (.iconst 2, 1) := by decide +kernel
theorem dX0_tells_61 : decode cX0_tells 61 = .ok (.imul, 1) := by decide +kernel
theorem dX0_tells_62 : decode cX0_tells 62 = .ok (.ireturn, 1) := by decide +kernel
theorem dX0_tells_63 : decode cX0_tells 63 = .ok (.aload_n 0, 1) := by decide +kernel
theorem dX0_tells_64 : decode cX0_tells 64 = .ok (.bipush 31, 2) := by decide +kernel
theorem dX0_tells_66 : decode cX0_tells 66 = .ok (.invokevirtual 15, 3) := by decide +kernel
theorem dX0_tells_69 : decode cX0_tells 69 = .ok (.aload_n 0, 1) := by decide +kernel
theorem dX0_tells_70 : decode cX0_tells 70 = .ok (.aload_n 1, 1) := by decide +kernel
theorem dX0_tells_71 : decode cX0_tells 71 = .ok (.iconst 2, 1) := by decide +kernel
theorem dX0_tells_72 : decode cX0_tells 72 = .ok (.invokestatic 25, 3) := by decide +kernel
theorem dX0_tells_75 : decode cX0_tells 75 = .ok (.iload_n 3, 1) := by decide +kernel
theorem dX0_tells_76 : decode cX0_tells 76 = .ok (.invokevirtual 46, 3) := by decide +kernel
theorem dX0_tells_79 : decode cX0_tells 79 = .ok (.aload_n 0, 1) := by decide +kernel
theorem dX0_tells_80 : decode cX0_tells 80 = .ok (.aload_n 1, 1) := by decide +kernel
theorem dX0_tells_81 : decode cX0_tells 81 = .ok (.aload_n 1, 1) := by decide +kernel
theorem dX0_tells_82 : decode cX0_tells 82 = .ok (.getfield 40, 3) := by decide +kernel
theorem dX0_tells_85 : decode cX0_tells 85 = .ok (.iconst 1, 1) := by decide +kernel
theorem dX0_tells_86 : decode cX0_tells 86 = .ok (.invokevirtual 43, 3) := by decide +kernel
theorem dX0_tells_89 : decode cX0_tells 89 = .ok (.iadd, 1) := by decide +kernel
theorem dX0_tells_90 : decode cX0_tells 90 = .ok (.ireturn, 1) := by decide +kernel
theorem dX0_tells_91 : decode cX0_tells 91 = .ok (.aload_n 0, 1) := by decide +kernel
theorem dX0_tells_92 : decode cX0_tells 92 = .ok (.bipush 50, 2) := by decide +kernel
theorem dX0_tells_94 : decode cX0_tells 94 = .ok (.invokevirtual 15, 3) := by decide +kernel
theorem dX0_tells_97 : decode cX0_tells 97 = .ok (.aload_n 0, 1) := by decide +kernel
theorem dX0_tells_98 : decode cX0_tells 98 = .ok (.aload_n 1, 1) := by decide +kernel
theorem dX0_tells_99 : decode cX0_tells 99 = .ok (.iconst 4, 1) := by decide +kernel
theorem dX0_tells_100 : decode cX0_tells 100 = .ok (.invokestatic 25, 3) := by decide +kernel
theorem dX0_tells_103 : decode cX0_tells 103 = .ok (.iload_n 3, 1) := by decide +kernel
theorem dX0_tells_104 : decode cX0_tells 104 = .ok (.aload_n 1, 1) := by decide +kernel
theorem dX0_tells_105 : decode cX0_tells 105 = .ok (.getfield 19, 3) := by decide +kernel
theorem dX0_tells_108 : decode cX0_tells 108 = .ok (.isub, 1) := by decide +kernel
theorem dX0_tells_109 : decode cX0_tells 109 = .ok (.invokevirtual 46, 3) := by decide +kernel
theorem dX0_tells_112 : decode cX0_tells 112 = .ok (.ireturn, 1) := by decide +kernel
theorem dX0_tells_113 : decode cX0_tells 113 = .ok (.aload_n 0, 1) := by decide +kernel
theorem dX0_tells_114 : decode cX0_tells 114 = .ok (.bipush 70, 2) := by decide +kernel
theorem dX0_tells_116 : decode cX0_tells 116 = .ok (.invokevirtual 15, 3) := by decide +kernel
theorem dX0_tells_119 : decode cX0_tells 119 = .ok (.aload_n 0, 1) := by decide +kernel
theorem dX0_tells_120 : decode cX0_tells 120 = .ok (.aload_n 1, 1) := by decide +kernel
theorem dX0_tells_121 : decode cX0_tells 121 = .ok (.aload_n 1, 1) := by decide +kernel
theorem dX0_tells_122 : decode cX0_tells 122 = .ok (.getfield 40, 3) := by decide +kernel
theorem dX0_tells_125 : decode cX0_tells 125 = .ok (.iload_n 3, 1) := by decide +kernel
theorem dX0_tells_126 : decode cX0_tells 126 = .ok (.invokevirtual 43, 3) := by decide +kernel
theorem dX0_tells_129 : decode cX0_tells 129 = .ok (.aload_n 0, 1) := by decide +kernel
theorem dX0_tells_130 : decode cX0_tells 130 = .ok (.aload_n 1, 1) := by decide +kernel
theorem dX0_tells_131 : decode cX0_tells 131 = .ok (.bipush 6, 2) := by decide +kernel
theorem dX0_tells_133 : decode cX0_tells 133 = .ok (.invokestatic 25, 3) := by decide +kernel
theorem dX0_tells_136 : decode cX0_tells 136 = .ok (.iload_n 3, 1) := by decide +kernel
theorem dX0_tells_137 : decode cX0_tells 137 = .ok (.invokevirtual 46, 3) := by decide +kernel
theorem dX0_tells_140 : decode cX0_tells 140 = .ok (.isub, 1) := by decide +kernel
theorem dX0_tells_141 : decode cX0_tells 141 = .ok (.ireturn, 1) := by decide +kernel
theorem dX0_tells_142 : decode cX0_tells 142 = .ok (.aload_n 0, 1) := by decide +kernel
theorem dX0_tells_143 : decode cX0_tells 143 = .ok (.aload_n 1, 1) := by decide +kernel
theorem dX0_tells_144 : decode cX0_tells 144 = .ok (.iload_n 2, 1) := by decide +kernel
theorem dX0_tells_145 : decode cX0_tells 145 = .ok (.invokestatic 25, 3) := by decide +kernel
theorem dX0_tells_148 : decode cX0_tells 148 = .ok (.iload_n 3, 1) := by decide +kernel
theorem dX0_tells_149 : decode cX0_tells 149 = .ok (.invokevirtual 46, 3) := by decide +kernel
theorem dX0_tells_152 : decode cX0_tells 152 = .ok (.ireturn, 1) := by decide +kernel
theorem dX0_begin_0 : decode cX0_begin 0 = .ok (.aload_n 0, 1) := by decide +kernel
theorem dX0_begin_1 : decode cX0_begin 1 = .ok (.getfield 49, 3) := by decide +kernel
theorem dX0_begin_4 : decode cX0_begin 4 = .ok (.ifCond .lt 25, 3) := by decide +kernel
theorem dX0_begin_7 : decode cX0_begin 7 = .ok (.aload_n 0, 1) := by decide +kernel
theorem dX0_begin_8 : decode cX0_begin 8 = .ok (.getfield 49, 3) := by decide +kernel
theorem dX0_begin_11 : decode cX0_begin 11 = .ok (.aload_n 0, 1) := by decide +kernel
theorem dX0_begin_12 : decode cX0_begin 12 = .ok (.getfield 9, 3) := by decide +kernel
theorem dX0_begin_15 : decode cX0_begin 15 = .ok (.arraylength, 1) := by decide +kernel
theorem dX0_begin_16 : decode cX0_begin 16 = .ok (.if_icmp .ge 13, 3) := by decide +kernel
theorem dX0_begin_19 : decode cX0_begin 19 = .ok (.aload_n 0, 1) := by decide +kernel
theorem dX0_begin_20 : decode cX0_begin 20 = .ok (.getfield 9, 3) := by decide +kernel
theorem dX0_begin_23 : decode cX0_begin 23 = .ok (.aload_n 0, 1) := by decide +kernel
theorem dX0_begin_24 : decode cX0_begin 24 = .ok (.getfield 49, 3) := by decide +kernel
theorem dX0_begin_27 : decode cX0_begin 27 = .ok (.iload_n 1, 1) := by decide +kernel
theorem dX0_begin_28 : decode cX0_begin 28 = .ok (.iastore, 1) := by decide +kernel
theorem dX0_begin_29 : decode cX0_begin 29 = .ok (.aload_n 0, 1) := by decide +kernel
theorem dX0_begin_30 : decode cX0_begin 30 = .ok (.dup, 1) := by decide +kernel
theorem dX0_begin_31 : decode cX0_begin 31 = .ok (.getfield 49, 3) := by decide +kernel
theorem dX0_begin_34 : decode cX0_begin 34 = .ok (.iconst 1, 1) := by decide +kernel
theorem dX0_begin_35 : decode cX0_begin 35 = .ok (.iadd, 1) := by decide +kernel
theorem dX0_begin_36 : decode cX0_begin 36 = .ok (.putfield 49, 3) := by decide +kernel
theorem dX0_begin_39 : decode cX0_begin 39 = .ok (.return_, 1) := by decide +kernel
theorem dX0_traced_0 : decode cX0_traced 0 = .ok (.iload_n 1, 1) := by decide +kernel
theorem dX0_traced_1 : decode cX0_traced 1 = .ok (.ifCond .lt 29, 3) := by decide +kernel
theorem dX0_traced_4 : decode cX0_traced 4 = .ok (.iload_n 1, 1) := by decide +kernel
theorem dX0_traced_5 : decode cX0_traced 5 = .ok (.aload_n 0, 1) := by decide +kernel
theorem dX0_traced_6 : decode cX0_traced 6 = .ok (.getfield 49, 3) := by decide +kernel
theorem dX0_traced_9 : decode cX0_traced 9 = .ok (.if_icmp .ge 21, 3) := by decide +kernel
theorem dX0_traced_12 : decode cX0_traced 12 = .ok (.iload_n 1, 1) := by decide +kernel
theorem dX0_traced_13 : decode cX0_traced 13 = .ok (.aload_n 0, 1) := by decide +kernel
theorem dX0_traced_14 : decode cX0_traced 14 = .ok (.getfield 9, 3) := by decide +kernel
theorem dX0_traced_17 : decode cX0_traced 17 = .ok (.arraylength, 1) := by decide +kernel
theorem dX0_traced_18 : decode cX0_traced 18 = .ok (.if_icmp .ge 12, 3) := by decide +kernel
theorem dX0_traced_21 : decode cX0_traced 21 = .ok (.aload_n 0, 1) := by decide +kernel
theorem dX0_traced_22 : decode cX0_traced 22 = .ok (.getfield 9, 3) := by decide +kernel
theorem dX0_traced_25 : decode cX0_traced 25 = .ok (.iload_n 1, 1) := by decide +kernel
theorem dX0_traced_26 : decode cX0_traced 26 = .ok (.iaload, 1) := by decide +kernel
theorem dX0_traced_27 : decode cX0_traced 27 = .ok (.goto 4, 3) := by decide +kernel
theorem dX0_traced_30 : decode cX0_traced 30 = .ok (.iconst (-1), 1) := by decide +kernel
theorem dX0_traced_31 : decode cX0_traced 31 = .ok (.ireturn, 1) := by decide +kernel
theorem dX1_init_0 : decode cX1_init 0 = .ok (.aload_n 0, 1) := by decide +kernel
theorem dX1_init_1 : decode cX1_init 1 = .ok (.invokespecial 3, 3) := by decide +kernel
theorem dX1_init_4 : decode cX1_init 4 = .ok (.aload_n 0, 1) := by decide +kernel
theorem dX1_init_5 : decode cX1_init 5 = .ok (.iload_n 1, 1) := by decide +kernel
theorem dX1_init_6 : decode cX1_init 6 = .ok (.putfield 9, 3) := by decide +kernel
theorem dX1_init_9 : decode cX1_init 9 = .ok (.aload_n 0, 1) := by decide +kernel
theorem dX1_init_10 : decode cX1_init 10 = .ok (.iload_n 2, 1) := by decide +kernel
theorem dX1_init_11 : decode cX1_init 11 = .ok (.putfield 15, 3) := by decide +kernel
theorem dX1_init_14 : decode cX1_init 14 = .ok (.aload_n 0, 1) := by decide +kernel
theorem dX1_init_15 : decode cX1_init 15 = .ok (.aload_n 3, 1) := by decide +kernel
theorem dX1_init_16 : decode cX1_init 16 = .ok (.putfield 18, 3) := by decide +kernel
theorem dX1_init_19 : decode cX1_init 19 = .ok (.return_, 1) := by decide +kernel
set_option maxRecDepth 20000 in
theorem ggX1_holds_X1_passes : GoodIn wsX1_holds wsX1_passes := goodIn_r _ [5, 6, 7, 8, 9, 10, 14, 15, 16, 17, 18, 19, 20, 21, 22, 23] (by decide +kernel) (by decide +kernel)
set_option maxRecDepth 20000 in
theorem gX1_holds_X1_passes : GoodIn wsX1_holds (va_wsS RX1 22 yX1_passes wsX1_passes) := goodIn_app (goodIn_of _ (by decide +kernel)) ggX1_holds_X1_passes
theorem dX1_holds_0 : decode cX1_holds 0 = .ok (.iconst 0, 1) := by decide +kernel
theorem dX1_holds_1 : decode cX1_holds 1 = .ok (.istore 5, 2) := by decide +kernel
theorem dX1_holds_3 : decode cX1_holds 3 = .ok (.aload_n 0, 1) := by decide +kernel
theorem dX1_holds_4 : decode cX1_holds 4 = .ok (.getfield 18, 3) := by decide +kernel
theorem dX1_holds_7 : decode cX1_holds 7 = .ok (.astore 6, 2) := by decide +kernel
theorem dX1_holds_9 : decode cX1_holds 9 = .ok (.aload 6, 2) := by decide +kernel
theorem dX1_holds_11 : decode cX1_holds 11 = .ok (.arraylength, 1) := by decide +kernel
theorem dX1_holds_12 : decode cX1_holds 12 = .ok (.istore 7, 2) := by decide +kernel
theorem dX1_holds_14 : decode cX1_holds 14 = .ok (.iconst 0, 1) := by decide +kernel
theorem dX1_holds_15 : decode cX1_holds 15 = .ok (.istore 8, 2) := by decide +kernel
theorem dX1_holds_17 : decode cX1_holds 17 = .ok (.iload 8, 2) := by decide +kernel
theorem dX1_holds_19 : decode cX1_holds 19 = .ok (.iload 7, 2) := by decide +kernel
theorem dX1_holds_21 : decode cX1_holds 21 = .ok (.if_icmp .ge 107, 3) := by decide +kernel
theorem dX1_holds_24 : decode cX1_holds 24 = .ok (.aload 6, 2) := by decide +kernel
theorem dX1_holds_26 : decode cX1_holds 26 = .ok (.iload 8, 2) := by decide +kernel
theorem dX1_holds_28 : decode cX1_holds 28 = .ok (.iaload, 1) := by decide +kernel
theorem dX1_holds_29 : decode cX1_holds 29 = .ok (.istore 9, 2) := by decide +kernel
theorem dX1_holds_31 : decode cX1_holds 31 = .ok (.iload 9, 2) := by decide +kernel
theorem dX1_holds_33 : decode cX1_holds 33 = .ok (.bipush 10, 2) := by decide +kernel
theorem dX1_holds_35 : decode cX1_holds 35 = .ok (.idiv, 1) := by decide +kernel
theorem dX1_holds_36 : decode cX1_holds 36 = .ok (.istore 10, 2) := by decide +kernel
theorem dX1_holds_38 : decode cX1_holds 38 = .ok (.iload 10, 2) := by decide +kernel
theorem dX1_holds_40 : decode cX1_holds 40 = .ok (.bipush 21, 2) := by decide +kernel
theorem dX1_holds_42 : decode cX1_holds 42 = .ok (.if_icmp .ne 12, 3) := by decide +kernel
theorem dX1_holds_45 : decode cX1_holds 45 = .ok (.iload 5, 2) := by decide +kernel
theorem dX1_holds_47 : decode cX1_holds 47 = .ok (.iconst 1, 1) := by decide +kernel
theorem dX1_holds_48 : decode cX1_holds 48 = .ok (.ixor, 1) := by decide +kernel
theorem dX1_holds_49 : decode cX1_holds 49 = .ok (.istore 5, 2) := by decide +kernel
theorem dX1_holds_51 : decode cX1_holds 51 = .ok (.goto 71, 3) := by decide +kernel
theorem dX1_holds_54 : decode cX1_holds 54 = .ok (.iload 10, 2) := by decide +kernel
theorem dX1_holds_56 : decode cX1_holds 56 = .ok (.bipush 22, 2) := by decide +kernel
theorem dX1_holds_58 : decode cX1_holds 58 = .ok (.if_icmp .ne 18, 3) := by decide +kernel
theorem dX1_holds_61 : decode cX1_holds 61 = .ok (.iload 5, 2) := by decide +kernel
theorem dX1_holds_63 : decode cX1_holds 63 = .ok (.iconst 1, 1) := by decide +kernel
theorem dX1_holds_64 : decode cX1_holds 64 = .ok (.ishr, 1) := by decide +kernel
theorem dX1_holds_65 : decode cX1_holds 65 = .ok (.iload 5, 2) := by decide +kernel
theorem dX1_holds_67 : decode cX1_holds 67 = .ok (.bipush (-2), 2) := by decide +kernel
theorem dX1_holds_69 : decode cX1_holds 69 = .ok (.ior, 1) := by decide +kernel
theorem dX1_holds_70 : decode cX1_holds 70 = .ok (.iand, 1) := by decide +kernel
theorem dX1_holds_71 : decode cX1_holds 71 = .ok (.istore 5, 2) := by decide +kernel
theorem dX1_holds_73 : decode cX1_holds 73 = .ok (.goto 49, 3) := by decide +kernel
theorem dX1_holds_76 : decode cX1_holds 76 = .ok (.iload 10, 2) := by decide +kernel
theorem dX1_holds_78 : decode cX1_holds 78 = .ok (.bipush 23, 2) := by decide +kernel
theorem dX1_holds_80 : decode cX1_holds 80 = .ok (.if_icmp .ne 17, 3) := by decide +kernel
theorem dX1_holds_83 : decode cX1_holds 83 = .ok (.iload 5, 2) := by decide +kernel
theorem dX1_holds_85 : decode cX1_holds 85 = .ok (.iconst 1, 1) := by decide +kernel
theorem dX1_holds_86 : decode cX1_holds 86 = .ok (.ishr, 1) := by decide +kernel
theorem dX1_holds_87 : decode cX1_holds 87 = .ok (.iload 5, 2) := by decide +kernel
theorem dX1_holds_89 : decode cX1_holds 89 = .ok (.iconst 1, 1) := by decide +kernel
theorem dX1_holds_90 : decode cX1_holds 90 = .ok (.iand, 1) := by decide +kernel
theorem dX1_holds_91 : decode cX1_holds 91 = .ok (.ior, 1) := by decide +kernel
theorem dX1_holds_92 : decode cX1_holds 92 = .ok (.istore 5, 2) := by decide +kernel
theorem dX1_holds_94 : decode cX1_holds 94 = .ok (.goto 28, 3) := by decide +kernel
theorem dX1_holds_97 : decode cX1_holds 97 = .ok (.iload 5, 2) := by decide +kernel
theorem dX1_holds_99 : decode cX1_holds 99 = .ok (.iconst 1, 1) := by decide +kernel
theorem dX1_holds_100 : decode cX1_holds 100 = .ok (.ishl, 1) := by decide +kernel
theorem dX1_holds_101 : decode cX1_holds 101 = .ok (.iload 9, 2) := by decide +kernel
theorem dX1_holds_103 : decode cX1_holds 103 = .ok (.aload_n 1, 1) := by decide +kernel
theorem dX1_holds_104 : decode cX1_holds 104 = .ok (.iload_n 2, 1) := by decide +kernel
theorem dX1_holds_105 : decode cX1_holds 105 = .ok (.iload_n 3, 1) := by decide +kernel
theorem dX1_holds_106 : decode cX1_holds 106 = .ok (.iload 4, 2) := by decide +kernel
theorem dX1_holds_108 : decode cX1_holds 108 = .ok (.invokestatic 22, 3) := by decide +kernel
theorem dX1_holds_111 : decode cX1_holds 111 = .ok (.ifCond .eq 7, 3) := by decide +kernel
theorem dX1_holds_114 : decode cX1_holds 114 = .ok (.iconst 1, 1) := by decide +kernel
theorem dX1_holds_115 : decode cX1_holds 115 = .ok (.goto 4, 3) := by decide +kernel
theorem dX1_holds_118 : decode cX1_holds 118 = .ok (.iconst 0, 1) := by decide +kernel
theorem dX1_holds_119 : decode cX1_holds 119 = .ok (.ior, 1) := by decide +kernel
theorem dX1_holds_120 : decode cX1_holds 120 = .ok (.istore 5, 2) := by decide +kernel
theorem dX1_holds_122 : decode cX1_holds 122 = .ok (.iinc 8 1, 3) := by decide +kernel
theorem dX1_holds_125 : decode cX1_holds 125 = .ok (.goto (-108), 3) := by decide +kernel
theorem dX1_holds_128 : decode cX1_holds 128 = .ok (.iload 5, 2) := by decide +kernel
theorem dX1_holds_130 : decode cX1_holds 130 = .ok (.iconst 1, 1) := by decide +kernel
theorem dX1_holds_131 : decode cX1_holds 131 = .ok (.iand, 1) := by decide +kernel
theorem dX1_holds_132 : decode cX1_holds 132 = .ok (.ifCond .eq 7, 3) := by decide +kernel
theorem dX1_holds_135 : decode cX1_holds 135 = .ok (.iconst 1, 1) := by decide +kernel
theorem dX1_holds_136 : decode cX1_holds 136 = .ok (.goto 4, 3) := by decide +kernel
theorem dX1_holds_139 : decode cX1_holds 139 = .ok (.iconst 0, 1) := by decide +kernel
theorem dX1_holds_140 : decode cX1_holds 140 = .ok (.ireturn, 1) := by decide +kernel
theorem dX1_passes_0 : decode cX1_passes 0 = .ok (.iload_n 0, 1) := by decide +kernel
theorem dX1_passes_1 : decode cX1_passes 1 = .ok (.bipush 10, 2) := by decide +kernel
theorem dX1_passes_3 : decode cX1_passes 3 = .ok (.irem, 1) := by decide +kernel
theorem dX1_passes_4 : decode cX1_passes 4 = .ok (.istore 5, 2) := by decide +kernel
theorem dX1_passes_6 : decode cX1_passes 6 = .ok (.iload_n 0, 1) := by decide +kernel
theorem dX1_passes_7 : decode cX1_passes 7 = .ok (.bipush 10, 2) := by decide +kernel
theorem dX1_passes_9 : decode cX1_passes 9 = .ok (.idiv, 1) := by decide +kernel
theorem dX1_passes_10 : decode cX1_passes 10 = .ok (.tableswitch 262 0 19 #[94, 109, 124, 139, 152, 165, 262, 178, 262, 262, 196, 262, 262, 214, 262, 262, 235, 262, 262, 247], 94) := by decide +kernel
theorem dX1_passes_104 : decode cX1_passes 104 = .ok (.aload_n 1, 1) := by decide +kernel
theorem dX1_passes_105 : decode cX1_passes 105 = .ok (.getfield 26, 3) := by decide +kernel
theorem dX1_passes_108 : decode cX1_passes 108 = .ok (.iload 5, 2) := by decide +kernel
theorem dX1_passes_110 : decode cX1_passes 110 = .ok (.if_icmp .ge 7, 3) := by decide +kernel
theorem dX1_passes_113 : decode cX1_passes 113 = .ok (.iconst 1, 1) := by decide +kernel
theorem dX1_passes_114 : decode cX1_passes 114 = .ok (.goto 4, 3) := by decide +kernel
theorem dX1_passes_117 : decode cX1_passes 117 = .ok (.iconst 0, 1) := by decide +kernel
theorem dX1_passes_118 : decode cX1_passes 118 = .ok (.ireturn, 1) := by decide +kernel
theorem dX1_passes_119 : decode cX1_passes 119 = .ok (.aload_n 1, 1) := by decide +kernel
theorem dX1_passes_120 : decode cX1_passes 120 = .ok (.getfield 26, 3) := by decide +kernel
theorem dX1_passes_123 : decode cX1_passes 123 = .ok (.iload 5, 2) := by decide +kernel
theorem dX1_passes_125 : decode cX1_passes 125 = .ok (.if_icmp .ne 7, 3) := by decide +kernel
theorem dX1_passes_128 : decode cX1_passes 128 = .ok (.iconst 1, 1) := by decide +kernel
theorem dX1_passes_129 : decode cX1_passes 129 = .ok (.goto 4, 3) := by decide +kernel
theorem dX1_passes_132 : decode cX1_passes 132 = .ok (.iconst 0, 1) := by decide +kernel
theorem dX1_passes_133 : decode cX1_passes 133 = .ok (.ireturn, 1) := by decide +kernel
theorem dX1_passes_134 : decode cX1_passes 134 = .ok (.aload_n 1, 1) := by decide +kernel
theorem dX1_passes_135 : decode cX1_passes 135 = .ok (.getfield 26, 3) := by decide +kernel
theorem dX1_passes_138 : decode cX1_passes 138 = .ok (.iload 5, 2) := by decide +kernel
theorem dX1_passes_140 : decode cX1_passes 140 = .ok (.if_icmp .le 7, 3) := by decide +kernel
theorem dX1_passes_143 : decode cX1_passes 143 = .ok (.iconst 1, 1) := by decide +kernel
theorem dX1_passes_144 : decode cX1_passes 144 = .ok (.goto 4, 3) := by decide +kernel
theorem dX1_passes_147 : decode cX1_passes 147 = .ok (.iconst 0, 1) := by decide +kernel
theorem dX1_passes_148 : decode cX1_passes 148 = .ok (.ireturn, 1) := by decide +kernel
theorem dX1_passes_149 : decode cX1_passes 149 = .ok (.iload 4, 2) := by decide +kernel
theorem dX1_passes_151 : decode cX1_passes 151 = .ok (.iload 5, 2) := by decide +kernel
theorem dX1_passes_153 : decode cX1_passes 153 = .ok (.if_icmp .ge 7, 3) := by decide +kernel
theorem dX1_passes_156 : decode cX1_passes 156 = .ok (.iconst 1, 1) := by decide +kernel
theorem dX1_passes_157 : decode cX1_passes 157 = .ok (.goto 4, 3) := by decide +kernel
theorem dX1_passes_160 : decode cX1_passes 160 = .ok (.iconst 0, 1) := by decide +kernel
theorem dX1_passes_161 : decode cX1_passes 161 = .ok (.ireturn, 1) := by decide +kernel
theorem dX1_passes_162 : decode cX1_passes 162 = .ok (.iload 4, 2) := by decide +kernel
theorem dX1_passes_164 : decode cX1_passes 164 = .ok (.iload 5, 2) := by decide +kernel
theorem dX1_passes_166 : decode cX1_passes 166 = .ok (.if_icmp .ne 7, 3) := by decide +kernel
theorem dX1_passes_169 : decode cX1_passes 169 = .ok (.iconst 1, 1) := by decide +kernel
theorem dX1_passes_170 : decode cX1_passes 170 = .ok (.goto 4, 3) := by decide +kernel
theorem dX1_passes_173 : decode cX1_passes 173 = .ok (.iconst 0, 1) := by decide +kernel
theorem dX1_passes_174 : decode cX1_passes 174 = .ok (.ireturn, 1) := by decide +kernel
theorem dX1_passes_175 : decode cX1_passes 175 = .ok (.iload 4, 2) := by decide +kernel
theorem dX1_passes_177 : decode cX1_passes 177 = .ok (.iload 5, 2) := by decide +kernel
theorem dX1_passes_179 : decode cX1_passes 179 = .ok (.if_icmp .le 7, 3) := by decide +kernel
theorem dX1_passes_182 : decode cX1_passes 182 = .ok (.iconst 1, 1) := by decide +kernel
theorem dX1_passes_183 : decode cX1_passes 183 = .ok (.goto 4, 3) := by decide +kernel
theorem dX1_passes_186 : decode cX1_passes 186 = .ok (.iconst 0, 1) := by decide +kernel
theorem dX1_passes_187 : decode cX1_passes 187 = .ok (.ireturn, 1) := by decide +kernel
theorem dX1_passes_188 : decode cX1_passes 188 = .ok (.aload_n 1, 1) := by decide +kernel
theorem dX1_passes_189 : decode cX1_passes 189 = .ok (.getfield 31, 3) := by decide +kernel
theorem dX1_passes_192 : decode cX1_passes 192 = .ok (.iload 5, 2) := by decide +kernel
theorem dX1_passes_194 : decode cX1_passes 194 = .ok (.ishr, 1) := by decide +kernel
theorem dX1_passes_195 : decode cX1_passes 195 = .ok (.iconst 1, 1) := by decide +kernel
theorem dX1_passes_196 : decode cX1_passes 196 = .ok (.iand, 1) := by decide +kernel
theorem dX1_passes_197 : decode cX1_passes 197 = .ok (.ifCond .eq 7, 3) := by decide +kernel
theorem dX1_passes_200 : decode cX1_passes 200 = .ok (.iconst 1, 1) := by decide +kernel
theorem dX1_passes_201 : decode cX1_passes 201 = .ok (.goto 4, 3) := by decide +kernel
theorem dX1_passes_204 : decode cX1_passes 204 = .ok (.iconst 0, 1) := by decide +kernel
theorem dX1_passes_205 : decode cX1_passes 205 = .ok (.ireturn, 1) := by decide +kernel
theorem dX1_passes_206 : decode cX1_passes 206 = .ok (.aload_n 1, 1) := by decide +kernel
theorem dX1_passes_207 : decode cX1_passes 207 = .ok (.getfield 34, 3) := by decide +kernel
theorem dX1_passes_210 : decode cX1_passes 210 = .ok (.getfield 38, 3) := by decide +kernel
theorem dX1_passes_213 : decode cX1_passes 213 = .ok (.iload 5, 2) := by decide +kernel
theorem dX1_passes_215 : decode cX1_passes 215 = .ok (.if_icmp .ne 7, 3) := by decide +kernel
theorem dX1_passes_218 : decode cX1_passes 218 = .ok (.iconst 1, 1) := by decide +kernel
theorem dX1_passes_219 : decode cX1_passes 219 = .ok (.goto 4, 3) := by decide +kernel
theorem dX1_passes_222 : decode cX1_passes 222 = .ok (.iconst 0, 1) := by decide +kernel
theorem dX1_passes_223 : decode cX1_passes 223 = .ok (.ireturn, 1) := by decide +kernel
theorem dX1_passes_224 : decode cX1_passes 224 = .ok (.aload_n 1, 1) := by decide +kernel
theorem dX1_passes_225 : decode cX1_passes 225 = .ok (.getfield 34, 3) := by decide +kernel
theorem dX1_passes_228 : decode cX1_passes 228 = .ok (.getfield 43, 3) := by decide +kernel
theorem dX1_passes_231 : decode cX1_passes 231 = .ok (.iload 5, 2) := by decide +kernel
theorem dX1_passes_233 : decode cX1_passes 233 = .ok (.ishr, 1) := by decide +kernel
theorem dX1_passes_234 : decode cX1_passes 234 = .ok (.iconst 1, 1) := by decide +kernel
theorem dX1_passes_235 : decode cX1_passes 235 = .ok (.iand, 1) := by decide +kernel
theorem dX1_passes_236 : decode cX1_passes 236 = .ok (.ifCond .eq 7, 3) := by decide +kernel
theorem dX1_passes_239 : decode cX1_passes 239 = .ok (.iconst 1, 1) := by decide +kernel
theorem dX1_passes_240 : decode cX1_passes 240 = .ok (.goto 4, 3) := by decide +kernel
theorem dX1_passes_243 : decode cX1_passes 243 = .ok (.iconst 0, 1) := by decide +kernel
theorem dX1_passes_244 : decode cX1_passes 244 = .ok (.ireturn, 1) := by decide +kernel
theorem dX1_passes_245 : decode cX1_passes 245 = .ok (.iload_n 2, 1) := by decide +kernel
theorem dX1_passes_246 : decode cX1_passes 246 = .ok (.iload 5, 2) := by decide +kernel
theorem dX1_passes_248 : decode cX1_passes 248 = .ok (.if_icmp .ne 7, 3) := by decide +kernel
theorem dX1_passes_251 : decode cX1_passes 251 = .ok (.iconst 1, 1) := by decide +kernel
theorem dX1_passes_252 : decode cX1_passes 252 = .ok (.goto 4, 3) := by decide +kernel
theorem dX1_passes_255 : decode cX1_passes 255 = .ok (.iconst 0, 1) := by decide +kernel
theorem dX1_passes_256 : decode cX1_passes 256 = .ok (.ireturn, 1) := by decide +kernel
theorem dX1_passes_257 : decode cX1_passes 257 = .ok (.iload_n 3, 1) := by decide +kernel
theorem dX1_passes_258 : decode cX1_passes 258 = .ok (.iload 5, 2) := by decide +kernel
theorem dX1_passes_260 : decode cX1_passes 260 = .ok (.ishr, 1) := by decide +kernel
theorem dX1_passes_261 : decode cX1_passes 261 = .ok (.iconst 1, 1) := by decide +kernel
theorem dX1_passes_262 : decode cX1_passes 262 = .ok (.iand, 1) := by decide +kernel
theorem dX1_passes_263 : decode cX1_passes 263 = .ok (.ifCond .eq 7, 3) := by decide +kernel
theorem dX1_passes_266 : decode cX1_passes 266 = .ok (.iconst 1, 1) := by decide +kernel
theorem dX1_passes_267 : decode cX1_passes 267 = .ok (.goto 4, 3) := by decide +kernel
theorem dX1_passes_270 : decode cX1_passes 270 = .ok (.iconst 0, 1) := by decide +kernel
theorem dX1_passes_271 : decode cX1_passes 271 = .ok (.ireturn, 1) := by decide +kernel
theorem dX1_passes_272 : decode cX1_passes 272 = .ok (.iconst 0, 1) := by decide +kernel
theorem dX1_passes_273 : decode cX1_passes 273 = .ok (.ireturn, 1) := by decide +kernel
theorem dX2_init_0 : decode cX2_init 0 = .ok (.aload_n 0, 1) := by decide +kernel
theorem dX2_init_1 : decode cX2_init 1 = .ok (.invokespecial 1, 3) := by decide +kernel
theorem dX2_init_4 : decode cX2_init 4 = .ok (.aload_n 0, 1) := by decide +kernel
theorem dX2_init_5 : decode cX2_init 5 = .ok (.iload_n 1, 1) := by decide +kernel
theorem dX2_init_6 : decode cX2_init 6 = .ok (.putfield 7, 3) := by decide +kernel
theorem dX2_init_9 : decode cX2_init 9 = .ok (.return_, 1) := by decide +kernel
theorem dX3_init_0 : decode cX3_init 0 = .ok (.aload_n 0, 1) := by decide +kernel
theorem dX3_init_1 : decode cX3_init 1 = .ok (.invokespecial 3, 3) := by decide +kernel
theorem dX3_init_4 : decode cX3_init 4 = .ok (.aload_n 0, 1) := by decide +kernel
theorem dX3_init_5 : decode cX3_init 5 = .ok (.bipush 100, 2) := by decide +kernel
theorem dX3_init_7 : decode cX3_init 7 = .ok (.newarray .byte, 2) := by decide +kernel
theorem dX3_init_9 : decode cX3_init 9 = .ok (.putfield 9, 3) := by decide +kernel
theorem dX3_init_12 : decode cX3_init 12 = .ok (.aload_n 0, 1) := by decide +kernel
theorem dX3_init_13 : decode cX3_init 13 = .ok (.bipush 100, 2) := by decide +kernel
theorem dX3_init_15 : decode cX3_init 15 = .ok (.newarray .int, 2) := by decide +kernel
theorem dX3_init_17 : decode cX3_init 17 = .ok (.putfield 15, 3) := by decide +kernel
theorem dX3_init_20 : decode cX3_init 20 = .ok (.return_, 1) := by decide +kernel
theorem dX3_append_0 : decode cX3_append 0 = .ok (.aload_n 0, 1) := by decide +kernel
theorem dX3_append_1 : decode cX3_append 1 = .ok (.getfield 19, 3) := by decide +kernel
theorem dX3_append_4 : decode cX3_append 4 = .ok (.ifCond .lt 35, 3) := by decide +kernel
theorem dX3_append_7 : decode cX3_append 7 = .ok (.aload_n 0, 1) := by decide +kernel
theorem dX3_append_8 : decode cX3_append 8 = .ok (.getfield 19, 3) := by decide +kernel
theorem dX3_append_11 : decode cX3_append 11 = .ok (.aload_n 0, 1) := by decide +kernel
theorem dX3_append_12 : decode cX3_append 12 = .ok (.getfield 9, 3) := by decide +kernel
theorem dX3_append_15 : decode cX3_append 15 = .ok (.arraylength, 1) := by decide +kernel
theorem dX3_append_16 : decode cX3_append 16 = .ok (.if_icmp .ge 23, 3) := by decide +kernel
theorem dX3_append_19 : decode cX3_append 19 = .ok (.aload_n 0, 1) := by decide +kernel
theorem dX3_append_20 : decode cX3_append 20 = .ok (.getfield 9, 3) := by decide +kernel
theorem dX3_append_23 : decode cX3_append 23 = .ok (.aload_n 0, 1) := by decide +kernel
theorem dX3_append_24 : decode cX3_append 24 = .ok (.getfield 19, 3) := by decide +kernel
theorem dX3_append_27 : decode cX3_append 27 = .ok (.iload_n 1, 1) := by decide +kernel
theorem dX3_append_28 : decode cX3_append 28 = .ok (.bastore, 1) := by decide +kernel
theorem dX3_append_29 : decode cX3_append 29 = .ok (.aload_n 0, 1) := by decide +kernel
theorem dX3_append_30 : decode cX3_append 30 = .ok (.dup, 1) := by decide +kernel
theorem dX3_append_31 : decode cX3_append 31 = .ok (.getfield 19, 3) := by decide +kernel
theorem dX3_append_34 : decode cX3_append 34 = .ok (.iconst 1, 1) := by decide +kernel
theorem dX3_append_35 : decode cX3_append 35 = .ok (.iadd, 1) := by decide +kernel
theorem dX3_append_36 : decode cX3_append 36 = .ok (.putfield 19, 3) := by decide +kernel
theorem dX3_append_39 : decode cX3_append 39 = .ok (.return_, 1) := by decide +kernel
set_option maxRecDepth 20000 in
theorem ggX3_readRule_X4_init : GoodIn wsX3_readRule wsX4_init := goodIn_r _ [11, 12, 13, 14, 15, 16, 17, 18, 19, 20, 21, 22, 23, 24, 25, 26, 27, 28, 29, 30, 31, 32, 33, 34, 35, 285, 286, 287, 278, 279, 280, 281, 282, 283, 284] (by decide +kernel) (by decide +kernel)
set_option maxRecDepth 20000 in
theorem gX3_readRule_X4_init : GoodIn wsX3_readRule (wsX4_init) := ggX3_readRule_X4_init
set_option maxRecDepth 20000 in
theorem ggX3_readRule_X3_readClause : GoodIn wsX3_readRule wsX3_readClause := goodIn_r _ [40, 3, 41, 42, 43, 44, 45, 46, 47, 48, 49, 50, 51, 52, 39, 53, 54, 55, 56, 57, 2, 1, 58, 59, 60, 61, 8, 62, 63, 64, 65, 66, 67, 68, 69, 70, 71, 72, 73, 74, 75, 76, 77, 78, 79, 80, 81, 82, 83, 84, 85, 86, 87, 88, 89, 90, 91, 92, 93, 94, 95, 96, 97, 98, 99, 100, 101, 102, 103, 104, 105, 106, 107, 108, 109, 110, 111, 112, 113, 114, 115, 116, 117, 118, 119, 120, 121, 122, 123, 124, 125, 126, 127, 128, 129, 130, 131, 132, 133, 134, 135, 136, 137, 138, 139, 140, 141, 142, 143, 144, 145, 146, 147, 148, 149, 150, 151, 152, 153, 154, 155, 156, 157, 158, 159, 160, 161, 162, 163, 164, 165, 166, 167, 168, 169, 170, 171, 172, 173, 174, 175, 176, 177, 178, 179, 180, 181, 182, 183, 184, 185, 186, 187, 188, 189, 190, 191, 192, 193, 194, 195, 196, 197, 198, 199, 200, 201, 202, 203, 204, 205, 206, 207, 208, 209, 210, 211, 212, 213, 13, 14, 214, 215, 216, 271, 272, 273, 274, 275, 276, 277, 288, 289, 290] (by decide +kernel) (by decide +kernel)
set_option maxRecDepth 20000 in
theorem gX3_readRule_X3_readClause : GoodIn wsX3_readRule (wsV RX3 38 RX3 yX3_readClause wsX3_readClause) := goodIn_app (goodIn_of _ (by decide +kernel)) ggX3_readRule_X3_readClause
set_option maxRecDepth 20000 in
theorem ggX3_readRule_X4_add : GoodIn wsX3_readRule wsX4_add := goodIn_r _ [220, 18, 221, 222, 223, 224, 225, 226, 227, 17, 228, 229, 230, 231, 232, 233, 234, 235, 25, 236, 237, 238, 239, 240, 241, 242, 243, 244, 245, 246, 247, 24, 248, 47, 48, 49, 249, 250, 251, 252, 253, 254, 255, 256, 257, 258, 259, 260, 196, 261, 262, 263, 264, 265, 266, 267, 268, 269, 270, 205, 93, 94, 206, 207, 208, 209, 278, 279, 280, 281, 282, 283, 284, 288, 289, 290, 285, 286, 287] (by decide +kernel) (by decide +kernel)
set_option maxRecDepth 20000 in
theorem gX3_readRule_X4_add : GoodIn wsX3_readRule (wsV RX3 42 RX4 yX4_add wsX4_add) := goodIn_app (goodIn_of _ (by decide +kernel)) ggX3_readRule_X4_add
set_option maxRecDepth 20000 in
theorem ggX3_readRule_X3_accept : GoodIn wsX3_readRule wsX3_accept := goodIn_r _ [177, 1, 58, 59, 60, 39, 61, 2, 8, 62, 271, 272, 273, 274, 275, 276, 277] (by decide +kernel) (by decide +kernel)
set_option maxRecDepth 20000 in
theorem gX3_readRule_X3_accept : GoodIn wsX3_readRule (wsV RX3 46 RX3 yX3_accept wsX3_accept) := goodIn_app (goodIn_of _ (by decide +kernel)) ggX3_readRule_X3_accept
theorem dX3_readRule_0 : decode cX3_readRule 0 = .ok (.aload_n 0, 1) := by decide +kernel
theorem dX3_readRule_1 : decode cX3_readRule 1 = .ok (.iconst 0, 1) := by decide +kernel
theorem dX3_readRule_2 : decode cX3_readRule 2 = .ok (.putfield 23, 3) := by decide +kernel
theorem dX3_readRule_5 : decode cX3_readRule 5 = .ok (.aload_n 0, 1) := by decide +kernel
theorem dX3_readRule_6 : decode cX3_readRule 6 = .ok (.iconst 0, 1) := by decide +kernel
theorem dX3_readRule_7 : decode cX3_readRule 7 = .ok (.putfield 26, 3) := by decide +kernel
theorem dX3_readRule_10 : decode cX3_readRule 10 = .ok (.aload_n 0, 1) := by decide +kernel
theorem dX3_readRule_11 : decode cX3_readRule 11 = .ok (.iconst 0, 1) := by decide +kernel
theorem dX3_readRule_12 : decode cX3_readRule 12 = .ok (.putfield 30, 3) := by decide +kernel
theorem dX3_readRule_15 : decode cX3_readRule 15 = .ok (.new 33, 3) := by decide +kernel
theorem dX3_readRule_18 : decode cX3_readRule 18 = .ok (.dup, 1) := by decide +kernel
theorem dX3_readRule_19 : decode cX3_readRule 19 = .ok (.iload_n 1, 1) := by decide +kernel
theorem dX3_readRule_20 : decode cX3_readRule 20 = .ok (.iload_n 2, 1) := by decide +kernel
theorem dX3_readRule_21 : decode cX3_readRule 21 = .ok (.invokespecial 35, 3) := by decide +kernel
theorem dX3_readRule_24 : decode cX3_readRule 24 = .ok (.astore_n 3, 1) := by decide +kernel
theorem dX3_readRule_25 : decode cX3_readRule 25 = .ok (.iconst 1, 1) := by decide +kernel
theorem dX3_readRule_26 : decode cX3_readRule 26 = .ok (.istore 4, 2) := by decide +kernel
theorem dX3_readRule_28 : decode cX3_readRule 28 = .ok (.iconst 0, 1) := by decide +kernel
theorem dX3_readRule_29 : decode cX3_readRule 29 = .ok (.istore 5, 2) := by decide +kernel
theorem dX3_readRule_31 : decode cX3_readRule 31 = .ok (.iload 5, 2) := by decide +kernel
theorem dX3_readRule_33 : decode cX3_readRule 33 = .ok (.bipush 6, 2) := by decide +kernel
theorem dX3_readRule_35 : decode cX3_readRule 35 = .ok (.if_icmp .ge 47, 3) := by decide +kernel
theorem dX3_readRule_38 : decode cX3_readRule 38 = .ok (.iload 4, 2) := by decide +kernel
theorem dX3_readRule_40 : decode cX3_readRule 40 = .ok (.ifCond .eq 42, 3) := by decide +kernel
theorem dX3_readRule_43 : decode cX3_readRule 43 = .ok (.aload_n 3, 1) := by decide +kernel
theorem dX3_readRule_44 : decode cX3_readRule 44 = .ok (.aload_n 0, 1) := by decide +kernel
theorem dX3_readRule_45 : decode cX3_readRule 45 = .ok (.invokevirtual 38, 3) := by decide +kernel
theorem dX3_readRule_48 : decode cX3_readRule 48 = .ok (.invokevirtual 42, 3) := by decide +kernel
theorem dX3_readRule_51 : decode cX3_readRule 51 = .ok (.iload 5, 2) := by decide +kernel
theorem dX3_readRule_53 : decode cX3_readRule 53 = .ok (.iconst 1, 1) := by decide +kernel
theorem dX3_readRule_54 : decode cX3_readRule 54 = .ok (.iadd, 1) := by decide +kernel
theorem dX3_readRule_55 : decode cX3_readRule 55 = .ok (.bipush 6, 2) := by decide +kernel
theorem dX3_readRule_57 : decode cX3_readRule 57 = .ok (.if_icmp .ge 16, 3) := by decide +kernel
theorem dX3_readRule_60 : decode cX3_readRule 60 = .ok (.aload_n 0, 1) := by decide +kernel
theorem dX3_readRule_61 : decode cX3_readRule 61 = .ok (.bipush 59, 2) := by decide +kernel
theorem dX3_readRule_63 : decode cX3_readRule 63 = .ok (.invokevirtual 46, 3) := by decide +kernel
theorem dX3_readRule_66 : decode cX3_readRule 66 = .ok (.ifCond .eq 7, 3) := by decide +kernel
theorem dX3_readRule_69 : decode cX3_readRule 69 = .ok (.iconst 1, 1) := by decide +kernel
theorem dX3_readRule_70 : decode cX3_readRule 70 = .ok (.goto 4, 3) := by decide +kernel
theorem dX3_readRule_73 : decode cX3_readRule 73 = .ok (.iconst 0, 1) := by decide +kernel
theorem dX3_readRule_74 : decode cX3_readRule 74 = .ok (.istore 4, 2) := by decide +kernel
theorem dX3_readRule_76 : decode cX3_readRule 76 = .ok (.iinc 5 1, 3) := by decide +kernel
theorem dX3_readRule_79 : decode cX3_readRule 79 = .ok (.goto (-48), 3) := by decide +kernel
theorem dX3_readRule_82 : decode cX3_readRule 82 = .ok (.aload_n 3, 1) := by decide +kernel
theorem dX3_readRule_83 : decode cX3_readRule 83 = .ok (.aload_n 0, 1) := by decide +kernel
theorem dX3_readRule_84 : decode cX3_readRule 84 = .ok (.getfield 30, 3) := by decide +kernel
theorem dX3_readRule_87 : decode cX3_readRule 87 = .ok (.putfield 50, 3) := by decide +kernel
theorem dX3_readRule_90 : decode cX3_readRule 90 = .ok (.aload_n 0, 1) := by decide +kernel
theorem dX3_readRule_91 : decode cX3_readRule 91 = .ok (.getfield 26, 3) := by decide +kernel
theorem dX3_readRule_94 : decode cX3_readRule 94 = .ok (.ifCond .ne 14, 3) := by decide +kernel
theorem dX3_readRule_97 : decode cX3_readRule 97 = .ok (.aload_n 0, 1) := by decide +kernel
theorem dX3_readRule_98 : decode cX3_readRule 98 = .ok (.getfield 23, 3) := by decide +kernel
theorem dX3_readRule_101 : decode cX3_readRule 101 = .ok (.aload_n 0, 1) := by decide +kernel
theorem dX3_readRule_102 : decode cX3_readRule 102 = .ok (.getfield 19, 3) := by decide +kernel
theorem dX3_readRule_105 : decode cX3_readRule 105 = .ok (.if_icmp .ge 7, 3) := by decide +kernel
theorem dX3_readRule_108 : decode cX3_readRule 108 = .ok (.aconst_null, 1) := by decide +kernel
theorem dX3_readRule_109 : decode cX3_readRule 109 = .ok (.goto 4, 3) := by decide +kernel
theorem dX3_readRule_112 : decode cX3_readRule 112 = .ok (.aload_n 3, 1) := by decide +kernel
theorem dX3_readRule_113 : decode cX3_readRule 113 = .ok (.areturn, 1) := by decide +kernel
set_option maxRecDepth 20000 in
theorem ggX3_readClause_X3_readSort : GoodIn wsX3_readClause wsX3_readSort := goodIn_r _ [15, 16, 17, 18, 14, 19, 20, 21, 22, 23, 24, 25, 26, 27, 28, 29, 30, 31, 32, 33, 34, 35, 36, 37, 38, 39, 40, 41, 42, 43, 44, 45, 46, 47, 48, 49, 50, 51, 52, 53, 54, 55, 56, 8, 9, 10, 57, 58, 59, 60, 61, 62, 63, 64, 65, 66, 67, 68, 69, 70, 71, 72, 73, 74, 75, 76, 77, 78, 79, 80, 81, 82, 83, 84, 85, 86, 87, 88, 89, 90, 91, 92, 93, 94, 95, 96, 97, 98, 99, 100, 101, 102, 103, 104, 105, 106, 107, 108, 109, 110, 111, 112, 113, 114, 115, 116, 117, 118, 119, 120, 121, 122, 123, 124, 125, 126, 127, 128, 129, 130, 131, 132, 133, 134, 135, 136, 137, 138, 139, 140, 141, 142, 184, 185, 186, 187, 188, 189, 190] (by decide +kernel) (by decide +kernel)
set_option maxRecDepth 20000 in
theorem gX3_readClause_X3_readSort : GoodIn wsX3_readClause (wsV RX3 51 RX3 yX3_readSort wsX3_readSort) := goodIn_app (goodIn_of _ (by decide +kernel)) ggX3_readClause_X3_readSort
set_option maxRecDepth 20000 in
theorem ggX3_readClause_X3_pick : GoodIn wsX3_readClause wsX3_pick := goodIn_r _ [19, 20, 21, 22, 23, 24, 14, 25, 26, 27, 28, 29, 30, 31, 32, 33, 34, 35, 36, 37, 38, 39, 40, 41, 42, 43, 44, 45, 46, 47, 48, 49, 50, 51, 52, 53, 54, 55, 56, 8, 9, 10, 57, 58, 59, 60, 61, 62, 63, 64, 65, 66, 67, 68, 69, 70, 71, 72, 73, 74, 75, 76, 77, 78, 79, 80, 81, 82, 83, 84, 85, 86, 87, 88, 89, 90, 91, 92, 93, 94, 95, 96, 97, 98, 99, 100, 101, 102, 103, 104, 105, 106, 107, 108, 109, 110, 111, 112, 113, 184, 185, 186, 187, 188, 189, 190] (by decide +kernel) (by decide +kernel)
set_option maxRecDepth 20000 in
theorem gX3_readClause_X3_pick : GoodIn wsX3_readClause (wsV RX3 57 RX3 yX3_pick wsX3_pick) := goodIn_app (goodIn_of _ (by decide +kernel)) ggX3_readClause_X3_pick
set_option maxRecDepth 20000 in
theorem ggX3_readClause_X3_expectAll : GoodIn wsX3_readClause wsX3_expectAll := goodIn_r _ [117, 20, 118, 45, 46, 31, 47, 37, 48, 49, 50, 51, 42, 43, 119, 120, 121, 122, 38, 39, 40, 41, 123, 124, 54, 125, 126, 127, 128, 85, 129, 130, 88, 131, 132, 133, 68, 134, 135, 136, 137, 79, 80, 81, 138, 93, 94, 95, 96, 97, 98, 139, 140, 141, 14, 142, 21, 22, 23, 24, 25, 26, 27, 184, 185, 186, 187, 188, 189, 190] (by decide +kernel) (by decide +kernel)
set_option maxRecDepth 20000 in
theorem gX3_readClause_X3_expectAll : GoodIn wsX3_readClause (wsV RX3 63 RX3 yX3_expectAll wsX3_expectAll) := goodIn_app (goodIn_of _ (by decide +kernel)) ggX3_readClause_X3_expectAll
set_option maxRecDepth 20000 in
theorem ggX3_readClause_X3_readCondition : GoodIn wsX3_readClause wsX3_readCondition := goodIn_r _ [146, 147, 148, 149, 14, 139, 140, 141, 142, 21, 22, 23, 24, 25, 20, 26, 27, 150, 151, 152, 153, 2, 6, 154, 143, 144, 145, 114, 115, 116, 117, 118, 45, 46, 31, 47, 37, 48, 49, 50, 51, 42, 43, 119, 120, 121, 122, 38, 39, 40, 41, 123, 124, 54, 125, 126, 127, 128, 85, 129, 130, 88, 131, 132, 133, 68, 134, 135, 136, 137, 79, 80, 81, 138, 93, 94, 95, 96, 97, 98, 155, 156, 157, 158, 1, 16, 17, 18, 19, 28, 29, 30, 32, 33, 34, 35, 36, 44, 52, 53, 55, 56, 8, 9, 10, 57, 58, 59, 60, 61, 62, 63, 64, 65, 66, 67, 69, 70, 71, 72, 73, 74, 75, 76, 77, 78, 82, 83, 84, 86, 87, 89, 90, 91, 92, 99, 100, 101, 102, 103, 104, 105, 106, 107, 108, 109, 110, 111, 112, 113, 184, 185, 186, 187, 188, 189, 190] (by decide +kernel) (by decide +kernel)
set_option maxRecDepth 20000 in
theorem gX3_readClause_X3_readCondition : GoodIn wsX3_readClause (wsV RX3 70 RX3 yX3_readCondition wsX3_readCondition) := goodIn_app (goodIn_of _ (by decide +kernel)) ggX3_readClause_X3_readCondition
set_option maxRecDepth 20000 in
theorem ggX3_readClause_J7_copyOf_59c91 : GoodIn wsX3_readClause wsJ7_copyOf_59c91 := goodIn_r _ [162, 163, 164, 165, 166, 167, 168, 169, 170, 58, 9, 59, 171, 172, 173, 174] (by decide +kernel) (by decide +kernel)
set_option maxRecDepth 20000 in
theorem gX3_readClause_J7_copyOf_59c91 : GoodIn wsX3_readClause (va_wsS RX3 82 yJ7_copyOf_59c91 wsJ7_copyOf_59c91) := goodIn_app (goodIn_of _ (by decide +kernel)) ggX3_readClause_J7_copyOf_59c91
set_option maxRecDepth 20000 in
theorem ggX3_readClause_X1_init : GoodIn wsX3_readClause wsX1_init := goodIn_r _ [177, 178, 179, 180, 181, 182, 183, 191, 192, 193] (by decide +kernel) (by decide +kernel)
set_option maxRecDepth 20000 in
theorem gX3_readClause_X1_init : GoodIn wsX3_readClause (wsX1_init) := ggX3_readClause_X1_init
theorem dX3_readClause_0 : decode cX3_readClause 0 = .ok (.aload_n 0, 1) := by decide +kernel
theorem dX3_readClause_1 : decode cX3_readClause 1 = .ok (.invokevirtual 51, 3) := by decide +kernel
theorem dX3_readClause_4 : decode cX3_readClause 4 = .ok (.istore_n 1, 1) := by decide +kernel
theorem dX3_readClause_5 : decode cX3_readClause 5 = .ok (.iconst 0, 1) := by decide +kernel
theorem dX3_readClause_6 : decode cX3_readClause 6 = .ok (.istore_n 2, 1) := by decide +kernel
theorem dX3_readClause_7 : decode cX3_readClause 7 = .ok (.iload_n 1, 1) := by decide +kernel
theorem dX3_readClause_8 : decode cX3_readClause 8 = .ok (.iconst 2, 1) := by decide +kernel
theorem dX3_readClause_9 : decode cX3_readClause 9 = .ok (.if_icmp .ne 28, 3) := by decide +kernel
theorem dX3_readClause_12 : decode cX3_readClause 12 = .ok (.aload_n 0, 1) := by decide +kernel
theorem dX3_readClause_13 : decode cX3_readClause 13 = .ok (.ldc 55, 2) := by decide +kernel
theorem dX3_readClause_15 : decode cX3_readClause 15 = .ok (.invokevirtual 57, 3) := by decide +kernel
theorem dX3_readClause_18 : decode cX3_readClause 18 = .ok (.istore_n 2, 1) := by decide +kernel
theorem dX3_readClause_19 : decode cX3_readClause 19 = .ok (.aload_n 0, 1) := by decide +kernel
theorem dX3_readClause_20 : decode cX3_readClause 20 = .ok (.dup, 1) := by decide +kernel
theorem dX3_readClause_21 : decode cX3_readClause 21 = .ok (.getfield 30, 3) := by decide +kernel
theorem dX3_readClause_24 : decode cX3_readClause 24 = .ok (.iconst 1, 1) := by decide +kernel
theorem dX3_readClause_25 : decode cX3_readClause 25 = .ok (.iload_n 2, 1) := by decide +kernel
theorem dX3_readClause_26 : decode cX3_readClause 26 = .ok (.ishl, 1) := by decide +kernel
theorem dX3_readClause_27 : decode cX3_readClause 27 = .ok (.ior, 1) := by decide +kernel
theorem dX3_readClause_28 : decode cX3_readClause 28 = .ok (.putfield 30, 3) := by decide +kernel
theorem dX3_readClause_31 : decode cX3_readClause 31 = .ok (.aload_n 0, 1) := by decide +kernel
theorem dX3_readClause_32 : decode cX3_readClause 32 = .ok (.ldc 61, 2) := by decide +kernel
theorem dX3_readClause_34 : decode cX3_readClause 34 = .ok (.invokevirtual 63, 3) := by decide +kernel
theorem dX3_readClause_37 : decode cX3_readClause 37 = .ok (.aload_n 0, 1) := by decide +kernel
theorem dX3_readClause_38 : decode cX3_readClause 38 = .ok (.iconst 0, 1) := by decide +kernel
theorem dX3_readClause_39 : decode cX3_readClause 39 = .ok (.putfield 67, 3) := by decide +kernel
theorem dX3_readClause_42 : decode cX3_readClause 42 = .ok (.aload_n 0, 1) := by decide +kernel
theorem dX3_readClause_43 : decode cX3_readClause 43 = .ok (.iconst 0, 1) := by decide +kernel
theorem dX3_readClause_44 : decode cX3_readClause 44 = .ok (.invokevirtual 70, 3) := by decide +kernel
theorem dX3_readClause_47 : decode cX3_readClause 47 = .ok (.new 74, 3) := by decide +kernel
theorem dX3_readClause_50 : decode cX3_readClause 50 = .ok (.dup, 1) := by decide +kernel
theorem dX3_readClause_51 : decode cX3_readClause 51 = .ok (.iload_n 1, 1) := by decide +kernel
theorem dX3_readClause_52 : decode cX3_readClause 52 = .ok (.iload_n 2, 1) := by decide +kernel
theorem dX3_readClause_53 : decode cX3_readClause 53 = .ok (.aload_n 0, 1) := by decide +kernel
theorem dX3_readClause_54 : decode cX3_readClause 54 = .ok (.getfield 15, 3) := by decide +kernel
theorem dX3_readClause_57 : decode cX3_readClause 57 = .ok (.aload_n 0, 1) := by decide +kernel
theorem dX3_readClause_58 : decode cX3_readClause 58 = .ok (.getfield 67, 3) := by decide +kernel
theorem dX3_readClause_61 : decode cX3_readClause 61 = .ok (.iconst 0, 1) := by decide +kernel
theorem dX3_readClause_62 : decode cX3_readClause 62 = .ok (.invokestatic 76, 3) := by decide +kernel
theorem dX3_readClause_65 : decode cX3_readClause 65 = .ok (.invokestatic 82, 3) := by decide +kernel
theorem dX3_readClause_68 : decode cX3_readClause 68 = .ok (.invokespecial 88, 3) := by decide +kernel
theorem dX3_readClause_71 : decode cX3_readClause 71 = .ok (.areturn, 1) := by decide +kernel
set_option maxRecDepth 20000 in
theorem ggX3_readSort_X3_pick : GoodIn wsX3_readSort wsX3_pick := goodIn_r _ [5, 6, 7, 8, 9, 10, 4, 11, 12, 13, 14, 15, 16, 17, 18, 19, 20, 21, 22, 23, 24, 25, 26, 27, 28, 29, 30, 31, 32, 33, 34, 35, 36, 37, 38, 39, 40, 41, 42, 43, 44, 45, 46, 47, 48, 49, 50, 51, 52, 53, 54, 55, 56, 57, 58, 59, 60, 61, 62, 63, 64, 65, 66, 67, 68, 69, 70, 71, 72, 73, 74, 75, 76, 77, 78, 79, 80, 81, 82, 83, 84, 85, 86, 87, 88, 89, 90, 91, 92, 93, 94, 95, 96, 97, 98, 99, 100, 101, 102, 132, 133, 134, 135, 136, 137, 138] (by decide +kernel) (by decide +kernel)
set_option maxRecDepth 20000 in
theorem gX3_readSort_X3_pick : GoodIn wsX3_readSort (wsV RX3 57 RX3 yX3_pick wsX3_pick) := goodIn_app (goodIn_of _ (by decide +kernel)) ggX3_readSort_X3_pick
set_option maxRecDepth 20000 in
theorem ggX3_readSort_X3_expectAll : GoodIn wsX3_readSort wsX3_expectAll := goodIn_r _ [106, 6, 107, 31, 32, 17, 33, 23, 34, 35, 36, 37, 28, 29, 108, 109, 110, 111, 24, 25, 26, 27, 112, 113, 40, 114, 115, 116, 117, 74, 118, 119, 77, 120, 121, 122, 57, 123, 124, 125, 126, 68, 69, 70, 127, 82, 83, 84, 85, 86, 87, 128, 129, 130, 4, 131, 7, 8, 9, 10, 11, 12, 13, 132, 133, 134, 135, 136, 137, 138] (by decide +kernel) (by decide +kernel)
set_option maxRecDepth 20000 in
theorem gX3_readSort_X3_expectAll : GoodIn wsX3_readSort (wsV RX3 63 RX3 yX3_expectAll wsX3_expectAll) := goodIn_app (goodIn_of _ (by decide +kernel)) ggX3_readSort_X3_expectAll
theorem dX3_readSort_0 : decode cX3_readSort 0 = .ok (.aload_n 0, 1) := by decide +kernel
theorem dX3_readSort_1 : decode cX3_readSort 1 = .ok (.ldc 91, 2) := by decide +kernel
theorem dX3_readSort_3 : decode cX3_readSort 3 = .ok (.invokevirtual 57, 3) := by decide +kernel
theorem dX3_readSort_6 : decode cX3_readSort 6 = .ok (.istore_n 1, 1) := by decide +kernel
theorem dX3_readSort_7 : decode cX3_readSort 7 = .ok (.iload_n 1, 1) := by decide +kernel
theorem dX3_readSort_8 : decode cX3_readSort 8 = .ok (.tableswitch 55 0 2 #[28, 37, 46], 28) := by decide +kernel
theorem dX3_readSort_36 : decode cX3_readSort 36 = .ok (.aload_n 0, 1) := by decide +kernel
theorem dX3_readSort_37 : decode cX3_readSort 37 = .ok (.ldc 93, 2) := by decide +kernel
theorem dX3_readSort_39 : decode cX3_readSort 39 = .ok (.invokevirtual 63, 3) := by decide +kernel
theorem dX3_readSort_42 : decode cX3_readSort 42 = .ok (.goto 27, 3) := by decide +kernel
theorem dX3_readSort_45 : decode cX3_readSort 45 = .ok (.aload_n 0, 1) := by decide +kernel
theorem dX3_readSort_46 : decode cX3_readSort 46 = .ok (.ldc 95, 2) := by decide +kernel
theorem dX3_readSort_48 : decode cX3_readSort 48 = .ok (.invokevirtual 63, 3) := by decide +kernel
theorem dX3_readSort_51 : decode cX3_readSort 51 = .ok (.goto 18, 3) := by decide +kernel
theorem dX3_readSort_54 : decode cX3_readSort 54 = .ok (.aload_n 0, 1) := by decide +kernel
theorem dX3_readSort_55 : decode cX3_readSort 55 = .ok (.ldc 97, 2) := by decide +kernel
theorem dX3_readSort_57 : decode cX3_readSort 57 = .ok (.invokevirtual 63, 3) := by decide +kernel
theorem dX3_readSort_60 : decode cX3_readSort 60 = .ok (.goto 9, 3) := by decide +kernel
theorem dX3_readSort_63 : decode cX3_readSort 63 = .ok (.aload_n 0, 1) := by decide +kernel
theorem dX3_readSort_64 : decode cX3_readSort 64 = .ok (.ldc 99, 2) := by decide +kernel
theorem dX3_readSort_66 : decode cX3_readSort 66 = .ok (.invokevirtual 63, 3) := by decide +kernel
theorem dX3_readSort_69 : decode cX3_readSort 69 = .ok (.iload_n 1, 1) := by decide +kernel
theorem dX3_readSort_70 : decode cX3_readSort 70 = .ok (.ireturn, 1) := by decide +kernel
set_option maxRecDepth 20000 in
theorem ggX3_readCondition_X3_readOne : GoodIn wsX3_readCondition wsX3_readOne := goodIn_r _ [23, 5, 6, 7, 4, 8, 9, 10, 11, 12, 13, 14, 15, 16, 1, 2, 3, 17, 18, 19, 20, 21, 22, 24, 25, 26, 27, 28, 29, 30, 31, 32, 33, 34, 35, 36, 37, 38, 39, 40, 41, 42, 43, 44, 45, 46, 47, 48, 49, 50, 51, 52, 53, 54, 55, 56, 57, 58, 59, 60, 61, 62, 63, 64, 65, 66, 67, 68, 69, 70, 71, 72, 73, 74, 75, 76, 77, 78, 79, 80, 81, 82, 83, 84, 85, 86, 87, 88, 89, 90, 91, 92, 93, 94, 95, 96, 97, 98, 99, 100, 101, 102, 103, 104, 105, 106, 107, 108, 109, 110, 111, 112, 113, 114, 115, 116, 117, 118, 119, 120, 121, 122, 123, 124, 125, 126, 127, 128, 129, 130, 131, 132, 133, 134, 135, 136, 137, 138, 139, 140, 141, 142, 143, 144, 145, 146, 147, 148, 149, 0, 150, 151, 152, 153, 154, 155, 156] (by decide +kernel) (by decide +kernel)
set_option maxRecDepth 20000 in
theorem gX3_readCondition_X3_readOne : GoodIn wsX3_readCondition (wsV RX3 101 RX3 yX3_readOne wsX3_readOne) := goodIn_app (goodIn_of _ (by decide +kernel)) ggX3_readCondition_X3_readOne
set_option maxRecDepth 20000 in
theorem ggX3_readCondition_X3_accept : GoodIn wsX3_readCondition wsX3_accept := goodIn_r _ [8, 9, 10, 11, 12, 4, 13, 14, 15, 16, 150, 151, 152, 153, 154, 155, 156] (by decide +kernel) (by decide +kernel)
set_option maxRecDepth 20000 in
theorem gX3_readCondition_X3_accept : GoodIn wsX3_readCondition (wsV RX3 46 RX3 yX3_accept wsX3_accept) := goodIn_app (goodIn_of _ (by decide +kernel)) ggX3_readCondition_X3_accept
set_option maxRecDepth 20000 in
theorem ggX3_readCondition_X3_put : GoodIn wsX3_readCondition wsX3_put := goodIn_r _ [20, 21, 22, 150, 151, 152, 153, 154, 155, 156] (by decide +kernel) (by decide +kernel)
set_option maxRecDepth 20000 in
theorem gX3_readCondition_X3_put : GoodIn wsX3_readCondition (wsV RX3 104 RX3 yX3_put wsX3_put) := goodIn_app (goodIn_of _ (by decide +kernel)) ggX3_readCondition_X3_put
theorem dX3_readCondition_0 : decode cX3_readCondition 0 = .ok (.iconst 0, 1) := by decide +kernel
theorem dX3_readCondition_1 : decode cX3_readCondition 1 = .ok (.istore_n 2, 1) := by decide +kernel
theorem dX3_readCondition_2 : decode cX3_readCondition 2 = .ok (.aload_n 0, 1) := by decide +kernel
theorem dX3_readCondition_3 : decode cX3_readCondition 3 = .ok (.iload_n 1, 1) := by decide +kernel
theorem dX3_readCondition_4 : decode cX3_readCondition 4 = .ok (.invokevirtual 101, 3) := by decide +kernel
theorem dX3_readCondition_7 : decode cX3_readCondition 7 = .ok (.iconst 1, 1) := by decide +kernel
theorem dX3_readCondition_8 : decode cX3_readCondition 8 = .ok (.istore_n 3, 1) := by decide +kernel
theorem dX3_readCondition_9 : decode cX3_readCondition 9 = .ok (.iconst 0, 1) := by decide +kernel
theorem dX3_readCondition_10 : decode cX3_readCondition 10 = .ok (.istore 4, 2) := by decide +kernel
theorem dX3_readCondition_12 : decode cX3_readCondition 12 = .ok (.iload 4, 2) := by decide +kernel
theorem dX3_readCondition_14 : decode cX3_readCondition 14 = .ok (.bipush 100, 2) := by decide +kernel
theorem dX3_readCondition_16 : decode cX3_readCondition 16 = .ok (.if_icmp .ge 69, 3) := by decide +kernel
theorem dX3_readCondition_19 : decode cX3_readCondition 19 = .ok (.iload_n 3, 1) := by decide +kernel
theorem dX3_readCondition_20 : decode cX3_readCondition 20 = .ok (.ifCond .eq 65, 3) := by decide +kernel
theorem dX3_readCondition_23 : decode cX3_readCondition 23 = .ok (.aload_n 0, 1) := by decide +kernel
theorem dX3_readCondition_24 : decode cX3_readCondition 24 = .ok (.bipush 38, 2) := by decide +kernel
theorem dX3_readCondition_26 : decode cX3_readCondition 26 = .ok (.invokevirtual 46, 3) := by decide +kernel
theorem dX3_readCondition_29 : decode cX3_readCondition 29 = .ok (.ifCond .eq 18, 3) := by decide +kernel
theorem dX3_readCondition_32 : decode cX3_readCondition 32 = .ok (.aload_n 0, 1) := by decide +kernel
theorem dX3_readCondition_33 : decode cX3_readCondition 33 = .ok (.iload_n 1, 1) := by decide +kernel
theorem dX3_readCondition_34 : decode cX3_readCondition 34 = .ok (.invokevirtual 101, 3) := by decide +kernel
theorem dX3_readCondition_37 : decode cX3_readCondition 37 = .ok (.aload_n 0, 1) := by decide +kernel
theorem dX3_readCondition_38 : decode cX3_readCondition 38 = .ok (.bipush 22, 2) := by decide +kernel
theorem dX3_readCondition_40 : decode cX3_readCondition 40 = .ok (.iconst 0, 1) := by decide +kernel
theorem dX3_readCondition_41 : decode cX3_readCondition 41 = .ok (.invokevirtual 104, 3) := by decide +kernel
theorem dX3_readCondition_44 : decode cX3_readCondition 44 = .ok (.goto 35, 3) := by decide +kernel
theorem dX3_readCondition_47 : decode cX3_readCondition 47 = .ok (.aload_n 0, 1) := by decide +kernel
theorem dX3_readCondition_48 : decode cX3_readCondition 48 = .ok (.bipush 124, 2) := by decide +kernel
theorem dX3_readCondition_50 : decode cX3_readCondition 50 = .ok (.invokevirtual 46, 3) := by decide +kernel
theorem dX3_readCondition_53 : decode cX3_readCondition 53 = .ok (.ifCond .eq 24, 3) := by decide +kernel
theorem dX3_readCondition_56 : decode cX3_readCondition 56 = .ok (.iload_n 2, 1) := by decide +kernel
theorem dX3_readCondition_57 : decode cX3_readCondition 57 = .ok (.ifCond .eq 10, 3) := by decide +kernel
theorem dX3_readCondition_60 : decode cX3_readCondition 60 = .ok (.aload_n 0, 1) := by decide +kernel
theorem dX3_readCondition_61 : decode cX3_readCondition 61 = .ok (.bipush 23, 2) := by decide +kernel
theorem dX3_readCondition_63 : decode cX3_readCondition 63 = .ok (.iconst 0, 1) := by decide +kernel
theorem dX3_readCondition_64 : decode cX3_readCondition 64 = .ok (.invokevirtual 104, 3) := by decide +kernel
theorem dX3_readCondition_67 : decode cX3_readCondition 67 = .ok (.iconst 1, 1) := by decide +kernel
theorem dX3_readCondition_68 : decode cX3_readCondition 68 = .ok (.istore_n 2, 1) := by decide +kernel
theorem dX3_readCondition_69 : decode cX3_readCondition 69 = .ok (.aload_n 0, 1) := by decide +kernel
theorem dX3_readCondition_70 : decode cX3_readCondition 70 = .ok (.iload_n 1, 1) := by decide +kernel
theorem dX3_readCondition_71 : decode cX3_readCondition 71 = .ok (.invokevirtual 101, 3) := by decide +kernel
theorem dX3_readCondition_74 : decode cX3_readCondition 74 = .ok (.goto 5, 3) := by decide +kernel
theorem dX3_readCondition_77 : decode cX3_readCondition 77 = .ok (.iconst 0, 1) := by decide +kernel
theorem dX3_readCondition_78 : decode cX3_readCondition 78 = .ok (.istore_n 3, 1) := by decide +kernel
theorem dX3_readCondition_79 : decode cX3_readCondition 79 = .ok (.iinc 4 1, 3) := by decide +kernel
theorem dX3_readCondition_82 : decode cX3_readCondition 82 = .ok (.goto (-70), 3) := by decide +kernel
theorem dX3_readCondition_85 : decode cX3_readCondition 85 = .ok (.iload_n 2, 1) := by decide +kernel
theorem dX3_readCondition_86 : decode cX3_readCondition 86 = .ok (.ifCond .eq 10, 3) := by decide +kernel
theorem dX3_readCondition_89 : decode cX3_readCondition 89 = .ok (.aload_n 0, 1) := by decide +kernel
theorem dX3_readCondition_90 : decode cX3_readCondition 90 = .ok (.bipush 23, 2) := by decide +kernel
theorem dX3_readCondition_92 : decode cX3_readCondition 92 = .ok (.iconst 0, 1) := by decide +kernel
theorem dX3_readCondition_93 : decode cX3_readCondition 93 = .ok (.invokevirtual 104, 3) := by decide +kernel
theorem dX3_readCondition_96 : decode cX3_readCondition 96 = .ok (.return_, 1) := by decide +kernel
set_option maxRecDepth 20000 in
theorem ggX3_readOne_X3_accept : GoodIn wsX3_readOne wsX3_accept := goodIn_r _ [5, 6, 7, 8, 9, 4, 10, 11, 12, 13, 150, 151, 152, 153, 154, 155, 156] (by decide +kernel) (by decide +kernel)
set_option maxRecDepth 20000 in
theorem gX3_readOne_X3_accept : GoodIn wsX3_readOne (wsV RX3 46 RX3 yX3_accept wsX3_accept) := goodIn_app (goodIn_of _ (by decide +kernel)) ggX3_readOne_X3_accept
set_option maxRecDepth 20000 in
theorem ggX3_readOne_X3_readOne : GoodIn wsX3_readOne wsX3_readOne := goodIn_r _ [0, 1, 2, 3, 4, 5, 6, 7, 8, 9, 10, 11, 12, 13, 14, 15, 16, 17, 18, 19, 20, 21, 22, 23, 24, 25, 26, 27, 28, 29, 30, 31, 32, 33, 34, 35, 36, 37, 38, 39, 40, 41, 42, 43, 44, 45, 46, 47, 48, 49, 50, 51, 52, 53, 54, 55, 56, 57, 58, 59, 60, 61, 62, 63, 64, 65, 66, 67, 68, 69, 70, 71, 72, 73, 74, 75, 76, 77, 78, 79, 80, 81, 82, 83, 84, 85, 86, 87, 88, 89, 90, 91, 92, 93, 94, 95, 96, 97, 98, 99, 100, 101, 102, 103, 104, 105, 106, 107, 108, 109, 110, 111, 112, 113, 114, 115, 116, 117, 118, 119, 120, 121, 122, 123, 124, 125, 126, 127, 128, 129, 130, 131, 132, 133, 134, 135, 136, 137, 138, 139, 140, 141, 142, 143, 144, 145, 146, 147, 148, 149, 150, 151, 152, 153, 154, 155, 156] (by decide +kernel) (by decide +kernel)
set_option maxRecDepth 20000 in
theorem gX3_readOne_X3_readOne : GoodIn wsX3_readOne (wsV RX3 101 RX3 yX3_readOne wsX3_readOne) := goodIn_app (goodIn_of _ (by decide +kernel)) ggX3_readOne_X3_readOne
set_option maxRecDepth 20000 in
theorem ggX3_readOne_X3_put : GoodIn wsX3_readOne wsX3_put := goodIn_r _ [20, 21, 22, 150, 151, 152, 153, 154, 155, 156] (by decide +kernel) (by decide +kernel)
set_option maxRecDepth 20000 in
theorem gX3_readOne_X3_put : GoodIn wsX3_readOne (wsV RX3 104 RX3 yX3_put wsX3_put) := goodIn_app (goodIn_of _ (by decide +kernel)) ggX3_readOne_X3_put
set_option maxRecDepth 20000 in
theorem ggX3_readOne_X3_readCondition : GoodIn wsX3_readOne wsX3_readCondition := goodIn_r _ [149, 14, 15, 16, 4, 1, 2, 3, 5, 6, 7, 8, 9, 10, 11, 12, 13, 17, 18, 19, 20, 21, 22, 0, 23, 24, 25, 26, 27, 28, 29, 30, 31, 32, 33, 34, 35, 36, 37, 38, 39, 40, 41, 42, 43, 44, 45, 46, 47, 48, 49, 50, 51, 52, 53, 54, 55, 56, 57, 58, 59, 60, 61, 62, 63, 64, 65, 66, 67, 68, 69, 70, 71, 72, 73, 74, 75, 76, 77, 78, 79, 80, 81, 82, 83, 84, 85, 86, 87, 88, 89, 90, 91, 92, 93, 94, 95, 96, 97, 98, 99, 100, 101, 102, 103, 104, 105, 106, 107, 108, 109, 110, 111, 112, 113, 114, 115, 116, 117, 118, 119, 120, 121, 122, 123, 124, 125, 126, 127, 128, 129, 130, 131, 132, 133, 134, 135, 136, 137, 138, 139, 140, 141, 142, 143, 144, 145, 146, 147, 148, 150, 151, 152, 153, 154, 155, 156] (by decide +kernel) (by decide +kernel)
set_option maxRecDepth 20000 in
theorem gX3_readOne_X3_readCondition : GoodIn wsX3_readOne (wsV RX3 70 RX3 yX3_readCondition wsX3_readCondition) := goodIn_app (goodIn_of _ (by decide +kernel)) ggX3_readOne_X3_readCondition
set_option maxRecDepth 20000 in
theorem ggX3_readOne_X3_expectAll : GoodIn wsX3_readOne wsX3_expectAll := goodIn_r _ [29, 11, 30, 31, 32, 33, 34, 35, 36, 37, 38, 39, 40, 41, 42, 43, 44, 45, 46, 47, 48, 49, 50, 51, 52, 53, 54, 55, 56, 57, 58, 59, 60, 61, 62, 63, 64, 65, 66, 67, 68, 69, 70, 71, 72, 73, 74, 75, 76, 77, 78, 1, 2, 3, 4, 5, 6, 7, 8, 9, 10, 12, 13, 150, 151, 152, 153, 154, 155, 156] (by decide +kernel) (by decide +kernel)
set_option maxRecDepth 20000 in
theorem gX3_readOne_X3_expectAll : GoodIn wsX3_readOne (wsV RX3 63 RX3 yX3_expectAll wsX3_expectAll) := goodIn_app (goodIn_of _ (by decide +kernel)) ggX3_readOne_X3_expectAll
set_option maxRecDepth 20000 in
theorem ggX3_readOne_X3_readTest : GoodIn wsX3_readOne wsX3_readTest := goodIn_r _ [82, 83, 84, 85, 86, 4, 87, 11, 6, 7, 8, 9, 10, 12, 13, 88, 89, 90, 33, 91, 92, 93, 94, 95, 35, 46, 47, 48, 49, 40, 41, 96, 31, 32, 34, 36, 37, 38, 39, 97, 98, 52, 99, 100, 101, 102, 103, 104, 105, 106, 107, 108, 109, 110, 111, 112, 113, 114, 64, 115, 116, 117, 118, 119, 120, 121, 122, 123, 124, 69, 70, 71, 125, 126, 127, 57, 128, 129, 60, 130, 131, 132, 133, 73, 74, 75, 76, 77, 78, 134, 135, 136, 137, 138, 139, 140, 141, 142, 143, 144, 145, 146, 147, 148, 26, 27, 28, 29, 30, 42, 43, 44, 45, 50, 51, 53, 54, 55, 56, 58, 59, 61, 62, 63, 65, 66, 67, 68, 72, 1, 2, 3, 5, 17, 18, 19, 20, 21, 22, 150, 151, 152, 153, 154, 155, 156] (by decide +kernel) (by decide +kernel)
set_option maxRecDepth 20000 in
theorem gX3_readOne_X3_readTest : GoodIn wsX3_readOne (wsV RX3 109 RX3 yX3_readTest wsX3_readTest) := goodIn_app (goodIn_of _ (by decide +kernel)) ggX3_readOne_X3_readTest
theorem dX3_readOne_0 : decode cX3_readOne 0 = .ok (.iload_n 1, 1) := by decide +kernel
theorem dX3_readOne_1 : decode cX3_readOne 1 = .ok (.iconst 4, 1) := by decide +kernel
theorem dX3_readOne_2 : decode cX3_readOne 2 = .ok (.if_icmp .ge 29, 3) := by decide +kernel
theorem dX3_readOne_5 : decode cX3_readOne 5 = .ok (.aload_n 0, 1) := by decide +kernel
theorem dX3_readOne_6 : decode cX3_readOne 6 = .ok (.bipush 33, 2) := by decide +kernel
theorem dX3_readOne_8 : decode cX3_readOne 8 = .ok (.invokevirtual 46, 3) := by decide +kernel
theorem dX3_readOne_11 : decode cX3_readOne 11 = .ok (.ifCond .eq 20, 3) := by decide +kernel
theorem dX3_readOne_14 : decode cX3_readOne 14 = .ok (.aload_n 0, 1) := by decide +kernel
theorem dX3_readOne_15 : decode cX3_readOne 15 = .ok (.iload_n 1, 1) := by decide +kernel
theorem dX3_readOne_16 : decode cX3_readOne 16 = .ok (.iconst 1, 1) := by decide +kernel
theorem dX3_readOne_17 : decode cX3_readOne 17 = .ok (.iadd, 1) := by decide +kernel
theorem dX3_readOne_18 : decode cX3_readOne 18 = .ok (.invokevirtual 101, 3) := by decide +kernel
theorem dX3_readOne_21 : decode cX3_readOne 21 = .ok (.aload_n 0, 1) := by decide +kernel
theorem dX3_readOne_22 : decode cX3_readOne 22 = .ok (.bipush 21, 2) := by decide +kernel
theorem dX3_readOne_24 : decode cX3_readOne 24 = .ok (.iconst 0, 1) := by decide +kernel
theorem dX3_readOne_25 : decode cX3_readOne 25 = .ok (.invokevirtual 104, 3) := by decide +kernel
theorem dX3_readOne_28 : decode cX3_readOne 28 = .ok (.goto 37, 3) := by decide +kernel
theorem dX3_readOne_31 : decode cX3_readOne 31 = .ok (.iload_n 1, 1) := by decide +kernel
theorem dX3_readOne_32 : decode cX3_readOne 32 = .ok (.iconst 4, 1) := by decide +kernel
theorem dX3_readOne_33 : decode cX3_readOne 33 = .ok (.if_icmp .ge 28, 3) := by decide +kernel
theorem dX3_readOne_36 : decode cX3_readOne 36 = .ok (.aload_n 0, 1) := by decide +kernel
theorem dX3_readOne_37 : decode cX3_readOne 37 = .ok (.bipush 40, 2) := by decide +kernel
theorem dX3_readOne_39 : decode cX3_readOne 39 = .ok (.invokevirtual 46, 3) := by decide +kernel
theorem dX3_readOne_42 : decode cX3_readOne 42 = .ok (.ifCond .eq 19, 3) := by decide +kernel
theorem dX3_readOne_45 : decode cX3_readOne 45 = .ok (.aload_n 0, 1) := by decide +kernel
theorem dX3_readOne_46 : decode cX3_readOne 46 = .ok (.iload_n 1, 1) := by decide +kernel
theorem dX3_readOne_47 : decode cX3_readOne 47 = .ok (.iconst 1, 1) := by decide +kernel
theorem dX3_readOne_48 : decode cX3_readOne 48 = .ok (.iadd, 1) := by decide +kernel
theorem dX3_readOne_49 : decode cX3_readOne 49 = .ok (.invokevirtual 70, 3) := by decide +kernel
theorem dX3_readOne_52 : decode cX3_readOne 52 = .ok (.aload_n 0, 1) := by decide +kernel
theorem dX3_readOne_53 : decode cX3_readOne 53 = .ok (.ldc 107, 2) := by decide +kernel
theorem dX3_readOne_55 : decode cX3_readOne 55 = .ok (.invokevirtual 63, 3) := by decide +kernel
theorem dX3_readOne_58 : decode cX3_readOne 58 = .ok (.goto 7, 3) := by decide +kernel
theorem dX3_readOne_61 : decode cX3_readOne 61 = .ok (.aload_n 0, 1) := by decide +kernel
theorem dX3_readOne_62 : decode cX3_readOne 62 = .ok (.invokevirtual 109, 3) := by decide +kernel
theorem dX3_readOne_65 : decode cX3_readOne 65 = .ok (.return_, 1) := by decide +kernel
set_option maxRecDepth 20000 in
theorem ggX3_readTest_X3_pick : GoodIn wsX3_readTest wsX3_pick := goodIn_r _ [6, 7, 8, 9, 10, 11, 5, 12, 13, 14, 15, 16, 17, 18, 19, 20, 21, 22, 23, 24, 25, 26, 27, 28, 29, 30, 31, 32, 33, 34, 35, 36, 37, 38, 39, 40, 41, 42, 43, 44, 45, 46, 47, 48, 49, 50, 51, 52, 53, 54, 55, 56, 57, 58, 59, 60, 61, 62, 63, 64, 65, 66, 67, 68, 69, 70, 71, 72, 73, 74, 75, 76, 77, 78, 79, 80, 81, 82, 83, 84, 85, 86, 87, 88, 89, 90, 91, 92, 93, 94, 95, 96, 97, 98, 99, 100, 101, 102, 103, 139, 140, 141, 142, 143, 144, 145] (by decide +kernel) (by decide +kernel)
set_option maxRecDepth 20000 in
theorem gX3_readTest_X3_pick : GoodIn wsX3_readTest (wsV RX3 57 RX3 yX3_pick wsX3_pick) := goodIn_app (goodIn_of _ (by decide +kernel)) ggX3_readTest_X3_pick
set_option maxRecDepth 20000 in
theorem ggX3_readTest_X3_expectAll : GoodIn wsX3_readTest wsX3_expectAll := goodIn_r _ [107, 7, 108, 32, 33, 18, 34, 24, 35, 36, 37, 38, 29, 30, 109, 110, 111, 112, 25, 26, 27, 28, 113, 114, 41, 115, 116, 117, 118, 75, 119, 120, 78, 121, 122, 123, 58, 124, 125, 126, 127, 69, 70, 71, 128, 83, 84, 85, 86, 87, 88, 129, 130, 131, 5, 132, 8, 9, 10, 11, 12, 13, 14, 139, 140, 141, 142, 143, 144, 145] (by decide +kernel) (by decide +kernel)
set_option maxRecDepth 20000 in
theorem gX3_readTest_X3_expectAll : GoodIn wsX3_readTest (wsV RX3 63 RX3 yX3_expectAll wsX3_expectAll) := goodIn_app (goodIn_of _ (by decide +kernel)) ggX3_readTest_X3_expectAll
set_option maxRecDepth 20000 in
theorem ggX3_readTest_X3_put : GoodIn wsX3_readTest wsX3_put := goodIn_r _ [136, 137, 138, 139, 140, 141, 142, 143, 144, 145] (by decide +kernel) (by decide +kernel)
set_option maxRecDepth 20000 in
theorem gX3_readTest_X3_put : GoodIn wsX3_readTest (wsV RX3 104 RX3 yX3_put wsX3_put) := goodIn_app (goodIn_of _ (by decide +kernel)) ggX3_readTest_X3_put
theorem dX3_readTest_0 : decode cX3_readTest 0 = .ok (.aload_n 0, 1) := by decide +kernel
theorem dX3_readTest_1 : decode cX3_readTest 1 = .ok (.ldc 112, 2) := by decide +kernel
theorem dX3_readTest_3 : decode cX3_readTest 3 = .ok (.invokevirtual 57, 3) := by decide +kernel
theorem dX3_readTest_6 : decode cX3_readTest 6 = .ok (.istore_n 1, 1) := by decide +kernel
theorem dX3_readTest_7 : decode cX3_readTest 7 = .ok (.iconst 1, 1) := by decide +kernel
theorem dX3_readTest_8 : decode cX3_readTest 8 = .ok (.istore_n 2, 1) := by decide +kernel
theorem dX3_readTest_9 : decode cX3_readTest 9 = .ok (.iload_n 1, 1) := by decide +kernel
theorem dX3_readTest_10 : decode cX3_readTest 10 = .ok (.iconst 1, 1) := by decide +kernel
theorem dX3_readTest_11 : decode cX3_readTest 11 = .ok (.if_icmp .gt 13, 3) := by decide +kernel
theorem dX3_readTest_14 : decode cX3_readTest 14 = .ok (.aload_n 0, 1) := by decide +kernel
theorem dX3_readTest_15 : decode cX3_readTest 15 = .ok (.ldc 114, 2) := by decide +kernel
theorem dX3_readTest_17 : decode cX3_readTest 17 = .ok (.invokevirtual 57, 3) := by decide +kernel
theorem dX3_readTest_20 : decode cX3_readTest 20 = .ok (.istore_n 2, 1) := by decide +kernel
theorem dX3_readTest_21 : decode cX3_readTest 21 = .ok (.goto 9, 3) := by decide +kernel
theorem dX3_readTest_24 : decode cX3_readTest 24 = .ok (.aload_n 0, 1) := by decide +kernel
theorem dX3_readTest_25 : decode cX3_readTest 25 = .ok (.ldc 116, 2) := by decide +kernel
theorem dX3_readTest_27 : decode cX3_readTest 27 = .ok (.invokevirtual 63, 3) := by decide +kernel
theorem dX3_readTest_30 : decode cX3_readTest 30 = .ok (.iconst 3, 1) := by decide +kernel
theorem dX3_readTest_31 : decode cX3_readTest 31 = .ok (.iload_n 1, 1) := by decide +kernel
theorem dX3_readTest_32 : decode cX3_readTest 32 = .ok (.imul, 1) := by decide +kernel
theorem dX3_readTest_33 : decode cX3_readTest 33 = .ok (.iload_n 2, 1) := by decide +kernel
theorem dX3_readTest_34 : decode cX3_readTest 34 = .ok (.iadd, 1) := by decide +kernel
theorem dX3_readTest_35 : decode cX3_readTest 35 = .ok (.istore_n 3, 1) := by decide +kernel
theorem dX3_readTest_36 : decode cX3_readTest 36 = .ok (.aload_n 0, 1) := by decide +kernel
theorem dX3_readTest_37 : decode cX3_readTest 37 = .ok (.ldc 55, 2) := by decide +kernel
theorem dX3_readTest_39 : decode cX3_readTest 39 = .ok (.invokevirtual 57, 3) := by decide +kernel
theorem dX3_readTest_42 : decode cX3_readTest 42 = .ok (.istore 4, 2) := by decide +kernel
theorem dX3_readTest_44 : decode cX3_readTest 44 = .ok (.iload_n 3, 1) := by decide +kernel
theorem dX3_readTest_45 : decode cX3_readTest 45 = .ok (.bipush 19, 2) := by decide +kernel
theorem dX3_readTest_47 : decode cX3_readTest 47 = .ok (.if_icmp .ne 16, 3) := by decide +kernel
theorem dX3_readTest_50 : decode cX3_readTest 50 = .ok (.aload_n 0, 1) := by decide +kernel
theorem dX3_readTest_51 : decode cX3_readTest 51 = .ok (.dup, 1) := by decide +kernel
theorem dX3_readTest_52 : decode cX3_readTest 52 = .ok (.getfield 30, 3) := by decide +kernel
theorem dX3_readTest_55 : decode cX3_readTest 55 = .ok (.iconst 1, 1) := by decide +kernel
theorem dX3_readTest_56 : decode cX3_readTest 56 = .ok (.iload 4, 2) := by decide +kernel
theorem dX3_readTest_58 : decode cX3_readTest 58 = .ok (.ishl, 1) := by decide +kernel
theorem dX3_readTest_59 : decode cX3_readTest 59 = .ok (.ior, 1) := by decide +kernel
theorem dX3_readTest_60 : decode cX3_readTest 60 = .ok (.putfield 30, 3) := by decide +kernel
theorem dX3_readTest_63 : decode cX3_readTest 63 = .ok (.aload_n 0, 1) := by decide +kernel
theorem dX3_readTest_64 : decode cX3_readTest 64 = .ok (.iload_n 3, 1) := by decide +kernel
theorem dX3_readTest_65 : decode cX3_readTest 65 = .ok (.iload 4, 2) := by decide +kernel
theorem dX3_readTest_67 : decode cX3_readTest 67 = .ok (.invokevirtual 104, 3) := by decide +kernel
theorem dX3_readTest_70 : decode cX3_readTest 70 = .ok (.return_, 1) := by decide +kernel
theorem dX3_peek_0 : decode cX3_peek 0 = .ok (.aload_n 0, 1) := by decide +kernel
theorem dX3_peek_1 : decode cX3_peek 1 = .ok (.getfield 26, 3) := by decide +kernel
theorem dX3_peek_4 : decode cX3_peek 4 = .ok (.ifCond .ne 37, 3) := by decide +kernel
theorem dX3_peek_7 : decode cX3_peek 7 = .ok (.aload_n 0, 1) := by decide +kernel
theorem dX3_peek_8 : decode cX3_peek 8 = .ok (.getfield 23, 3) := by decide +kernel
theorem dX3_peek_11 : decode cX3_peek 11 = .ok (.aload_n 0, 1) := by decide +kernel
theorem dX3_peek_12 : decode cX3_peek 12 = .ok (.getfield 19, 3) := by decide +kernel
theorem dX3_peek_15 : decode cX3_peek 15 = .ok (.if_icmp .ge 26, 3) := by decide +kernel
theorem dX3_peek_18 : decode cX3_peek 18 = .ok (.aload_n 0, 1) := by decide +kernel
theorem dX3_peek_19 : decode cX3_peek 19 = .ok (.getfield 23, 3) := by decide +kernel
theorem dX3_peek_22 : decode cX3_peek 22 = .ok (.ifCond .lt 19, 3) := by decide +kernel
theorem dX3_peek_25 : decode cX3_peek 25 = .ok (.aload_n 0, 1) := by decide +kernel
theorem dX3_peek_26 : decode cX3_peek 26 = .ok (.getfield 23, 3) := by decide +kernel
theorem dX3_peek_29 : decode cX3_peek 29 = .ok (.aload_n 0, 1) := by decide +kernel
theorem dX3_peek_30 : decode cX3_peek 30 = .ok (.getfield 9, 3) := by decide +kernel
theorem dX3_peek_33 : decode cX3_peek 33 = .ok (.arraylength, 1) := by decide +kernel
theorem dX3_peek_34 : decode cX3_peek 34 = .ok (.if_icmp .ge 7, 3) := by decide +kernel
theorem dX3_peek_37 : decode cX3_peek 37 = .ok (.iconst 1, 1) := by decide +kernel
theorem dX3_peek_38 : decode cX3_peek 38 = .ok (.goto 4, 3) := by decide +kernel
theorem dX3_peek_41 : decode cX3_peek 41 = .ok (.iconst 0, 1) := by decide +kernel
theorem dX3_peek_42 : decode cX3_peek 42 = .ok (.istore_n 1, 1) := by decide +kernel
theorem dX3_peek_43 : decode cX3_peek 43 = .ok (.iload_n 1, 1) := by decide +kernel
theorem dX3_peek_44 : decode cX3_peek 44 = .ok (.ifCond .eq 19, 3) := by decide +kernel
theorem dX3_peek_47 : decode cX3_peek 47 = .ok (.aload_n 0, 1) := by decide +kernel
theorem dX3_peek_48 : decode cX3_peek 48 = .ok (.getfield 9, 3) := by decide +kernel
theorem dX3_peek_51 : decode cX3_peek 51 = .ok (.aload_n 0, 1) := by decide +kernel
theorem dX3_peek_52 : decode cX3_peek 52 = .ok (.getfield 23, 3) := by decide +kernel
theorem dX3_peek_55 : decode cX3_peek 55 = .ok (.baload, 1) := by decide +kernel
theorem dX3_peek_56 : decode cX3_peek 56 = .ok (.sipush 255, 3) := by decide +kernel
theorem dX3_peek_59 : decode cX3_peek 59 = .ok (.iand, 1) := by decide +kernel
theorem dX3_peek_60 : decode cX3_peek 60 = .ok (.goto 4, 3) := by decide +kernel
theorem dX3_peek_63 : decode cX3_peek 63 = .ok (.iconst (-1), 1) := by decide +kernel
theorem dX3_peek_64 : decode cX3_peek 64 = .ok (.ireturn, 1) := by decide +kernel
set_option maxRecDepth 20000 in
theorem ggX3_accept_X3_peek : GoodIn wsX3_accept wsX3_peek := goodIn_r _ [6, 7, 1, 8, 9, 10, 11, 12, 13, 14, 15, 16] (by decide +kernel) (by decide +kernel)
set_option maxRecDepth 20000 in
theorem gX3_accept_X3_peek : GoodIn wsX3_accept (wsV RX3 118 RX3 yX3_peek wsX3_peek) := goodIn_app (goodIn_of _ (by decide +kernel)) ggX3_accept_X3_peek
theorem dX3_accept_0 : decode cX3_accept 0 = .ok (.aload_n 0, 1) := by decide +kernel
theorem dX3_accept_1 : decode cX3_accept 1 = .ok (.invokevirtual 118, 3) := by decide +kernel
theorem dX3_accept_4 : decode cX3_accept 4 = .ok (.iload_n 1, 1) := by decide +kernel
theorem dX3_accept_5 : decode cX3_accept 5 = .ok (.if_icmp .eq 5, 3) := by decide +kernel
theorem dX3_accept_8 : decode cX3_accept 8 = .ok (.iconst 0, 1) := by decide +kernel
theorem dX3_accept_9 : decode cX3_accept 9 = .ok (.ireturn, 1) := by decide +kernel
theorem dX3_accept_10 : decode cX3_accept 10 = .ok (.aload_n 0, 1) := by decide +kernel
theorem dX3_accept_11 : decode cX3_accept 11 = .ok (.dup, 1) := by decide +kernel
theorem dX3_accept_12 : decode cX3_accept 12 = .ok (.getfield 23, 3) := by decide +kernel
theorem dX3_accept_15 : decode cX3_accept 15 = .ok (.iconst 1, 1) := by decide +kernel
theorem dX3_accept_16 : decode cX3_accept 16 = .ok (.iadd, 1) := by decide +kernel
theorem dX3_accept_17 : decode cX3_accept 17 = .ok (.putfield 23, 3) := by decide +kernel
theorem dX3_accept_20 : decode cX3_accept 20 = .ok (.iconst 1, 1) := by decide +kernel
theorem dX3_accept_21 : decode cX3_accept 21 = .ok (.ireturn, 1) := by decide +kernel
set_option maxRecDepth 20000 in
theorem ggX3_expectAll_J0_length_8abf5 : GoodIn wsX3_expectAll wsJ0_length_8abf5 := goodIn_r _ [6, 7, 8, 9, 10, 5, 11, 12, 13] (by decide +kernel) (by decide +kernel)
set_option maxRecDepth 20000 in
theorem gX3_expectAll_J0_length_8abf5 : GoodIn wsX3_expectAll (wsV RX3 121 RJ0 yJ0_length_8abf5 wsJ0_length_8abf5) := goodIn_app (goodIn_of _ (by decide +kernel)) ggX3_expectAll_J0_length_8abf5
set_option maxRecDepth 20000 in
theorem ggX3_expectAll_J0_charAt_5068e : GoodIn wsX3_expectAll wsJ0_charAt_5068e := goodIn_r _ [17, 7, 18, 19, 20, 5, 21, 12, 13, 22, 23, 24, 25, 26, 27, 28, 29, 30, 31, 32, 33, 34, 35, 36, 37, 38, 39, 40, 41, 42, 43, 44, 45, 46, 47, 48, 49, 50] (by decide +kernel) (by decide +kernel)
set_option maxRecDepth 20000 in
theorem gX3_expectAll_J0_charAt_5068e : GoodIn wsX3_expectAll (wsV RX3 125 RJ0 yJ0_charAt_5068e wsJ0_charAt_5068e) := goodIn_app (goodIn_of _ (by decide +kernel)) ggX3_expectAll_J0_charAt_5068e
set_option maxRecDepth 20000 in
theorem ggX3_expectAll_X3_accept : GoodIn wsX3_expectAll wsX3_accept := goodIn_r _ [55, 56, 57, 58, 59, 54, 60, 1, 61, 62, 63, 64, 65, 66, 67, 68, 69] (by decide +kernel) (by decide +kernel)
set_option maxRecDepth 20000 in
theorem gX3_expectAll_X3_accept : GoodIn wsX3_expectAll (wsV RX3 46 RX3 yX3_accept wsX3_accept) := goodIn_app (goodIn_of _ (by decide +kernel)) ggX3_expectAll_X3_accept
theorem dX3_expectAll_0 : decode cX3_expectAll 0 = .ok (.iconst 0, 1) := by decide +kernel
theorem dX3_expectAll_1 : decode cX3_expectAll 1 = .ok (.istore_n 2, 1) := by decide +kernel
theorem dX3_expectAll_2 : decode cX3_expectAll 2 = .ok (.iload_n 2, 1) := by decide +kernel
theorem dX3_expectAll_3 : decode cX3_expectAll 3 = .ok (.aload_n 1, 1) := by decide +kernel
theorem dX3_expectAll_4 : decode cX3_expectAll 4 = .ok (.invokevirtual 121, 3) := by decide +kernel
theorem dX3_expectAll_7 : decode cX3_expectAll 7 = .ok (.if_icmp .ge 26, 3) := by decide +kernel
theorem dX3_expectAll_10 : decode cX3_expectAll 10 = .ok (.aload_n 0, 1) := by decide +kernel
theorem dX3_expectAll_11 : decode cX3_expectAll 11 = .ok (.aload_n 1, 1) := by decide +kernel
theorem dX3_expectAll_12 : decode cX3_expectAll 12 = .ok (.iload_n 2, 1) := by decide +kernel
theorem dX3_expectAll_13 : decode cX3_expectAll 13 = .ok (.invokevirtual 125, 3) := by decide +kernel
theorem dX3_expectAll_16 : decode cX3_expectAll 16 = .ok (.invokevirtual 46, 3) := by decide +kernel
theorem dX3_expectAll_19 : decode cX3_expectAll 19 = .ok (.ifCond .ne 8, 3) := by decide +kernel
theorem dX3_expectAll_22 : decode cX3_expectAll 22 = .ok (.aload_n 0, 1) := by decide +kernel
theorem dX3_expectAll_23 : decode cX3_expectAll 23 = .ok (.iconst 1, 1) := by decide +kernel
theorem dX3_expectAll_24 : decode cX3_expectAll 24 = .ok (.putfield 26, 3) := by decide +kernel
theorem dX3_expectAll_27 : decode cX3_expectAll 27 = .ok (.iinc 2 1, 3) := by decide +kernel
theorem dX3_expectAll_30 : decode cX3_expectAll 30 = .ok (.goto (-28), 3) := by decide +kernel
theorem dX3_expectAll_33 : decode cX3_expectAll 33 = .ok (.return_, 1) := by decide +kernel
set_option maxRecDepth 20000 in
theorem ggX3_pick_X3_peek : GoodIn wsX3_pick wsX3_peek := goodIn_r _ [7, 1, 2, 8, 9, 99, 100, 101, 102, 103, 104, 105] (by decide +kernel) (by decide +kernel)
set_option maxRecDepth 20000 in
theorem gX3_pick_X3_peek : GoodIn wsX3_pick (wsV RX3 118 RX3 yX3_peek wsX3_peek) := goodIn_app (goodIn_of _ (by decide +kernel)) ggX3_pick_X3_peek
set_option maxRecDepth 20000 in
theorem ggX3_pick_J0_indexOf_0f7a4 : GoodIn wsX3_pick wsJ0_indexOf_0f7a4 := goodIn_r _ [14, 15, 16, 17, 13, 18, 19, 20, 21, 22, 23, 24, 25, 26, 27, 28, 29, 30, 31, 32, 33, 34, 35, 36, 37, 38, 39, 40, 41, 42, 43, 44, 45, 46, 47, 48, 49, 50, 51, 52, 53, 54, 55, 56, 57, 58, 59, 60, 61, 62, 63, 64, 65, 66, 67, 68, 69, 70, 71, 72, 73, 74, 75, 76, 77, 78, 79, 80, 81, 82, 83, 84, 85, 86, 87, 88, 89, 90, 91, 92, 93, 94, 95, 96, 97, 98] (by decide +kernel) (by decide +kernel)
set_option maxRecDepth 20000 in
theorem gX3_pick_J0_indexOf_0f7a4 : GoodIn wsX3_pick (wsV RX3 129 RJ0 yJ0_indexOf_0f7a4 wsJ0_indexOf_0f7a4) := goodIn_app (goodIn_of _ (by decide +kernel)) ggX3_pick_J0_indexOf_0f7a4
theorem dX3_pick_0 : decode cX3_pick 0 = .ok (.aload_n 0, 1) := by decide +kernel
theorem dX3_pick_1 : decode cX3_pick 1 = .ok (.invokevirtual 118, 3) := by decide +kernel
theorem dX3_pick_4 : decode cX3_pick 4 = .ok (.istore_n 2, 1) := by decide +kernel
theorem dX3_pick_5 : decode cX3_pick 5 = .ok (.iload_n 2, 1) := by decide +kernel
theorem dX3_pick_6 : decode cX3_pick 6 = .ok (.ifCond .ge 7, 3) := by decide +kernel
theorem dX3_pick_9 : decode cX3_pick 9 = .ok (.iconst (-1), 1) := by decide +kernel
theorem dX3_pick_10 : decode cX3_pick 10 = .ok (.goto 9, 3) := by decide +kernel
theorem dX3_pick_13 : decode cX3_pick 13 = .ok (.aload_n 1, 1) := by decide +kernel
theorem dX3_pick_14 : decode cX3_pick 14 = .ok (.iload_n 2, 1) := by decide +kernel
theorem dX3_pick_15 : decode cX3_pick 15 = .ok (.i2c, 1) := by decide +kernel
theorem dX3_pick_16 : decode cX3_pick 16 = .ok (.invokevirtual 129, 3) := by decide +kernel
theorem dX3_pick_19 : decode cX3_pick 19 = .ok (.istore_n 3, 1) := by decide +kernel
theorem dX3_pick_20 : decode cX3_pick 20 = .ok (.iload_n 3, 1) := by decide +kernel
theorem dX3_pick_21 : decode cX3_pick 21 = .ok (.ifCond .ge 10, 3) := by decide +kernel
theorem dX3_pick_24 : decode cX3_pick 24 = .ok (.aload_n 0, 1) := by decide +kernel
theorem dX3_pick_25 : decode cX3_pick 25 = .ok (.iconst 1, 1) := by decide +kernel
theorem dX3_pick_26 : decode cX3_pick 26 = .ok (.putfield 26, 3) := by decide +kernel
theorem dX3_pick_29 : decode cX3_pick 29 = .ok (.iconst 0, 1) := by decide +kernel
theorem dX3_pick_30 : decode cX3_pick 30 = .ok (.ireturn, 1) := by decide +kernel
theorem dX3_pick_31 : decode cX3_pick 31 = .ok (.aload_n 0, 1) := by decide +kernel
theorem dX3_pick_32 : decode cX3_pick 32 = .ok (.dup, 1) := by decide +kernel
theorem dX3_pick_33 : decode cX3_pick 33 = .ok (.getfield 23, 3) := by decide +kernel
theorem dX3_pick_36 : decode cX3_pick 36 = .ok (.iconst 1, 1) := by decide +kernel
theorem dX3_pick_37 : decode cX3_pick 37 = .ok (.iadd, 1) := by decide +kernel
theorem dX3_pick_38 : decode cX3_pick 38 = .ok (.putfield 23, 3) := by decide +kernel
theorem dX3_pick_41 : decode cX3_pick 41 = .ok (.iload_n 3, 1) := by decide +kernel
theorem dX3_pick_42 : decode cX3_pick 42 = .ok (.ireturn, 1) := by decide +kernel
theorem dX3_put_0 : decode cX3_put 0 = .ok (.aload_n 0, 1) := by decide +kernel
theorem dX3_put_1 : decode cX3_put 1 = .ok (.getfield 67, 3) := by decide +kernel
theorem dX3_put_4 : decode cX3_put 4 = .ok (.ifCond .lt 40, 3) := by decide +kernel
theorem dX3_put_7 : decode cX3_put 7 = .ok (.aload_n 0, 1) := by decide +kernel
theorem dX3_put_8 : decode cX3_put 8 = .ok (.getfield 67, 3) := by decide +kernel
theorem dX3_put_11 : decode cX3_put 11 = .ok (.aload_n 0, 1) := by decide +kernel
theorem dX3_put_12 : decode cX3_put 12 = .ok (.getfield 15, 3) := by decide +kernel
theorem dX3_put_15 : decode cX3_put 15 = .ok (.arraylength, 1) := by decide +kernel
theorem dX3_put_16 : decode cX3_put 16 = .ok (.if_icmp .ge 28, 3) := by decide +kernel
theorem dX3_put_19 : decode cX3_put 19 = .ok (.aload_n 0, 1) := by decide +kernel
theorem dX3_put_20 : decode cX3_put 20 = .ok (.getfield 15, 3) := by decide +kernel
theorem dX3_put_23 : decode cX3_put 23 = .ok (.aload_n 0, 1) := by decide +kernel
theorem dX3_put_24 : decode cX3_put 24 = .ok (.getfield 67, 3) := by decide +kernel
theorem dX3_put_27 : decode cX3_put 27 = .ok (.bipush 10, 2) := by decide +kernel
theorem dX3_put_29 : decode cX3_put 29 = .ok (.iload_n 1, 1) := by decide +kernel
theorem dX3_put_30 : decode cX3_put 30 = .ok (.imul, 1) := by decide +kernel
theorem dX3_put_31 : decode cX3_put 31 = .ok (.iload_n 2, 1) := by decide +kernel
theorem dX3_put_32 : decode cX3_put 32 = .ok (.iadd, 1) := by decide +kernel
theorem dX3_put_33 : decode cX3_put 33 = .ok (.iastore, 1) := by decide +kernel
theorem dX3_put_34 : decode cX3_put 34 = .ok (.aload_n 0, 1) := by decide +kernel
theorem dX3_put_35 : decode cX3_put 35 = .ok (.dup, 1) := by decide +kernel
theorem dX3_put_36 : decode cX3_put 36 = .ok (.getfield 67, 3) := by decide +kernel
theorem dX3_put_39 : decode cX3_put 39 = .ok (.iconst 1, 1) := by decide +kernel
theorem dX3_put_40 : decode cX3_put 40 = .ok (.iadd, 1) := by decide +kernel
theorem dX3_put_41 : decode cX3_put 41 = .ok (.putfield 67, 3) := by decide +kernel
theorem dX3_put_44 : decode cX3_put 44 = .ok (.return_, 1) := by decide +kernel
set_option maxRecDepth 20000 in
theorem ggX4_init_Jx4a65c_init_da8c8 : GoodIn wsX4_init wsJx4a65c_init_da8c8 := goodIn_r _ [12, 13, 14, 15, 16, 17, 18, 19, 20, 21, 22, 23, 24, 2, 3, 25, 26, 27] (by decide +kernel) (by decide +kernel)
set_option maxRecDepth 20000 in
theorem gX4_init_Jx4a65c_init_da8c8 : GoodIn wsX4_init (wsJx4a65c_init_da8c8) := ggX4_init_Jx4a65c_init_da8c8
theorem dX4_init_0 : decode cX4_init 0 = .ok (.aload_n 0, 1) := by decide +kernel
theorem dX4_init_1 : decode cX4_init 1 = .ok (.invokespecial 3, 3) := by decide +kernel
theorem dX4_init_4 : decode cX4_init 4 = .ok (.aload_n 0, 1) := by decide +kernel
theorem dX4_init_5 : decode cX4_init 5 = .ok (.new 9, 3) := by decide +kernel
theorem dX4_init_8 : decode cX4_init 8 = .ok (.dup, 1) := by decide +kernel
theorem dX4_init_9 : decode cX4_init 9 = .ok (.invokespecial 11, 3) := by decide +kernel
theorem dX4_init_12 : decode cX4_init 12 = .ok (.putfield 12, 3) := by decide +kernel
theorem dX4_init_15 : decode cX4_init 15 = .ok (.aload_n 0, 1) := by decide +kernel
theorem dX4_init_16 : decode cX4_init 16 = .ok (.iload_n 1, 1) := by decide +kernel
theorem dX4_init_17 : decode cX4_init 17 = .ok (.putfield 18, 3) := by decide +kernel
theorem dX4_init_20 : decode cX4_init 20 = .ok (.aload_n 0, 1) := by decide +kernel
theorem dX4_init_21 : decode cX4_init 21 = .ok (.iload_n 2, 1) := by decide +kernel
theorem dX4_init_22 : decode cX4_init 22 = .ok (.putfield 22, 3) := by decide +kernel
theorem dX4_init_25 : decode cX4_init 25 = .ok (.return_, 1) := by decide +kernel
set_option maxRecDepth 20000 in
theorem ggX4_add_Jx4a65c_size_8abf5 : GoodIn wsX4_add wsJx4a65c_size_8abf5 := goodIn_r _ [10, 11, 76, 77, 78] (by decide +kernel) (by decide +kernel)
set_option maxRecDepth 20000 in
theorem gX4_add_Jx4a65c_size_8abf5 : GoodIn wsX4_add (wsV RX4 25 RJx4a65c yJx4a65c_size_8abf5 wsJx4a65c_size_8abf5) := goodIn_app (goodIn_of _ (by decide +kernel)) ggX4_add_Jx4a65c_size_8abf5
set_option maxRecDepth 20000 in
theorem ggX4_add_Jx4a65c_add_9ea2d : GoodIn wsX4_add wsJx4a65c_add_9ea2d := goodIn_r _ [15, 16, 17, 18, 11, 19, 20, 21, 9, 22, 23, 24, 25, 26, 27, 28, 29, 30, 31, 32, 33, 34, 35, 36, 37, 38, 39, 40, 41, 42, 43, 44, 45, 46, 47, 48, 49, 50, 51, 52, 53, 54, 55, 56, 57, 58, 59, 60, 61, 62, 63, 64, 65, 76, 77, 78] (by decide +kernel) (by decide +kernel)
set_option maxRecDepth 20000 in
theorem gX4_add_Jx4a65c_add_9ea2d : GoodIn wsX4_add (wsV RX4 29 RJx4a65c yJx4a65c_add_9ea2d wsJx4a65c_add_9ea2d) := goodIn_app (goodIn_of _ (by decide +kernel)) ggX4_add_Jx4a65c_add_9ea2d
theorem dX4_add_0 : decode cX4_add 0 = .ok (.iconst 1, 1) := by decide +kernel
theorem dX4_add_1 : decode cX4_add 1 = .ok (.aload_n 0, 1) := by decide +kernel
theorem dX4_add_2 : decode cX4_add 2 = .ok (.getfield 12, 3) := by decide +kernel
theorem dX4_add_5 : decode cX4_add 5 = .ok (.invokevirtual 25, 3) := by decide +kernel
theorem dX4_add_8 : decode cX4_add 8 = .ok (.ishl, 1) := by decide +kernel
theorem dX4_add_9 : decode cX4_add 9 = .ok (.istore_n 2, 1) := by decide +kernel
theorem dX4_add_10 : decode cX4_add 10 = .ok (.aload_n 0, 1) := by decide +kernel
theorem dX4_add_11 : decode cX4_add 11 = .ok (.getfield 12, 3) := by decide +kernel
theorem dX4_add_14 : decode cX4_add 14 = .ok (.aload_n 1, 1) := by decide +kernel
theorem dX4_add_15 : decode cX4_add 15 = .ok (.invokevirtual 29, 3) := by decide +kernel
theorem dX4_add_18 : decode cX4_add 18 = .ok (.pop, 1) := by decide +kernel
theorem dX4_add_19 : decode cX4_add 19 = .ok (.aload_n 1, 1) := by decide +kernel
theorem dX4_add_20 : decode cX4_add 20 = .ok (.getfield 33, 3) := by decide +kernel
theorem dX4_add_23 : decode cX4_add 23 = .ok (.ifCond .ne 16, 3) := by decide +kernel
theorem dX4_add_26 : decode cX4_add 26 = .ok (.aload_n 0, 1) := by decide +kernel
theorem dX4_add_27 : decode cX4_add 27 = .ok (.dup, 1) := by decide +kernel
theorem dX4_add_28 : decode cX4_add 28 = .ok (.getfield 38, 3) := by decide +kernel
theorem dX4_add_31 : decode cX4_add 31 = .ok (.iload_n 2, 1) := by decide +kernel
theorem dX4_add_32 : decode cX4_add 32 = .ok (.ior, 1) := by decide +kernel
theorem dX4_add_33 : decode cX4_add 33 = .ok (.putfield 38, 3) := by decide +kernel
theorem dX4_add_36 : decode cX4_add 36 = .ok (.goto 42, 3) := by decide +kernel
theorem dX4_add_39 : decode cX4_add 39 = .ok (.aload_n 1, 1) := by decide +kernel
theorem dX4_add_40 : decode cX4_add 40 = .ok (.getfield 33, 3) := by decide +kernel
theorem dX4_add_43 : decode cX4_add 43 = .ok (.iconst 1, 1) := by decide +kernel
theorem dX4_add_44 : decode cX4_add 44 = .ok (.if_icmp .ne 16, 3) := by decide +kernel
theorem dX4_add_47 : decode cX4_add 47 = .ok (.aload_n 0, 1) := by decide +kernel
theorem dX4_add_48 : decode cX4_add 48 = .ok (.dup, 1) := by decide +kernel
theorem dX4_add_49 : decode cX4_add 49 = .ok (.getfield 41, 3) := by decide +kernel
theorem dX4_add_52 : decode cX4_add 52 = .ok (.iload_n 2, 1) := by decide +kernel
theorem dX4_add_53 : decode cX4_add 53 = .ok (.ior, 1) := by decide +kernel
theorem dX4_add_54 : decode cX4_add 54 = .ok (.putfield 41, 3) := by decide +kernel
theorem dX4_add_57 : decode cX4_add 57 = .ok (.goto 21, 3) := by decide +kernel
theorem dX4_add_60 : decode cX4_add 60 = .ok (.aload_n 1, 1) := by decide +kernel
theorem dX4_add_61 : decode cX4_add 61 = .ok (.getfield 33, 3) := by decide +kernel
theorem dX4_add_64 : decode cX4_add 64 = .ok (.iconst 3, 1) := by decide +kernel
theorem dX4_add_65 : decode cX4_add 65 = .ok (.if_icmp .ne 13, 3) := by decide +kernel
theorem dX4_add_68 : decode cX4_add 68 = .ok (.aload_n 0, 1) := by decide +kernel
theorem dX4_add_69 : decode cX4_add 69 = .ok (.dup, 1) := by decide +kernel
theorem dX4_add_70 : decode cX4_add 70 = .ok (.getfield 44, 3) := by decide +kernel
theorem dX4_add_73 : decode cX4_add 73 = .ok (.iload_n 2, 1) := by decide +kernel
theorem dX4_add_74 : decode cX4_add 74 = .ok (.ior, 1) := by decide +kernel
theorem dX4_add_75 : decode cX4_add 75 = .ok (.putfield 44, 3) := by decide +kernel
theorem dX4_add_78 : decode cX4_add 78 = .ok (.return_, 1) := by decide +kernel
set_option maxRecDepth 20000 in
theorem ggX4_holding_J6_bitCount_0f7a4 : GoodIn wsX4_holding wsJ6_bitCount_0f7a4 := goodIn_r _ [10, 11, 12, 13] (by decide +kernel) (by decide +kernel)
set_option maxRecDepth 20000 in
theorem gX4_holding_J6_bitCount_0f7a4 : GoodIn wsX4_holding (va_wsS RX4 63 yJ6_bitCount_0f7a4 wsJ6_bitCount_0f7a4) := goodIn_app (goodIn_of _ (by decide +kernel)) ggX4_holding_J6_bitCount_0f7a4
set_option maxRecDepth 20000 in
theorem ggX4_holding_Jx4a65c_size_8abf5 : GoodIn wsX4_holding wsJx4a65c_size_8abf5 := goodIn_r _ [18, 19, 71, 72, 73] (by decide +kernel) (by decide +kernel)
set_option maxRecDepth 20000 in
theorem gX4_holding_Jx4a65c_size_8abf5 : GoodIn wsX4_holding (wsV RX4 25 RJx4a65c yJx4a65c_size_8abf5 wsJx4a65c_size_8abf5) := goodIn_app (goodIn_of _ (by decide +kernel)) ggX4_holding_Jx4a65c_size_8abf5
set_option maxRecDepth 20000 in
theorem ggX4_holding_Jx4a65c_get_915e3 : GoodIn wsX4_holding wsJx4a65c_get_915e3 := goodIn_r _ [23, 19, 24, 25, 26, 27, 28, 29, 30, 31, 32, 33, 34, 17, 35, 36, 71, 72, 73] (by decide +kernel) (by decide +kernel)
set_option maxRecDepth 20000 in
theorem gX4_holding_Jx4a65c_get_915e3 : GoodIn wsX4_holding (wsV RX4 69 RJx4a65c yJx4a65c_get_915e3 wsJx4a65c_get_915e3) := goodIn_app (goodIn_of _ (by decide +kernel)) ggX4_holding_Jx4a65c_get_915e3
set_option maxRecDepth 20000 in
theorem ggX4_holding_X1_holds : GoodIn wsX4_holding wsX1_holds := goodIn_r _ [41, 42, 43, 44, 40, 45, 46, 47, 48, 49, 50, 74, 75, 76, 51, 52, 53, 54, 55, 56, 57, 58, 59, 60] (by decide +kernel) (by decide +kernel)
set_option maxRecDepth 20000 in
theorem gX4_holding_X1_holds : GoodIn wsX4_holding (wsV RX4 76 RX1 yX1_holds wsX1_holds) := goodIn_app (goodIn_of _ (by decide +kernel)) ggX4_holding_X1_holds
theorem dX4_holding_0 : decode cX4_holding 0 = .ok (.aload_n 1, 1) := by decide +kernel
theorem dX4_holding_1 : decode cX4_holding 1 = .ok (.getfield 47, 3) := by decide +kernel
theorem dX4_holding_4 : decode cX4_holding 4 = .ok (.getfield 53, 3) := by decide +kernel
theorem dX4_holding_7 : decode cX4_holding 7 = .ok (.aload_n 3, 1) := by decide +kernel
theorem dX4_holding_8 : decode cX4_holding 8 = .ok (.getfield 58, 3) := by decide +kernel
theorem dX4_holding_11 : decode cX4_holding 11 = .ok (.iand, 1) := by decide +kernel
theorem dX4_holding_12 : decode cX4_holding 12 = .ok (.invokestatic 63, 3) := by decide +kernel
theorem dX4_holding_15 : decode cX4_holding 15 = .ok (.istore 4, 2) := by decide +kernel
theorem dX4_holding_17 : decode cX4_holding 17 = .ok (.iconst 0, 1) := by decide +kernel
theorem dX4_holding_18 : decode cX4_holding 18 = .ok (.istore 5, 2) := by decide +kernel
theorem dX4_holding_20 : decode cX4_holding 20 = .ok (.iconst 0, 1) := by decide +kernel
theorem dX4_holding_21 : decode cX4_holding 21 = .ok (.istore 6, 2) := by decide +kernel
theorem dX4_holding_23 : decode cX4_holding 23 = .ok (.iload 6, 2) := by decide +kernel
theorem dX4_holding_25 : decode cX4_holding 25 = .ok (.aload_n 0, 1) := by decide +kernel
theorem dX4_holding_26 : decode cX4_holding 26 = .ok (.getfield 12, 3) := by decide +kernel
theorem dX4_holding_29 : decode cX4_holding 29 = .ok (.invokevirtual 25, 3) := by decide +kernel
theorem dX4_holding_32 : decode cX4_holding 32 = .ok (.if_icmp .ge 44, 3) := by decide +kernel
theorem dX4_holding_35 : decode cX4_holding 35 = .ok (.aload_n 0, 1) := by decide +kernel
theorem dX4_holding_36 : decode cX4_holding 36 = .ok (.getfield 12, 3) := by decide +kernel
theorem dX4_holding_39 : decode cX4_holding 39 = .ok (.iload 6, 2) := by decide +kernel
theorem dX4_holding_41 : decode cX4_holding 41 = .ok (.invokevirtual 69, 3) := by decide +kernel
theorem dX4_holding_44 : decode cX4_holding 44 = .ok (.checkcast 34, 3) := by decide +kernel
theorem dX4_holding_47 : decode cX4_holding 47 = .ok (.aload_n 1, 1) := by decide +kernel
theorem dX4_holding_48 : decode cX4_holding 48 = .ok (.iload_n 2, 1) := by decide +kernel
theorem dX4_holding_49 : decode cX4_holding 49 = .ok (.aload_n 3, 1) := by decide +kernel
theorem dX4_holding_50 : decode cX4_holding 50 = .ok (.getfield 73, 3) := by decide +kernel
theorem dX4_holding_53 : decode cX4_holding 53 = .ok (.iload 4, 2) := by decide +kernel
theorem dX4_holding_55 : decode cX4_holding 55 = .ok (.invokevirtual 76, 3) := by decide +kernel
theorem dX4_holding_58 : decode cX4_holding 58 = .ok (.ifCond .eq 12, 3) := by decide +kernel
theorem dX4_holding_61 : decode cX4_holding 61 = .ok (.iload 5, 2) := by decide +kernel
theorem dX4_holding_63 : decode cX4_holding 63 = .ok (.iconst 1, 1) := by decide +kernel
theorem dX4_holding_64 : decode cX4_holding 64 = .ok (.iload 6, 2) := by decide +kernel
theorem dX4_holding_66 : decode cX4_holding 66 = .ok (.ishl, 1) := by decide +kernel
theorem dX4_holding_67 : decode cX4_holding 67 = .ok (.ior, 1) := by decide +kernel
theorem dX4_holding_68 : decode cX4_holding 68 = .ok (.istore 5, 2) := by decide +kernel
theorem dX4_holding_70 : decode cX4_holding 70 = .ok (.iinc 6 1, 3) := by decide +kernel
theorem dX4_holding_73 : decode cX4_holding 73 = .ok (.goto (-50), 3) := by decide +kernel
theorem dX4_holding_76 : decode cX4_holding 76 = .ok (.iload 5, 2) := by decide +kernel
theorem dX4_holding_78 : decode cX4_holding 78 = .ok (.ireturn, 1) := by decide +kernel
set_option maxRecDepth 20000 in
theorem ggX4_keepsOut_X8_has : GoodIn wsX4_keepsOut wsX8_has := goodIn_r _ [8] (by decide +kernel) (by decide +kernel)
set_option maxRecDepth 20000 in
theorem gX4_keepsOut_X8_has_n83 : GoodIn wsX4_keepsOut (wsX8_has) := ggX4_keepsOut_X8_has
set_option maxRecDepth 20000 in
theorem ggX4_keepsOut_X4_unmetNeeds : GoodIn wsX4_keepsOut wsX4_unmetNeeds := goodIn_r _ [13, 14, 15, 16, 17, 18, 19, 20, 21, 22, 23, 24, 25, 26, 27, 28, 29, 30, 31, 32, 33, 34, 35, 36, 37, 38, 39, 40, 41, 6, 7, 8, 42, 43, 44, 45, 46, 47, 48, 52, 53, 54, 49, 50, 51, 55, 56, 57] (by decide +kernel) (by decide +kernel)
set_option maxRecDepth 20000 in
theorem gX4_keepsOut_X4_unmetNeeds : GoodIn wsX4_keepsOut (wsV RX4 87 RX4 yX4_unmetNeeds wsX4_unmetNeeds) := goodIn_app (goodIn_of _ (by decide +kernel)) ggX4_keepsOut_X4_unmetNeeds
theorem dX4_keepsOut_0 : decode cX4_keepsOut 0 = .ok (.iload_n 1, 1) := by decide +kernel
theorem dX4_keepsOut_1 : decode cX4_keepsOut 1 = .ok (.aload_n 0, 1) := by decide +kernel
theorem dX4_keepsOut_2 : decode cX4_keepsOut 2 = .ok (.getfield 38, 3) := by decide +kernel
theorem dX4_keepsOut_5 : decode cX4_keepsOut 5 = .ok (.iand, 1) := by decide +kernel
theorem dX4_keepsOut_6 : decode cX4_keepsOut 6 = .ok (.ifCond .eq 14, 3) := by decide +kernel
theorem dX4_keepsOut_9 : decode cX4_keepsOut 9 = .ok (.iload_n 1, 1) := by decide +kernel
theorem dX4_keepsOut_10 : decode cX4_keepsOut 10 = .ok (.aload_n 0, 1) := by decide +kernel
theorem dX4_keepsOut_11 : decode cX4_keepsOut 11 = .ok (.getfield 41, 3) := by decide +kernel
theorem dX4_keepsOut_14 : decode cX4_keepsOut 14 = .ok (.iand, 1) := by decide +kernel
theorem dX4_keepsOut_15 : decode cX4_keepsOut 15 = .ok (.ifCond .ne 5, 3) := by decide +kernel
theorem dX4_keepsOut_18 : decode cX4_keepsOut 18 = .ok (.iconst 1, 1) := by decide +kernel
theorem dX4_keepsOut_19 : decode cX4_keepsOut 19 = .ok (.ireturn, 1) := by decide +kernel
theorem dX4_keepsOut_20 : decode cX4_keepsOut 20 = .ok (.iload_n 1, 1) := by decide +kernel
theorem dX4_keepsOut_21 : decode cX4_keepsOut 21 = .ok (.aload_n 0, 1) := by decide +kernel
theorem dX4_keepsOut_22 : decode cX4_keepsOut 22 = .ok (.getfield 44, 3) := by decide +kernel
theorem dX4_keepsOut_25 : decode cX4_keepsOut 25 = .ok (.iand, 1) := by decide +kernel
theorem dX4_keepsOut_26 : decode cX4_keepsOut 26 = .ok (.ifCond .eq 19, 3) := by decide +kernel
theorem dX4_keepsOut_29 : decode cX4_keepsOut 29 = .ok (.aload_n 2, 1) := by decide +kernel
theorem dX4_keepsOut_30 : decode cX4_keepsOut 30 = .ok (.getfield 80, 3) := by decide +kernel
theorem dX4_keepsOut_33 : decode cX4_keepsOut 33 = .ok (.aload_n 0, 1) := by decide +kernel
theorem dX4_keepsOut_34 : decode cX4_keepsOut 34 = .ok (.getfield 18, 3) := by decide +kernel
theorem dX4_keepsOut_37 : decode cX4_keepsOut 37 = .ok (.invokestatic 83, 3) := by decide +kernel
theorem dX4_keepsOut_40 : decode cX4_keepsOut 40 = .ok (.ifCond .ne 5, 3) := by decide +kernel
theorem dX4_keepsOut_43 : decode cX4_keepsOut 43 = .ok (.iconst 1, 1) := by decide +kernel
theorem dX4_keepsOut_44 : decode cX4_keepsOut 44 = .ok (.ireturn, 1) := by decide +kernel
theorem dX4_keepsOut_45 : decode cX4_keepsOut 45 = .ok (.iload_n 1, 1) := by decide +kernel
theorem dX4_keepsOut_46 : decode cX4_keepsOut 46 = .ok (.aload_n 0, 1) := by decide +kernel
theorem dX4_keepsOut_47 : decode cX4_keepsOut 47 = .ok (.aload_n 2, 1) := by decide +kernel
theorem dX4_keepsOut_48 : decode cX4_keepsOut 48 = .ok (.invokevirtual 87, 3) := by decide +kernel
theorem dX4_keepsOut_51 : decode cX4_keepsOut 51 = .ok (.iand, 1) := by decide +kernel
theorem dX4_keepsOut_52 : decode cX4_keepsOut 52 = .ok (.ifCond .eq 7, 3) := by decide +kernel
theorem dX4_keepsOut_55 : decode cX4_keepsOut 55 = .ok (.iconst 1, 1) := by decide +kernel
theorem dX4_keepsOut_56 : decode cX4_keepsOut 56 = .ok (.goto 4, 3) := by decide +kernel
theorem dX4_keepsOut_59 : decode cX4_keepsOut 59 = .ok (.iconst 0, 1) := by decide +kernel
theorem dX4_keepsOut_60 : decode cX4_keepsOut 60 = .ok (.ireturn, 1) := by decide +kernel
set_option maxRecDepth 20000 in
theorem ggX4_unmetNeeds_Jx4a65c_size_8abf5 : GoodIn wsX4_unmetNeeds wsJx4a65c_size_8abf5 := goodIn_r _ [10, 11, 45, 46, 47] (by decide +kernel) (by decide +kernel)
set_option maxRecDepth 20000 in
theorem gX4_unmetNeeds_Jx4a65c_size_8abf5 : GoodIn wsX4_unmetNeeds (wsV RX4 25 RJx4a65c yJx4a65c_size_8abf5 wsJx4a65c_size_8abf5) := goodIn_app (goodIn_of _ (by decide +kernel)) ggX4_unmetNeeds_Jx4a65c_size_8abf5
set_option maxRecDepth 20000 in
theorem ggX4_unmetNeeds_Jx4a65c_get_915e3 : GoodIn wsX4_unmetNeeds wsJx4a65c_get_915e3 := goodIn_r _ [15, 11, 16, 17, 18, 19, 20, 21, 22, 23, 24, 25, 26, 9, 27, 28, 45, 46, 47] (by decide +kernel) (by decide +kernel)
set_option maxRecDepth 20000 in
theorem gX4_unmetNeeds_Jx4a65c_get_915e3 : GoodIn wsX4_unmetNeeds (wsV RX4 69 RJx4a65c yJx4a65c_get_915e3 wsJx4a65c_get_915e3) := goodIn_app (goodIn_of _ (by decide +kernel)) ggX4_unmetNeeds_Jx4a65c_get_915e3
set_option maxRecDepth 20000 in
theorem ggX4_unmetNeeds_X8_has : GoodIn wsX4_unmetNeeds wsX8_has := goodIn_r _ [31] (by decide +kernel) (by decide +kernel)
set_option maxRecDepth 20000 in
theorem gX4_unmetNeeds_X8_has_n83 : GoodIn wsX4_unmetNeeds (wsX8_has) := ggX4_unmetNeeds_X8_has
theorem dX4_unmetNeeds_0 : decode cX4_unmetNeeds 0 = .ok (.iconst 0, 1) := by decide +kernel
theorem dX4_unmetNeeds_1 : decode cX4_unmetNeeds 1 = .ok (.istore_n 2, 1) := by decide +kernel
theorem dX4_unmetNeeds_2 : decode cX4_unmetNeeds 2 = .ok (.iconst 0, 1) := by decide +kernel
theorem dX4_unmetNeeds_3 : decode cX4_unmetNeeds 3 = .ok (.istore_n 3, 1) := by decide +kernel
theorem dX4_unmetNeeds_4 : decode cX4_unmetNeeds 4 = .ok (.iload_n 3, 1) := by decide +kernel
theorem dX4_unmetNeeds_5 : decode cX4_unmetNeeds 5 = .ok (.aload_n 0, 1) := by decide +kernel
theorem dX4_unmetNeeds_6 : decode cX4_unmetNeeds 6 = .ok (.getfield 12, 3) := by decide +kernel
theorem dX4_unmetNeeds_9 : decode cX4_unmetNeeds 9 = .ok (.invokevirtual 25, 3) := by decide +kernel
theorem dX4_unmetNeeds_12 : decode cX4_unmetNeeds 12 = .ok (.if_icmp .ge 52, 3) := by decide +kernel
theorem dX4_unmetNeeds_15 : decode cX4_unmetNeeds 15 = .ok (.aload_n 0, 1) := by decide +kernel
theorem dX4_unmetNeeds_16 : decode cX4_unmetNeeds 16 = .ok (.getfield 12, 3) := by decide +kernel
theorem dX4_unmetNeeds_19 : decode cX4_unmetNeeds 19 = .ok (.iload_n 3, 1) := by decide +kernel
theorem dX4_unmetNeeds_20 : decode cX4_unmetNeeds 20 = .ok (.invokevirtual 69, 3) := by decide +kernel
theorem dX4_unmetNeeds_23 : decode cX4_unmetNeeds 23 = .ok (.checkcast 34, 3) := by decide +kernel
theorem dX4_unmetNeeds_26 : decode cX4_unmetNeeds 26 = .ok (.astore 4, 2) := by decide +kernel
theorem dX4_unmetNeeds_28 : decode cX4_unmetNeeds 28 = .ok (.aload 4, 2) := by decide +kernel
theorem dX4_unmetNeeds_30 : decode cX4_unmetNeeds 30 = .ok (.getfield 33, 3) := by decide +kernel
theorem dX4_unmetNeeds_33 : decode cX4_unmetNeeds 33 = .ok (.iconst 2, 1) := by decide +kernel
theorem dX4_unmetNeeds_34 : decode cX4_unmetNeeds 34 = .ok (.if_icmp .ne 24, 3) := by decide +kernel
theorem dX4_unmetNeeds_37 : decode cX4_unmetNeeds 37 = .ok (.aload_n 1, 1) := by decide +kernel
theorem dX4_unmetNeeds_38 : decode cX4_unmetNeeds 38 = .ok (.getfield 73, 3) := by decide +kernel
theorem dX4_unmetNeeds_41 : decode cX4_unmetNeeds 41 = .ok (.aload 4, 2) := by decide +kernel
theorem dX4_unmetNeeds_43 : decode cX4_unmetNeeds 43 = .ok (.getfield 91, 3) := by decide +kernel
theorem dX4_unmetNeeds_46 : decode cX4_unmetNeeds 46 = .ok (.invokestatic 83, 3) := by decide +kernel
theorem dX4_unmetNeeds_49 : decode cX4_unmetNeeds 49 = .ok (.ifCond .ne 9, 3) := by decide +kernel
theorem dX4_unmetNeeds_52 : decode cX4_unmetNeeds 52 = .ok (.iload_n 2, 1) := by decide +kernel
theorem dX4_unmetNeeds_53 : decode cX4_unmetNeeds 53 = .ok (.iconst 1, 1) := by decide +kernel
theorem dX4_unmetNeeds_54 : decode cX4_unmetNeeds 54 = .ok (.iload_n 3, 1) := by decide +kernel
theorem dX4_unmetNeeds_55 : decode cX4_unmetNeeds 55 = .ok (.ishl, 1) := by decide +kernel
theorem dX4_unmetNeeds_56 : decode cX4_unmetNeeds 56 = .ok (.ior, 1) := by decide +kernel
theorem dX4_unmetNeeds_57 : decode cX4_unmetNeeds 57 = .ok (.istore_n 2, 1) := by decide +kernel
theorem dX4_unmetNeeds_58 : decode cX4_unmetNeeds 58 = .ok (.iinc 3 1, 3) := by decide +kernel
theorem dX4_unmetNeeds_61 : decode cX4_unmetNeeds 61 = .ok (.goto (-57), 3) := by decide +kernel
theorem dX4_unmetNeeds_64 : decode cX4_unmetNeeds 64 = .ok (.iload_n 2, 1) := by decide +kernel
theorem dX4_unmetNeeds_65 : decode cX4_unmetNeeds 65 = .ok (.ireturn, 1) := by decide +kernel
set_option maxRecDepth 20000 in
theorem ggX4_clauseOfWay_J6_numberOfTrailingZeros_0f7a4 : GoodIn wsX4_clauseOfWay wsJ6_numberOfTrailingZeros_0f7a4 := goodIn_r _ [6, 7] (by decide +kernel) (by decide +kernel)
set_option maxRecDepth 20000 in
theorem gX4_clauseOfWay_J6_numberOfTrailingZeros_0f7a4 : GoodIn wsX4_clauseOfWay (va_wsS RX4 94 yJ6_numberOfTrailingZeros_0f7a4 wsJ6_numberOfTrailingZeros_0f7a4) := goodIn_app (goodIn_of _ (by decide +kernel)) ggX4_clauseOfWay_J6_numberOfTrailingZeros_0f7a4
theorem dX4_clauseOfWay_0 : decode cX4_clauseOfWay 0 = .ok (.iload_n 1, 1) := by decide +kernel
theorem dX4_clauseOfWay_1 : decode cX4_clauseOfWay 1 = .ok (.aload_n 0, 1) := by decide +kernel
theorem dX4_clauseOfWay_2 : decode cX4_clauseOfWay 2 = .ok (.getfield 38, 3) := by decide +kernel
theorem dX4_clauseOfWay_5 : decode cX4_clauseOfWay 5 = .ok (.iand, 1) := by decide +kernel
theorem dX4_clauseOfWay_6 : decode cX4_clauseOfWay 6 = .ok (.ifCond .eq 12, 3) := by decide +kernel
theorem dX4_clauseOfWay_9 : decode cX4_clauseOfWay 9 = .ok (.iload_n 1, 1) := by decide +kernel
theorem dX4_clauseOfWay_10 : decode cX4_clauseOfWay 10 = .ok (.aload_n 0, 1) := by decide +kernel
theorem dX4_clauseOfWay_11 : decode cX4_clauseOfWay 11 = .ok (.getfield 41, 3) := by decide +kernel
theorem dX4_clauseOfWay_14 : decode cX4_clauseOfWay 14 = .ok (.iand, 1) := by decide +kernel
theorem dX4_clauseOfWay_15 : decode cX4_clauseOfWay 15 = .ok (.ifCond .ne 5, 3) := by decide +kernel
theorem dX4_clauseOfWay_18 : decode cX4_clauseOfWay 18 = .ok (.iconst (-1), 1) := by decide +kernel
theorem dX4_clauseOfWay_19 : decode cX4_clauseOfWay 19 = .ok (.ireturn, 1) := by decide +kernel
theorem dX4_clauseOfWay_20 : decode cX4_clauseOfWay 20 = .ok (.iload_n 1, 1) := by decide +kernel
theorem dX4_clauseOfWay_21 : decode cX4_clauseOfWay 21 = .ok (.aload_n 0, 1) := by decide +kernel
theorem dX4_clauseOfWay_22 : decode cX4_clauseOfWay 22 = .ok (.getfield 41, 3) := by decide +kernel
theorem dX4_clauseOfWay_25 : decode cX4_clauseOfWay 25 = .ok (.iand, 1) := by decide +kernel
theorem dX4_clauseOfWay_26 : decode cX4_clauseOfWay 26 = .ok (.invokestatic 94, 3) := by decide +kernel
theorem dX4_clauseOfWay_29 : decode cX4_clauseOfWay 29 = .ok (.ireturn, 1) := by decide +kernel
theorem dX5_init_0 : decode cX5_init 0 = .ok (.aload_n 0, 1) := by decide +kernel
theorem dX5_init_1 : decode cX5_init 1 = .ok (.invokespecial 1, 3) := by decide +kernel
theorem dX5_init_4 : decode cX5_init 4 = .ok (.return_, 1) := by decide +kernel
theorem dX6_init_0 : decode cX6_init 0 = .ok (.aload_n 0, 1) := by decide +kernel
theorem dX6_init_1 : decode cX6_init 1 = .ok (.invokespecial 3, 3) := by decide +kernel
theorem dX6_init_4 : decode cX6_init 4 = .ok (.aload_n 0, 1) := by decide +kernel
theorem dX6_init_5 : decode cX6_init 5 = .ok (.bipush 60, 2) := by decide +kernel
theorem dX6_init_7 : decode cX6_init 7 = .ok (.newarray .long, 2) := by decide +kernel
theorem dX6_init_9 : decode cX6_init 9 = .ok (.putfield 9, 3) := by decide +kernel
theorem dX6_init_12 : decode cX6_init 12 = .ok (.aload_n 0, 1) := by decide +kernel
theorem dX6_init_13 : decode cX6_init 13 = .ok (.iconst (-1), 1) := by decide +kernel
theorem dX6_init_14 : decode cX6_init 14 = .ok (.putfield 15, 3) := by decide +kernel
theorem dX6_init_17 : decode cX6_init 17 = .ok (.return_, 1) := by decide +kernel
set_option maxRecDepth 20000 in
theorem ggX6_become_J7_fill_d0a16 : GoodIn wsX6_become wsJ7_fill_d0a16 := goodIn_r _ [7] (by decide +kernel) (by decide +kernel)
set_option maxRecDepth 20000 in
theorem gX6_become_J7_fill_d0a16 : GoodIn wsX6_become (va_wsS RX6 22 yJ7_fill_d0a16 wsJ7_fill_d0a16) := goodIn_app (goodIn_of _ (by decide +kernel)) ggX6_become_J7_fill_d0a16
theorem dX6_become_0 : decode cX6_become 0 = .ok (.aload_n 0, 1) := by decide +kernel
theorem dX6_become_1 : decode cX6_become 1 = .ok (.iload_n 1, 1) := by decide +kernel
theorem dX6_become_2 : decode cX6_become 2 = .ok (.putfield 15, 3) := by decide +kernel
theorem dX6_become_5 : decode cX6_become 5 = .ok (.aload_n 0, 1) := by decide +kernel
theorem dX6_become_6 : decode cX6_become 6 = .ok (.iload_n 2, 1) := by decide +kernel
theorem dX6_become_7 : decode cX6_become 7 = .ok (.putfield 19, 3) := by decide +kernel
theorem dX6_become_10 : decode cX6_become 10 = .ok (.aload_n 0, 1) := by decide +kernel
theorem dX6_become_11 : decode cX6_become 11 = .ok (.getfield 9, 3) := by decide +kernel
theorem dX6_become_14 : decode cX6_become 14 = .ok (.lconst 0, 1) := by decide +kernel
theorem dX6_become_15 : decode cX6_become 15 = .ok (.invokestatic 22, 3) := by decide +kernel
theorem dX6_become_18 : decode cX6_become 18 = .ok (.return_, 1) := by decide +kernel
theorem dX6_hasPlace_0 : decode cX6_hasPlace 0 = .ok (.iload_n 1, 1) := by decide +kernel
theorem dX6_hasPlace_1 : decode cX6_hasPlace 1 = .ok (.ifCond .lt 24, 3) := by decide +kernel
theorem dX6_hasPlace_4 : decode cX6_hasPlace 4 = .ok (.iload_n 1, 1) := by decide +kernel
theorem dX6_hasPlace_5 : decode cX6_hasPlace 5 = .ok (.aload_n 0, 1) := by decide +kernel
theorem dX6_hasPlace_6 : decode cX6_hasPlace 6 = .ok (.getfield 19, 3) := by decide +kernel
theorem dX6_hasPlace_9 : decode cX6_hasPlace 9 = .ok (.if_icmp .ge 16, 3) := by decide +kernel
theorem dX6_hasPlace_12 : decode cX6_hasPlace 12 = .ok (.iload_n 1, 1) := by decide +kernel
theorem dX6_hasPlace_13 : decode cX6_hasPlace 13 = .ok (.aload_n 0, 1) := by decide +kernel
theorem dX6_hasPlace_14 : decode cX6_hasPlace 14 = .ok (.getfield 9, 3) := by decide +kernel
theorem dX6_hasPlace_17 : decode cX6_hasPlace 17 = .ok (.arraylength, 1) := by decide +kernel
theorem dX6_hasPlace_18 : decode cX6_hasPlace 18 = .ok (.if_icmp .ge 7, 3) := by decide +kernel
theorem dX6_hasPlace_21 : decode cX6_hasPlace 21 = .ok (.iconst 1, 1) := by decide +kernel
theorem dX6_hasPlace_22 : decode cX6_hasPlace 22 = .ok (.goto 4, 3) := by decide +kernel
theorem dX6_hasPlace_25 : decode cX6_hasPlace 25 = .ok (.iconst 0, 1) := by decide +kernel
theorem dX6_hasPlace_26 : decode cX6_hasPlace 26 = .ok (.ireturn, 1) := by decide +kernel
theorem dX6_hasStretch_0 : decode cX6_hasStretch 0 = .ok (.iload_n 2, 1) := by decide +kernel
theorem dX6_hasStretch_1 : decode cX6_hasStretch 1 = .ok (.ifCond .lt 41, 3) := by decide +kernel
theorem dX6_hasStretch_4 : decode cX6_hasStretch 4 = .ok (.iload_n 1, 1) := by decide +kernel
theorem dX6_hasStretch_5 : decode cX6_hasStretch 5 = .ok (.ifCond .lt 37, 3) := by decide +kernel
theorem dX6_hasStretch_8 : decode cX6_hasStretch 8 = .ok (.iload_n 1, 1) := by decide +kernel
theorem dX6_hasStretch_9 : decode cX6_hasStretch 9 = .ok (.aload_n 0, 1) := by decide +kernel
theorem dX6_hasStretch_10 : decode cX6_hasStretch 10 = .ok (.getfield 19, 3) := by decide +kernel
theorem dX6_hasStretch_13 : decode cX6_hasStretch 13 = .ok (.if_icmp .gt 29, 3) := by decide +kernel
theorem dX6_hasStretch_16 : decode cX6_hasStretch 16 = .ok (.iload_n 2, 1) := by decide +kernel
theorem dX6_hasStretch_17 : decode cX6_hasStretch 17 = .ok (.aload_n 0, 1) := by decide +kernel
theorem dX6_hasStretch_18 : decode cX6_hasStretch 18 = .ok (.getfield 19, 3) := by decide +kernel
theorem dX6_hasStretch_21 : decode cX6_hasStretch 21 = .ok (.iload_n 1, 1) := by decide +kernel
theorem dX6_hasStretch_22 : decode cX6_hasStretch 22 = .ok (.isub, 1) := by decide +kernel
theorem dX6_hasStretch_23 : decode cX6_hasStretch 23 = .ok (.if_icmp .gt 19, 3) := by decide +kernel
theorem dX6_hasStretch_26 : decode cX6_hasStretch 26 = .ok (.aload_n 0, 1) := by decide +kernel
theorem dX6_hasStretch_27 : decode cX6_hasStretch 27 = .ok (.getfield 19, 3) := by decide +kernel
theorem dX6_hasStretch_30 : decode cX6_hasStretch 30 = .ok (.aload_n 0, 1) := by decide +kernel
theorem dX6_hasStretch_31 : decode cX6_hasStretch 31 = .ok (.getfield 9, 3) := by decide +kernel
theorem dX6_hasStretch_34 : decode cX6_hasStretch 34 = .ok (.arraylength, 1) := by decide +kernel
theorem dX6_hasStretch_35 : decode cX6_hasStretch 35 = .ok (.if_icmp .gt 7, 3) := by decide +kernel
theorem dX6_hasStretch_38 : decode cX6_hasStretch 38 = .ok (.iconst 1, 1) := by decide +kernel
theorem dX6_hasStretch_39 : decode cX6_hasStretch 39 = .ok (.goto 4, 3) := by decide +kernel
theorem dX6_hasStretch_42 : decode cX6_hasStretch 42 = .ok (.iconst 0, 1) := by decide +kernel
theorem dX6_hasStretch_43 : decode cX6_hasStretch 43 = .ok (.ireturn, 1) := by decide +kernel
set_option maxRecDepth 20000 in
theorem ggX6_get_X6_hasPlace : GoodIn wsX6_get wsX6_hasPlace := goodIn_r _ [7, 8, 1, 9, 10, 11] (by decide +kernel) (by decide +kernel)
set_option maxRecDepth 20000 in
theorem gX6_get_X6_hasPlace : GoodIn wsX6_get (wsV RX6 28 RX6 yX6_hasPlace wsX6_hasPlace) := goodIn_app (goodIn_of _ (by decide +kernel)) ggX6_get_X6_hasPlace
theorem dX6_get_0 : decode cX6_get 0 = .ok (.aload_n 0, 1) := by decide +kernel
theorem dX6_get_1 : decode cX6_get 1 = .ok (.iload_n 1, 1) := by decide +kernel
theorem dX6_get_2 : decode cX6_get 2 = .ok (.invokevirtual 28, 3) := by decide +kernel
theorem dX6_get_5 : decode cX6_get 5 = .ok (.ifCond .eq 12, 3) := by decide +kernel
theorem dX6_get_8 : decode cX6_get 8 = .ok (.aload_n 0, 1) := by decide +kernel
theorem dX6_get_9 : decode cX6_get 9 = .ok (.getfield 9, 3) := by decide +kernel
theorem dX6_get_12 : decode cX6_get 12 = .ok (.iload_n 1, 1) := by decide +kernel
theorem dX6_get_13 : decode cX6_get 13 = .ok (.laload, 1) := by decide +kernel
theorem dX6_get_14 : decode cX6_get 14 = .ok (.goto 6, 3) := by decide +kernel
theorem dX6_get_17 : decode cX6_get 17 = .ok (.ldc2_w 32, 3) := by decide +kernel
theorem dX6_get_20 : decode cX6_get 20 = .ok (.lreturn, 1) := by decide +kernel
set_option maxRecDepth 20000 in
theorem ggX6_put_X6_hasPlace : GoodIn wsX6_put wsX6_hasPlace := goodIn_r _ [6, 7, 1, 13, 14, 15] (by decide +kernel) (by decide +kernel)
set_option maxRecDepth 20000 in
theorem gX6_put_X6_hasPlace : GoodIn wsX6_put (wsV RX6 28 RX6 yX6_hasPlace wsX6_hasPlace) := goodIn_app (goodIn_of _ (by decide +kernel)) ggX6_put_X6_hasPlace
set_option maxRecDepth 20000 in
theorem ggX6_put_X6_fitted : GoodIn wsX6_put wsX6_fitted := goodIn_r _ [11, 12, 13, 14, 15] (by decide +kernel) (by decide +kernel)
set_option maxRecDepth 20000 in
theorem gX6_put_X6_fitted : GoodIn wsX6_put (wsV RX6 34 RX6 yX6_fitted wsX6_fitted) := goodIn_app (goodIn_of _ (by decide +kernel)) ggX6_put_X6_fitted
theorem dX6_put_0 : decode cX6_put 0 = .ok (.aload_n 0, 1) := by decide +kernel
theorem dX6_put_1 : decode cX6_put 1 = .ok (.iload_n 1, 1) := by decide +kernel
theorem dX6_put_2 : decode cX6_put 2 = .ok (.invokevirtual 28, 3) := by decide +kernel
theorem dX6_put_5 : decode cX6_put 5 = .ok (.ifCond .eq 14, 3) := by decide +kernel
theorem dX6_put_8 : decode cX6_put 8 = .ok (.aload_n 0, 1) := by decide +kernel
theorem dX6_put_9 : decode cX6_put 9 = .ok (.getfield 9, 3) := by decide +kernel
theorem dX6_put_12 : decode cX6_put 12 = .ok (.iload_n 1, 1) := by decide +kernel
theorem dX6_put_13 : decode cX6_put 13 = .ok (.aload_n 0, 1) := by decide +kernel
theorem dX6_put_14 : decode cX6_put 14 = .ok (.lload_n 2, 1) := by decide +kernel
theorem dX6_put_15 : decode cX6_put 15 = .ok (.invokevirtual 34, 3) := by decide +kernel
theorem dX6_put_18 : decode cX6_put 18 = .ok (.lastore, 1) := by decide +kernel
theorem dX6_put_19 : decode cX6_put 19 = .ok (.return_, 1) := by decide +kernel
theorem dX6_fitted_0 : decode cX6_fitted 0 = .ok (.aload_n 0, 1) := by decide +kernel
theorem dX6_fitted_1 : decode cX6_fitted 1 = .ok (.getfield 15, 3) := by decide +kernel
theorem dX6_fitted_4 : decode cX6_fitted 4 = .ok (.tableswitch 48 0 3 #[32, 37, 42, 46], 32) := by decide +kernel
theorem dX6_fitted_36 : decode cX6_fitted 36 = .ok (.lload_n 1, 1) := by decide +kernel
theorem dX6_fitted_37 : decode cX6_fitted 37 = .ok (.l2i, 1) := by decide +kernel
theorem dX6_fitted_38 : decode cX6_fitted 38 = .ok (.i2b, 1) := by decide +kernel
theorem dX6_fitted_39 : decode cX6_fitted 39 = .ok (.i2l, 1) := by decide +kernel
theorem dX6_fitted_40 : decode cX6_fitted 40 = .ok (.lreturn, 1) := by decide +kernel
theorem dX6_fitted_41 : decode cX6_fitted 41 = .ok (.lload_n 1, 1) := by decide +kernel
theorem dX6_fitted_42 : decode cX6_fitted 42 = .ok (.l2i, 1) := by decide +kernel
theorem dX6_fitted_43 : decode cX6_fitted 43 = .ok (.i2s, 1) := by decide +kernel
theorem dX6_fitted_44 : decode cX6_fitted 44 = .ok (.i2l, 1) := by decide +kernel
theorem dX6_fitted_45 : decode cX6_fitted 45 = .ok (.lreturn, 1) := by decide +kernel
theorem dX6_fitted_46 : decode cX6_fitted 46 = .ok (.lload_n 1, 1) := by decide +kernel
theorem dX6_fitted_47 : decode cX6_fitted 47 = .ok (.l2i, 1) := by decide +kernel
theorem dX6_fitted_48 : decode cX6_fitted 48 = .ok (.i2l, 1) := by decide +kernel
theorem dX6_fitted_49 : decode cX6_fitted 49 = .ok (.lreturn, 1) := by decide +kernel
theorem dX6_fitted_50 : decode cX6_fitted 50 = .ok (.lload_n 1, 1) := by decide +kernel
theorem dX6_fitted_51 : decode cX6_fitted 51 = .ok (.lreturn, 1) := by decide +kernel
theorem dX6_fitted_52 : decode cX6_fitted 52 = .ok (.lload_n 1, 1) := by decide +kernel
theorem dX6_fitted_53 : decode cX6_fitted 53 = .ok (.lconst 0, 1) := by decide +kernel
theorem dX6_fitted_54 : decode cX6_fitted 54 = .ok (.lcmp, 1) := by decide +kernel
theorem dX6_fitted_55 : decode cX6_fitted 55 = .ok (.ifCond .eq 7, 3) := by decide +kernel
theorem dX6_fitted_58 : decode cX6_fitted 58 = .ok (.lconst 1, 1) := by decide +kernel
theorem dX6_fitted_59 : decode cX6_fitted 59 = .ok (.goto 4, 3) := by decide +kernel
theorem dX6_fitted_62 : decode cX6_fitted 62 = .ok (.lconst 0, 1) := by decide +kernel
theorem dX6_fitted_63 : decode cX6_fitted 63 = .ok (.lreturn, 1) := by decide +kernel
set_option maxRecDepth 20000 in
theorem ggX7_init_Jx4a65c_init_da8c8 : GoodIn wsX7_init wsJx4a65c_init_da8c8 := goodIn_r _ [15, 16, 17, 18, 19, 20, 21, 22, 23, 24, 25, 26, 27, 2, 3, 31, 32, 33] (by decide +kernel) (by decide +kernel)
set_option maxRecDepth 20000 in
theorem gX7_init_Jx4a65c_init_da8c8 : GoodIn wsX7_init (wsJx4a65c_init_da8c8) := ggX7_init_Jx4a65c_init_da8c8
set_option maxRecDepth 20000 in
theorem ggX7_init_X8_kindAbove : GoodIn wsX7_init wsX8_kindAbove := goodIn_r _ [30] (by decide +kernel) (by decide +kernel)
set_option maxRecDepth 20000 in
theorem gX7_init_X8_kindAbove_n32 : GoodIn wsX7_init (wsX8_kindAbove) := ggX7_init_X8_kindAbove
theorem dX7_init_0 : decode cX7_init 0 = .ok (.aload_n 0, 1) := by decide +kernel
theorem dX7_init_1 : decode cX7_init 1 = .ok (.invokespecial 3, 3) := by decide +kernel
theorem dX7_init_4 : decode cX7_init 4 = .ok (.aload_n 0, 1) := by decide +kernel
theorem dX7_init_5 : decode cX7_init 5 = .ok (.new 9, 3) := by decide +kernel
theorem dX7_init_8 : decode cX7_init 8 = .ok (.dup, 1) := by decide +kernel
theorem dX7_init_9 : decode cX7_init 9 = .ok (.invokespecial 11, 3) := by decide +kernel
theorem dX7_init_12 : decode cX7_init 12 = .ok (.putfield 12, 3) := by decide +kernel
theorem dX7_init_15 : decode cX7_init 15 = .ok (.aload_n 0, 1) := by decide +kernel
theorem dX7_init_16 : decode cX7_init 16 = .ok (.iload_n 1, 1) := by decide +kernel
theorem dX7_init_17 : decode cX7_init 17 = .ok (.putfield 18, 3) := by decide +kernel
theorem dX7_init_20 : decode cX7_init 20 = .ok (.aload_n 0, 1) := by decide +kernel
theorem dX7_init_21 : decode cX7_init 21 = .ok (.iload_n 2, 1) := by decide +kernel
theorem dX7_init_22 : decode cX7_init 22 = .ok (.putfield 22, 3) := by decide +kernel
theorem dX7_init_25 : decode cX7_init 25 = .ok (.aload_n 0, 1) := by decide +kernel
theorem dX7_init_26 : decode cX7_init 26 = .ok (.aload_n 3, 1) := by decide +kernel
theorem dX7_init_27 : decode cX7_init 27 = .ok (.putfield 25, 3) := by decide +kernel
theorem dX7_init_30 : decode cX7_init 30 = .ok (.aload_n 0, 1) := by decide +kernel
theorem dX7_init_31 : decode cX7_init 31 = .ok (.iload 4, 2) := by decide +kernel
theorem dX7_init_33 : decode cX7_init 33 = .ok (.putfield 29, 3) := by decide +kernel
theorem dX7_init_36 : decode cX7_init 36 = .ok (.aload_n 0, 1) := by decide +kernel
theorem dX7_init_37 : decode cX7_init 37 = .ok (.iconst 1, 1) := by decide +kernel
theorem dX7_init_38 : decode cX7_init 38 = .ok (.iload_n 2, 1) := by decide +kernel
theorem dX7_init_39 : decode cX7_init 39 = .ok (.ishl, 1) := by decide +kernel
theorem dX7_init_40 : decode cX7_init 40 = .ok (.iconst 1, 1) := by decide +kernel
theorem dX7_init_41 : decode cX7_init 41 = .ok (.iload_n 2, 1) := by decide +kernel
theorem dX7_init_42 : decode cX7_init 42 = .ok (.invokestatic 32, 3) := by decide +kernel
theorem dX7_init_45 : decode cX7_init 45 = .ok (.ishl, 1) := by decide +kernel
theorem dX7_init_46 : decode cX7_init 46 = .ok (.ior, 1) := by decide +kernel
theorem dX7_init_47 : decode cX7_init 47 = .ok (.iconst 1, 1) := by decide +kernel
theorem dX7_init_48 : decode cX7_init 48 = .ok (.iload_n 2, 1) := by decide +kernel
theorem dX7_init_49 : decode cX7_init 49 = .ok (.invokestatic 32, 3) := by decide +kernel
theorem dX7_init_52 : decode cX7_init 52 = .ok (.invokestatic 32, 3) := by decide +kernel
theorem dX7_init_55 : decode cX7_init 55 = .ok (.ishl, 1) := by decide +kernel
theorem dX7_init_56 : decode cX7_init 56 = .ok (.ior, 1) := by decide +kernel
theorem dX7_init_57 : decode cX7_init 57 = .ok (.iconst 1, 1) := by decide +kernel
theorem dX7_init_58 : decode cX7_init 58 = .ok (.ior, 1) := by decide +kernel
theorem dX7_init_59 : decode cX7_init 59 = .ok (.putfield 36, 3) := by decide +kernel
theorem dX7_init_62 : decode cX7_init 62 = .ok (.return_, 1) := by decide +kernel
theorem dX7_mayHold_0 : decode cX7_mayHold 0 = .ok (.aload_n 0, 1) := by decide +kernel
theorem dX7_mayHold_1 : decode cX7_mayHold 1 = .ok (.getfield 22, 3) := by decide +kernel
theorem dX7_mayHold_4 : decode cX7_mayHold 4 = .ok (.bipush 6, 2) := by decide +kernel
theorem dX7_mayHold_6 : decode cX7_mayHold 6 = .ok (.if_icmp .ne 5, 3) := by decide +kernel
theorem dX7_mayHold_9 : decode cX7_mayHold 9 = .ok (.iconst 1, 1) := by decide +kernel
theorem dX7_mayHold_10 : decode cX7_mayHold 10 = .ok (.ireturn, 1) := by decide +kernel
theorem dX7_mayHold_11 : decode cX7_mayHold 11 = .ok (.aload_n 0, 1) := by decide +kernel
theorem dX7_mayHold_12 : decode cX7_mayHold 12 = .ok (.getfield 22, 3) := by decide +kernel
theorem dX7_mayHold_15 : decode cX7_mayHold 15 = .ok (.iconst 2, 1) := by decide +kernel
theorem dX7_mayHold_16 : decode cX7_mayHold 16 = .ok (.if_icmp .eq 11, 3) := by decide +kernel
theorem dX7_mayHold_19 : decode cX7_mayHold 19 = .ok (.aload_n 0, 1) := by decide +kernel
theorem dX7_mayHold_20 : decode cX7_mayHold 20 = .ok (.getfield 22, 3) := by decide +kernel
theorem dX7_mayHold_23 : decode cX7_mayHold 23 = .ok (.iconst 5, 1) := by decide +kernel
theorem dX7_mayHold_24 : decode cX7_mayHold 24 = .ok (.if_icmp .ne 7, 3) := by decide +kernel
theorem dX7_mayHold_27 : decode cX7_mayHold 27 = .ok (.iconst 4, 1) := by decide +kernel
theorem dX7_mayHold_28 : decode cX7_mayHold 28 = .ok (.goto 4, 3) := by decide +kernel
theorem dX7_mayHold_31 : decode cX7_mayHold 31 = .ok (.iconst 0, 1) := by decide +kernel
theorem dX7_mayHold_32 : decode cX7_mayHold 32 = .ok (.ireturn, 1) := by decide +kernel
set_option maxRecDepth 20000 in
theorem ggX7_partAt_Jx4a65c_size_8abf5 : GoodIn wsX7_partAt wsJx4a65c_size_8abf5 := goodIn_r _ [7, 8, 33, 34, 35] (by decide +kernel) (by decide +kernel)
set_option maxRecDepth 20000 in
theorem gX7_partAt_Jx4a65c_size_8abf5 : GoodIn wsX7_partAt (wsV RX7 39 RJx4a65c yJx4a65c_size_8abf5 wsJx4a65c_size_8abf5) := goodIn_app (goodIn_of _ (by decide +kernel)) ggX7_partAt_Jx4a65c_size_8abf5
set_option maxRecDepth 20000 in
theorem ggX7_partAt_Jx4a65c_get_915e3 : GoodIn wsX7_partAt wsJx4a65c_get_915e3 := goodIn_r _ [12, 8, 13, 14, 15, 16, 17, 18, 19, 20, 21, 22, 23, 6, 24, 25, 33, 34, 35] (by decide +kernel) (by decide +kernel)
set_option maxRecDepth 20000 in
theorem gX7_partAt_Jx4a65c_get_915e3 : GoodIn wsX7_partAt (wsV RX7 43 RJx4a65c yJx4a65c_get_915e3 wsJx4a65c_get_915e3) := goodIn_app (goodIn_of _ (by decide +kernel)) ggX7_partAt_Jx4a65c_get_915e3
theorem dX7_partAt_0 : decode cX7_partAt 0 = .ok (.iload_n 1, 1) := by decide +kernel
theorem dX7_partAt_1 : decode cX7_partAt 1 = .ok (.ifCond .lt 28, 3) := by decide +kernel
theorem dX7_partAt_4 : decode cX7_partAt 4 = .ok (.iload_n 1, 1) := by decide +kernel
theorem dX7_partAt_5 : decode cX7_partAt 5 = .ok (.aload_n 0, 1) := by decide +kernel
theorem dX7_partAt_6 : decode cX7_partAt 6 = .ok (.getfield 12, 3) := by decide +kernel
theorem dX7_partAt_9 : decode cX7_partAt 9 = .ok (.invokevirtual 39, 3) := by decide +kernel
theorem dX7_partAt_12 : decode cX7_partAt 12 = .ok (.if_icmp .ge 17, 3) := by decide +kernel
theorem dX7_partAt_15 : decode cX7_partAt 15 = .ok (.aload_n 0, 1) := by decide +kernel
theorem dX7_partAt_16 : decode cX7_partAt 16 = .ok (.getfield 12, 3) := by decide +kernel
theorem dX7_partAt_19 : decode cX7_partAt 19 = .ok (.iload_n 1, 1) := by decide +kernel
theorem dX7_partAt_20 : decode cX7_partAt 20 = .ok (.invokevirtual 43, 3) := by decide +kernel
theorem dX7_partAt_23 : decode cX7_partAt 23 = .ok (.checkcast 13, 3) := by decide +kernel
theorem dX7_partAt_26 : decode cX7_partAt 26 = .ok (.goto 4, 3) := by decide +kernel
theorem dX7_partAt_29 : decode cX7_partAt 29 = .ok (.aconst_null, 1) := by decide +kernel
theorem dX7_partAt_30 : decode cX7_partAt 30 = .ok (.areturn, 1) := by decide +kernel
set_option maxRecDepth 20000 in
theorem ggX7_factsLeft_Jx4a65c_size_8abf5 : GoodIn wsX7_factsLeft wsJx4a65c_size_8abf5 := goodIn_r _ [8, 9, 37, 38, 39] (by decide +kernel) (by decide +kernel)
set_option maxRecDepth 20000 in
theorem gX7_factsLeft_Jx4a65c_size_8abf5 : GoodIn wsX7_factsLeft (wsV RX7 39 RJx4a65c yJx4a65c_size_8abf5 wsJx4a65c_size_8abf5) := goodIn_app (goodIn_of _ (by decide +kernel)) ggX7_factsLeft_Jx4a65c_size_8abf5
set_option maxRecDepth 20000 in
theorem ggX7_factsLeft_X8_has : GoodIn wsX7_factsLeft wsX8_has := goodIn_r _ [12] (by decide +kernel) (by decide +kernel)
set_option maxRecDepth 20000 in
theorem gX7_factsLeft_X8_has_n47 : GoodIn wsX7_factsLeft (wsX8_has) := ggX7_factsLeft_X8_has
set_option maxRecDepth 20000 in
theorem ggX7_factsLeft_Jx4a65c_get_915e3 : GoodIn wsX7_factsLeft wsJx4a65c_get_915e3 := goodIn_r _ [16, 9, 17, 18, 19, 20, 21, 22, 23, 24, 25, 26, 27, 7, 28, 29, 37, 38, 39] (by decide +kernel) (by decide +kernel)
set_option maxRecDepth 20000 in
theorem gX7_factsLeft_Jx4a65c_get_915e3 : GoodIn wsX7_factsLeft (wsV RX7 43 RJx4a65c yJx4a65c_get_915e3 wsJx4a65c_get_915e3) := goodIn_app (goodIn_of _ (by decide +kernel)) ggX7_factsLeft_Jx4a65c_get_915e3
theorem dX7_factsLeft_0 : decode cX7_factsLeft 0 = .ok (.aload_n 0, 1) := by decide +kernel
theorem dX7_factsLeft_1 : decode cX7_factsLeft 1 = .ok (.getfield 29, 3) := by decide +kernel
theorem dX7_factsLeft_4 : decode cX7_factsLeft 4 = .ok (.istore_n 2, 1) := by decide +kernel
theorem dX7_factsLeft_5 : decode cX7_factsLeft 5 = .ok (.iconst 0, 1) := by decide +kernel
theorem dX7_factsLeft_6 : decode cX7_factsLeft 6 = .ok (.istore_n 3, 1) := by decide +kernel
theorem dX7_factsLeft_7 : decode cX7_factsLeft 7 = .ok (.iload_n 3, 1) := by decide +kernel
theorem dX7_factsLeft_8 : decode cX7_factsLeft 8 = .ok (.aload_n 0, 1) := by decide +kernel
theorem dX7_factsLeft_9 : decode cX7_factsLeft 9 = .ok (.getfield 12, 3) := by decide +kernel
theorem dX7_factsLeft_12 : decode cX7_factsLeft 12 = .ok (.invokevirtual 39, 3) := by decide +kernel
theorem dX7_factsLeft_15 : decode cX7_factsLeft 15 = .ok (.if_icmp .ge 36, 3) := by decide +kernel
theorem dX7_factsLeft_18 : decode cX7_factsLeft 18 = .ok (.iload_n 1, 1) := by decide +kernel
theorem dX7_factsLeft_19 : decode cX7_factsLeft 19 = .ok (.iload_n 3, 1) := by decide +kernel
theorem dX7_factsLeft_20 : decode cX7_factsLeft 20 = .ok (.invokestatic 47, 3) := by decide +kernel
theorem dX7_factsLeft_23 : decode cX7_factsLeft 23 = .ok (.ifCond .eq 22, 3) := by decide +kernel
theorem dX7_factsLeft_26 : decode cX7_factsLeft 26 = .ok (.iload_n 2, 1) := by decide +kernel
theorem dX7_factsLeft_27 : decode cX7_factsLeft 27 = .ok (.aload_n 0, 1) := by decide +kernel
theorem dX7_factsLeft_28 : decode cX7_factsLeft 28 = .ok (.getfield 12, 3) := by decide +kernel
theorem dX7_factsLeft_31 : decode cX7_factsLeft 31 = .ok (.iload_n 3, 1) := by decide +kernel
theorem dX7_factsLeft_32 : decode cX7_factsLeft 32 = .ok (.invokevirtual 43, 3) := by decide +kernel
theorem dX7_factsLeft_35 : decode cX7_factsLeft 35 = .ok (.checkcast 13, 3) := by decide +kernel
theorem dX7_factsLeft_38 : decode cX7_factsLeft 38 = .ok (.getfield 29, 3) := by decide +kernel
theorem dX7_factsLeft_41 : decode cX7_factsLeft 41 = .ok (.iconst (-1), 1) := by decide +kernel
theorem dX7_factsLeft_42 : decode cX7_factsLeft 42 = .ok (.ixor, 1) := by decide +kernel
theorem dX7_factsLeft_43 : decode cX7_factsLeft 43 = .ok (.iand, 1) := by decide +kernel
theorem dX7_factsLeft_44 : decode cX7_factsLeft 44 = .ok (.istore_n 2, 1) := by decide +kernel
theorem dX7_factsLeft_45 : decode cX7_factsLeft 45 = .ok (.iinc 3 1, 3) := by decide +kernel
theorem dX7_factsLeft_48 : decode cX7_factsLeft 48 = .ok (.goto (-41), 3) := by decide +kernel
theorem dX7_factsLeft_51 : decode cX7_factsLeft 51 = .ok (.iload_n 2, 1) := by decide +kernel
theorem dX7_factsLeft_52 : decode cX7_factsLeft 52 = .ok (.ireturn, 1) := by decide +kernel
set_option maxRecDepth 20000 in
theorem ggX8_init_Jx4a65c_init_da8c8 : GoodIn wsX8_init wsJx4a65c_init_da8c8 := goodIn_r _ [35, 36, 37, 38, 39, 40, 41, 42, 43, 44, 45, 46, 47, 2, 3, 82, 83, 84] (by decide +kernel) (by decide +kernel)
set_option maxRecDepth 20000 in
theorem gX8_init_Jx4a65c_init_da8c8 : GoodIn wsX8_init (wsJx4a65c_init_da8c8) := ggX8_init_Jx4a65c_init_da8c8
set_option maxRecDepth 20000 in
theorem ggX8_init_X3_init : GoodIn wsX8_init wsX3_init := goodIn_r _ [49, 50, 2, 3, 51, 52, 27, 53, 85, 86, 87, 88, 89, 90, 91] (by decide +kernel) (by decide +kernel)
set_option maxRecDepth 20000 in
theorem gX8_init_X3_init_n29 : GoodIn wsX8_init (wsX3_init) := ggX8_init_X3_init
set_option maxRecDepth 20000 in
theorem ggX8_init_X5_init : GoodIn wsX8_init wsX5_init := goodIn_r _ [55, 56, 2, 3] (by decide +kernel) (by decide +kernel)
set_option maxRecDepth 20000 in
theorem gX8_init_X5_init_n36 : GoodIn wsX8_init (wsX5_init) := ggX8_init_X5_init
set_option maxRecDepth 20000 in
theorem ggX8_init_X0_init : GoodIn wsX8_init wsX0_init := goodIn_r _ [58, 59, 2, 3, 27, 60, 95, 96] (by decide +kernel) (by decide +kernel)
set_option maxRecDepth 20000 in
theorem gX8_init_X0_init_n52 : GoodIn wsX8_init (wsX0_init) := ggX8_init_X0_init
set_option maxRecDepth 20000 in
theorem ggX8_init_X2_init : GoodIn wsX8_init wsX2_init := goodIn_r _ [63, 64, 2, 3, 65, 97, 98, 99] (by decide +kernel) (by decide +kernel)
set_option maxRecDepth 20000 in
theorem gX8_init_X2_init : GoodIn wsX8_init (wsX2_init) := ggX8_init_X2_init
set_option maxRecDepth 20000 in
theorem ggX8_init_X6_init : GoodIn wsX8_init wsX6_init := goodIn_r _ [67, 68, 2, 3, 69, 70, 71, 100, 101, 102] (by decide +kernel) (by decide +kernel)
set_option maxRecDepth 20000 in
theorem gX8_init_X6_init_n67 : GoodIn wsX8_init (wsX6_init) := ggX8_init_X6_init
theorem dX8_init_0 : decode cX8_init 0 = .ok (.aload_n 0, 1) := by decide +kernel
theorem dX8_init_1 : decode cX8_init 1 = .ok (.invokespecial 3, 3) := by decide +kernel
theorem dX8_init_4 : decode cX8_init 4 = .ok (.aload_n 0, 1) := by decide +kernel
theorem dX8_init_5 : decode cX8_init 5 = .ok (.bipush 8, 2) := by decide +kernel
theorem dX8_init_7 : decode cX8_init 7 = .ok (.anewarray 11, 3) := by decide +kernel
theorem dX8_init_10 : decode cX8_init 10 = .ok (.putfield 13, 3) := by decide +kernel
theorem dX8_init_13 : decode cX8_init 13 = .ok (.aload_n 0, 1) := by decide +kernel
theorem dX8_init_14 : decode cX8_init 14 = .ok (.new 17, 3) := by decide +kernel
theorem dX8_init_17 : decode cX8_init 17 = .ok (.dup, 1) := by decide +kernel
theorem dX8_init_18 : decode cX8_init 18 = .ok (.invokespecial 19, 3) := by decide +kernel
theorem dX8_init_21 : decode cX8_init 21 = .ok (.putfield 20, 3) := by decide +kernel
theorem dX8_init_24 : decode cX8_init 24 = .ok (.aload_n 0, 1) := by decide +kernel
theorem dX8_init_25 : decode cX8_init 25 = .ok (.new 17, 3) := by decide +kernel
theorem dX8_init_28 : decode cX8_init 28 = .ok (.dup, 1) := by decide +kernel
theorem dX8_init_29 : decode cX8_init 29 = .ok (.invokespecial 19, 3) := by decide +kernel
theorem dX8_init_32 : decode cX8_init 32 = .ok (.putfield 24, 3) := by decide +kernel
theorem dX8_init_35 : decode cX8_init 35 = .ok (.aload_n 0, 1) := by decide +kernel
theorem dX8_init_36 : decode cX8_init 36 = .ok (.new 27, 3) := by decide +kernel
theorem dX8_init_39 : decode cX8_init 39 = .ok (.dup, 1) := by decide +kernel
theorem dX8_init_40 : decode cX8_init 40 = .ok (.invokespecial 29, 3) := by decide +kernel
theorem dX8_init_43 : decode cX8_init 43 = .ok (.putfield 30, 3) := by decide +kernel
theorem dX8_init_46 : decode cX8_init 46 = .ok (.aload_n 0, 1) := by decide +kernel
theorem dX8_init_47 : decode cX8_init 47 = .ok (.new 34, 3) := by decide +kernel
theorem dX8_init_50 : decode cX8_init 50 = .ok (.dup, 1) := by decide +kernel
theorem dX8_init_51 : decode cX8_init 51 = .ok (.invokespecial 36, 3) := by decide +kernel
theorem dX8_init_54 : decode cX8_init 54 = .ok (.putfield 37, 3) := by decide +kernel
theorem dX8_init_57 : decode cX8_init 57 = .ok (.aload_n 0, 1) := by decide +kernel
theorem dX8_init_58 : decode cX8_init 58 = .ok (.new 34, 3) := by decide +kernel
theorem dX8_init_61 : decode cX8_init 61 = .ok (.dup, 1) := by decide +kernel
theorem dX8_init_62 : decode cX8_init 62 = .ok (.invokespecial 36, 3) := by decide +kernel
theorem dX8_init_65 : decode cX8_init 65 = .ok (.putfield 41, 3) := by decide +kernel
theorem dX8_init_68 : decode cX8_init 68 = .ok (.aload_n 0, 1) := by decide +kernel
theorem dX8_init_69 : decode cX8_init 69 = .ok (.bipush 6, 2) := by decide +kernel
theorem dX8_init_71 : decode cX8_init 71 = .ok (.anewarray 44, 3) := by decide +kernel
theorem dX8_init_74 : decode cX8_init 74 = .ok (.putfield 46, 3) := by decide +kernel
theorem dX8_init_77 : decode cX8_init 77 = .ok (.aload_n 0, 1) := by decide +kernel
theorem dX8_init_78 : decode cX8_init 78 = .ok (.new 50, 3) := by decide +kernel
theorem dX8_init_81 : decode cX8_init 81 = .ok (.dup, 1) := by decide +kernel
theorem dX8_init_82 : decode cX8_init 82 = .ok (.invokespecial 52, 3) := by decide +kernel
theorem dX8_init_85 : decode cX8_init 85 = .ok (.putfield 53, 3) := by decide +kernel
theorem dX8_init_88 : decode cX8_init 88 = .ok (.aload_n 0, 1) := by decide +kernel
theorem dX8_init_89 : decode cX8_init 89 = .ok (.new 17, 3) := by decide +kernel
theorem dX8_init_92 : decode cX8_init 92 = .ok (.dup, 1) := by decide +kernel
theorem dX8_init_93 : decode cX8_init 93 = .ok (.invokespecial 19, 3) := by decide +kernel
theorem dX8_init_96 : decode cX8_init 96 = .ok (.putfield 57, 3) := by decide +kernel
theorem dX8_init_99 : decode cX8_init 99 = .ok (.aload_n 0, 1) := by decide +kernel
theorem dX8_init_100 : decode cX8_init 100 = .ok (.bipush 32, 2) := by decide +kernel
theorem dX8_init_102 : decode cX8_init 102 = .ok (.newarray .int, 2) := by decide +kernel
theorem dX8_init_104 : decode cX8_init 104 = .ok (.putfield 60, 3) := by decide +kernel
theorem dX8_init_107 : decode cX8_init 107 = .ok (.iconst 0, 1) := by decide +kernel
theorem dX8_init_108 : decode cX8_init 108 = .ok (.istore_n 1, 1) := by decide +kernel
theorem dX8_init_109 : decode cX8_init 109 = .ok (.iload_n 1, 1) := by decide +kernel
theorem dX8_init_110 : decode cX8_init 110 = .ok (.aload_n 0, 1) := by decide +kernel
theorem dX8_init_111 : decode cX8_init 111 = .ok (.getfield 13, 3) := by decide +kernel
theorem dX8_init_114 : decode cX8_init 114 = .ok (.arraylength, 1) := by decide +kernel
theorem dX8_init_115 : decode cX8_init 115 = .ok (.if_icmp .ge 23, 3) := by decide +kernel
theorem dX8_init_118 : decode cX8_init 118 = .ok (.aload_n 0, 1) := by decide +kernel
theorem dX8_init_119 : decode cX8_init 119 = .ok (.getfield 13, 3) := by decide +kernel
theorem dX8_init_122 : decode cX8_init 122 = .ok (.iload_n 1, 1) := by decide +kernel
theorem dX8_init_123 : decode cX8_init 123 = .ok (.new 11, 3) := by decide +kernel
theorem dX8_init_126 : decode cX8_init 126 = .ok (.dup, 1) := by decide +kernel
theorem dX8_init_127 : decode cX8_init 127 = .ok (.iload_n 1, 1) := by decide +kernel
theorem dX8_init_128 : decode cX8_init 128 = .ok (.invokespecial 64, 3) := by decide +kernel
theorem dX8_init_131 : decode cX8_init 131 = .ok (.aastore, 1) := by decide +kernel
theorem dX8_init_132 : decode cX8_init 132 = .ok (.iinc 1 1, 3) := by decide +kernel
theorem dX8_init_135 : decode cX8_init 135 = .ok (.goto (-26), 3) := by decide +kernel
theorem dX8_init_138 : decode cX8_init 138 = .ok (.iconst 0, 1) := by decide +kernel
theorem dX8_init_139 : decode cX8_init 139 = .ok (.istore_n 1, 1) := by decide +kernel
theorem dX8_init_140 : decode cX8_init 140 = .ok (.iload_n 1, 1) := by decide +kernel
theorem dX8_init_141 : decode cX8_init 141 = .ok (.aload_n 0, 1) := by decide +kernel
theorem dX8_init_142 : decode cX8_init 142 = .ok (.getfield 46, 3) := by decide +kernel
theorem dX8_init_145 : decode cX8_init 145 = .ok (.arraylength, 1) := by decide +kernel
theorem dX8_init_146 : decode cX8_init 146 = .ok (.if_icmp .ge 22, 3) := by decide +kernel
theorem dX8_init_149 : decode cX8_init 149 = .ok (.aload_n 0, 1) := by decide +kernel
theorem dX8_init_150 : decode cX8_init 150 = .ok (.getfield 46, 3) := by decide +kernel
theorem dX8_init_153 : decode cX8_init 153 = .ok (.iload_n 1, 1) := by decide +kernel
theorem dX8_init_154 : decode cX8_init 154 = .ok (.new 44, 3) := by decide +kernel
theorem dX8_init_157 : decode cX8_init 157 = .ok (.dup, 1) := by decide +kernel
theorem dX8_init_158 : decode cX8_init 158 = .ok (.invokespecial 67, 3) := by decide +kernel
theorem dX8_init_161 : decode cX8_init 161 = .ok (.aastore, 1) := by decide +kernel
theorem dX8_init_162 : decode cX8_init 162 = .ok (.iinc 1 1, 3) := by decide +kernel
theorem dX8_init_165 : decode cX8_init 165 = .ok (.goto (-25), 3) := by decide +kernel
theorem dX8_init_168 : decode cX8_init 168 = .ok (.return_, 1) := by decide +kernel
set_option maxRecDepth 20000 in
theorem ggX8_known_X8_personAt : GoodIn wsX8_known wsX8_personAt := goodIn_r _ [6, 7, 14, 15, 16, 17, 18, 19, 20, 21, 22, 23] (by decide +kernel) (by decide +kernel)
set_option maxRecDepth 20000 in
theorem gX8_known_X8_personAt : GoodIn wsX8_known (wsV RX8 68 RX8 yX8_personAt wsX8_personAt) := goodIn_app (goodIn_of _ (by decide +kernel)) ggX8_known_X8_personAt
set_option maxRecDepth 20000 in
theorem ggX8_known_X8_within : GoodIn wsX8_known wsX8_within := goodIn_r _ [10] (by decide +kernel) (by decide +kernel)
set_option maxRecDepth 20000 in
theorem gX8_known_X8_within : GoodIn wsX8_known (va_wsS RX8 72 yX8_within wsX8_within) := goodIn_app (goodIn_of _ (by decide +kernel)) ggX8_known_X8_within
theorem dX8_known_0 : decode cX8_known 0 = .ok (.aload_n 0, 1) := by decide +kernel
theorem dX8_known_1 : decode cX8_known 1 = .ok (.iload_n 1, 1) := by decide +kernel
theorem dX8_known_2 : decode cX8_known 2 = .ok (.invokevirtual 68, 3) := by decide +kernel
theorem dX8_known_5 : decode cX8_known 5 = .ok (.astore_n 3, 1) := by decide +kernel
theorem dX8_known_6 : decode cX8_known 6 = .ok (.aload_n 3, 1) := by decide +kernel
theorem dX8_known_7 : decode cX8_known 7 = .ok (.ifnonnull 5, 3) := by decide +kernel
theorem dX8_known_10 : decode cX8_known 10 = .ok (.iconst (-1), 1) := by decide +kernel
theorem dX8_known_11 : decode cX8_known 11 = .ok (.ireturn, 1) := by decide +kernel
theorem dX8_known_12 : decode cX8_known 12 = .ok (.iload_n 2, 1) := by decide +kernel
theorem dX8_known_13 : decode cX8_known 13 = .ok (.bipush 64, 2) := by decide +kernel
theorem dX8_known_15 : decode cX8_known 15 = .ok (.invokestatic 72, 3) := by decide +kernel
theorem dX8_known_18 : decode cX8_known 18 = .ok (.ifCond .ne 6, 3) := by decide +kernel
theorem dX8_known_21 : decode cX8_known 21 = .ok (.bipush (-2), 2) := by decide +kernel
theorem dX8_known_23 : decode cX8_known 23 = .ok (.ireturn, 1) := by decide +kernel
theorem dX8_known_24 : decode cX8_known 24 = .ok (.aload_n 3, 1) := by decide +kernel
theorem dX8_known_25 : decode cX8_known 25 = .ok (.getfield 76, 3) := by decide +kernel
theorem dX8_known_28 : decode cX8_known 28 = .ok (.istore 4, 2) := by decide +kernel
theorem dX8_known_30 : decode cX8_known 30 = .ok (.aload_n 3, 1) := by decide +kernel
theorem dX8_known_31 : decode cX8_known 31 = .ok (.iload_n 2, 1) := by decide +kernel
theorem dX8_known_32 : decode cX8_known 32 = .ok (.putfield 76, 3) := by decide +kernel
theorem dX8_known_35 : decode cX8_known 35 = .ok (.iload 4, 2) := by decide +kernel
theorem dX8_known_37 : decode cX8_known 37 = .ok (.ireturn, 1) := by decide +kernel
set_option maxRecDepth 20000 in
theorem ggX8_word_X8_personAt : GoodIn wsX8_word wsX8_personAt := goodIn_r _ [10, 11, 104, 105, 106, 107, 108, 109, 110, 111, 112, 113] (by decide +kernel) (by decide +kernel)
set_option maxRecDepth 20000 in
theorem gX8_word_X8_personAt : GoodIn wsX8_word (wsV RX8 68 RX8 yX8_personAt wsX8_personAt) := goodIn_app (goodIn_of _ (by decide +kernel)) ggX8_word_X8_personAt
set_option maxRecDepth 20000 in
theorem ggX8_word_X8_within : GoodIn wsX8_word wsX8_within := goodIn_r _ [14] (by decide +kernel) (by decide +kernel)
set_option maxRecDepth 20000 in
theorem gX8_word_X8_within : GoodIn wsX8_word (va_wsS RX8 72 yX8_within wsX8_within) := goodIn_app (goodIn_of _ (by decide +kernel)) ggX8_word_X8_within
set_option maxRecDepth 20000 in
theorem ggX8_word_Jx4a65c_size_8abf5 : GoodIn wsX8_word wsJx4a65c_size_8abf5 := goodIn_r _ [19, 20, 124, 125, 126] (by decide +kernel) (by decide +kernel)
set_option maxRecDepth 20000 in
theorem gX8_word_Jx4a65c_size_8abf5 : GoodIn wsX8_word (wsV RX8 80 RJx4a65c yJx4a65c_size_8abf5 wsJx4a65c_size_8abf5) := goodIn_app (goodIn_of _ (by decide +kernel)) ggX8_word_Jx4a65c_size_8abf5
set_option maxRecDepth 20000 in
theorem ggX8_word_X7_init : GoodIn wsX8_word wsX7_init := goodIn_r _ [23, 24, 25, 26, 27, 28, 18, 29, 30, 31, 32, 33, 34, 35, 36, 37, 38, 39, 40, 41, 42, 43, 44, 45, 46, 47, 48, 49, 50, 9, 51, 124, 125, 126, 114, 115, 116, 117, 118, 119, 120] (by decide +kernel) (by decide +kernel)
set_option maxRecDepth 20000 in
theorem gX8_word_X7_init : GoodIn wsX8_word (wsX7_init) := ggX8_word_X7_init
set_option maxRecDepth 20000 in
theorem ggX8_word_Jx4a65c_add_9ea2d : GoodIn wsX8_word wsJx4a65c_add_9ea2d := goodIn_r _ [55, 56, 57, 39, 20, 58, 59, 60, 18, 61, 62, 63, 64, 65, 66, 67, 68, 69, 38, 70, 71, 72, 73, 74, 75, 76, 77, 78, 79, 80, 81, 82, 83, 84, 85, 86, 87, 88, 89, 90, 91, 92, 93, 94, 95, 96, 97, 98, 99, 100, 101, 102, 103, 124, 125, 126] (by decide +kernel) (by decide +kernel)
set_option maxRecDepth 20000 in
theorem gX8_word_Jx4a65c_add_9ea2d : GoodIn wsX8_word (wsV RX8 89 RJx4a65c yJx4a65c_add_9ea2d wsJx4a65c_add_9ea2d) := goodIn_app (goodIn_of _ (by decide +kernel)) ggX8_word_Jx4a65c_add_9ea2d
theorem dX8_word_0 : decode cX8_word 0 = .ok (.aload_n 0, 1) := by decide +kernel
theorem dX8_word_1 : decode cX8_word 1 = .ok (.iload_n 2, 1) := by decide +kernel
theorem dX8_word_2 : decode cX8_word 2 = .ok (.invokevirtual 68, 3) := by decide +kernel
theorem dX8_word_5 : decode cX8_word 5 = .ok (.astore 4, 2) := by decide +kernel
theorem dX8_word_7 : decode cX8_word 7 = .ok (.aload 4, 2) := by decide +kernel
theorem dX8_word_9 : decode cX8_word 9 = .ok (.ifnull 12, 3) := by decide +kernel
theorem dX8_word_12 : decode cX8_word 12 = .ok (.iload_n 1, 1) := by decide +kernel
theorem dX8_word_13 : decode cX8_word 13 = .ok (.bipush 7, 2) := by decide +kernel
theorem dX8_word_15 : decode cX8_word 15 = .ok (.invokestatic 72, 3) := by decide +kernel
theorem dX8_word_18 : decode cX8_word 18 = .ok (.ifCond .ne 5, 3) := by decide +kernel
theorem dX8_word_21 : decode cX8_word 21 = .ok (.iconst (-1), 1) := by decide +kernel
theorem dX8_word_22 : decode cX8_word 22 = .ok (.ireturn, 1) := by decide +kernel
theorem dX8_word_23 : decode cX8_word 23 = .ok (.iload_n 3, 1) := by decide +kernel
theorem dX8_word_24 : decode cX8_word 24 = .ok (.sipush 1024, 3) := by decide +kernel
theorem dX8_word_27 : decode cX8_word 27 = .ok (.invokestatic 72, 3) := by decide +kernel
theorem dX8_word_30 : decode cX8_word 30 = .ok (.ifCond .ne 6, 3) := by decide +kernel
theorem dX8_word_33 : decode cX8_word 33 = .ok (.bipush (-2), 2) := by decide +kernel
theorem dX8_word_35 : decode cX8_word 35 = .ok (.ireturn, 1) := by decide +kernel
theorem dX8_word_36 : decode cX8_word 36 = .ok (.aload_n 0, 1) := by decide +kernel
theorem dX8_word_37 : decode cX8_word 37 = .ok (.getfield 20, 3) := by decide +kernel
theorem dX8_word_40 : decode cX8_word 40 = .ok (.invokevirtual 80, 3) := by decide +kernel
theorem dX8_word_43 : decode cX8_word 43 = .ok (.istore 5, 2) := by decide +kernel
theorem dX8_word_45 : decode cX8_word 45 = .ok (.iload 5, 2) := by decide +kernel
theorem dX8_word_47 : decode cX8_word 47 = .ok (.bipush 14, 2) := by decide +kernel
theorem dX8_word_49 : decode cX8_word 49 = .ok (.if_icmp .lt 6, 3) := by decide +kernel
theorem dX8_word_52 : decode cX8_word 52 = .ok (.bipush (-4), 2) := by decide +kernel
theorem dX8_word_54 : decode cX8_word 54 = .ok (.ireturn, 1) := by decide +kernel
theorem dX8_word_55 : decode cX8_word 55 = .ok (.aload_n 0, 1) := by decide +kernel
theorem dX8_word_56 : decode cX8_word 56 = .ok (.getfield 20, 3) := by decide +kernel
theorem dX8_word_59 : decode cX8_word 59 = .ok (.new 84, 3) := by decide +kernel
theorem dX8_word_62 : decode cX8_word 62 = .ok (.dup, 1) := by decide +kernel
theorem dX8_word_63 : decode cX8_word 63 = .ok (.iload 5, 2) := by decide +kernel
theorem dX8_word_65 : decode cX8_word 65 = .ok (.iload_n 1, 1) := by decide +kernel
theorem dX8_word_66 : decode cX8_word 66 = .ok (.aload 4, 2) := by decide +kernel
theorem dX8_word_68 : decode cX8_word 68 = .ok (.iload_n 3, 1) := by decide +kernel
theorem dX8_word_69 : decode cX8_word 69 = .ok (.invokespecial 86, 3) := by decide +kernel
theorem dX8_word_72 : decode cX8_word 72 = .ok (.invokevirtual 89, 3) := by decide +kernel
theorem dX8_word_75 : decode cX8_word 75 = .ok (.pop, 1) := by decide +kernel
theorem dX8_word_76 : decode cX8_word 76 = .ok (.aload 4, 2) := by decide +kernel
theorem dX8_word_78 : decode cX8_word 78 = .ok (.dup, 1) := by decide +kernel
theorem dX8_word_79 : decode cX8_word 79 = .ok (.getfield 93, 3) := by decide +kernel
theorem dX8_word_82 : decode cX8_word 82 = .ok (.iconst 1, 1) := by decide +kernel
theorem dX8_word_83 : decode cX8_word 83 = .ok (.iload 5, 2) := by decide +kernel
theorem dX8_word_85 : decode cX8_word 85 = .ok (.ishl, 1) := by decide +kernel
theorem dX8_word_86 : decode cX8_word 86 = .ok (.ior, 1) := by decide +kernel
theorem dX8_word_87 : decode cX8_word 87 = .ok (.putfield 93, 3) := by decide +kernel
theorem dX8_word_90 : decode cX8_word 90 = .ok (.iload 5, 2) := by decide +kernel
theorem dX8_word_92 : decode cX8_word 92 = .ok (.ireturn, 1) := by decide +kernel
set_option maxRecDepth 20000 in
theorem ggX8_hold_X8_wordAt : GoodIn wsX8_hold wsX8_wordAt := goodIn_r _ [7, 8, 9, 10, 11, 12, 13, 14, 15, 16, 17, 18, 19, 20, 21, 22, 23, 24, 25, 26, 27, 28, 29, 30, 31, 32, 102, 103, 104, 105, 106, 107, 108, 109, 110, 111, 112, 113, 114] (by decide +kernel) (by decide +kernel)
set_option maxRecDepth 20000 in
theorem gX8_hold_X8_wordAt : GoodIn wsX8_hold (wsV RX8 95 RX8 yX8_wordAt wsX8_wordAt) := goodIn_app (goodIn_of _ (by decide +kernel)) ggX8_hold_X8_wordAt
set_option maxRecDepth 20000 in
theorem ggX8_hold_X7_mayHold : GoodIn wsX8_hold wsX7_mayHold := goodIn_r _ [37, 38, 95, 96, 97, 98, 99, 100, 101] (by decide +kernel) (by decide +kernel)
set_option maxRecDepth 20000 in
theorem gX8_hold_X7_mayHold : GoodIn wsX8_hold (wsV RX8 99 RX7 yX7_mayHold wsX7_mayHold) := goodIn_app (goodIn_of _ (by decide +kernel)) ggX8_hold_X7_mayHold
set_option maxRecDepth 20000 in
theorem ggX8_hold_X8_has : GoodIn wsX8_hold wsX8_has := goodIn_r _ [41] (by decide +kernel) (by decide +kernel)
set_option maxRecDepth 20000 in
theorem gX8_hold_X8_has : GoodIn wsX8_hold (va_wsS RX8 105 yX8_has wsX8_has) := goodIn_app (goodIn_of _ (by decide +kernel)) ggX8_hold_X8_has
set_option maxRecDepth 20000 in
theorem ggX8_hold_Jx4a65c_size_8abf5 : GoodIn wsX8_hold wsJx4a65c_size_8abf5 := goodIn_r _ [14, 15, 112, 113, 114] (by decide +kernel) (by decide +kernel)
set_option maxRecDepth 20000 in
theorem gX8_hold_Jx4a65c_size_8abf5 : GoodIn wsX8_hold (wsV RX8 80 RJx4a65c yJx4a65c_size_8abf5 wsJx4a65c_size_8abf5) := goodIn_app (goodIn_of _ (by decide +kernel)) ggX8_hold_Jx4a65c_size_8abf5
set_option maxRecDepth 20000 in
theorem ggX8_hold_Jx4a65c_add_9ea2d : GoodIn wsX8_hold wsJx4a65c_add_9ea2d := goodIn_r _ [45, 46, 47, 32, 15, 48, 49, 50, 13, 51, 52, 53, 54, 55, 56, 57, 58, 59, 60, 61, 62, 63, 64, 65, 66, 67, 68, 69, 70, 71, 72, 73, 74, 75, 76, 77, 78, 79, 80, 81, 82, 83, 84, 85, 86, 87, 88, 89, 90, 91, 92, 93, 94, 112, 113, 114] (by decide +kernel) (by decide +kernel)
set_option maxRecDepth 20000 in
theorem gX8_hold_Jx4a65c_add_9ea2d : GoodIn wsX8_hold (wsV RX8 89 RJx4a65c yJx4a65c_add_9ea2d wsJx4a65c_add_9ea2d) := goodIn_app (goodIn_of _ (by decide +kernel)) ggX8_hold_Jx4a65c_add_9ea2d
theorem dX8_hold_0 : decode cX8_hold 0 = .ok (.aload_n 0, 1) := by decide +kernel
theorem dX8_hold_1 : decode cX8_hold 1 = .ok (.iload_n 1, 1) := by decide +kernel
theorem dX8_hold_2 : decode cX8_hold 2 = .ok (.invokevirtual 95, 3) := by decide +kernel
theorem dX8_hold_5 : decode cX8_hold 5 = .ok (.astore_n 3, 1) := by decide +kernel
theorem dX8_hold_6 : decode cX8_hold 6 = .ok (.aload_n 0, 1) := by decide +kernel
theorem dX8_hold_7 : decode cX8_hold 7 = .ok (.iload_n 2, 1) := by decide +kernel
theorem dX8_hold_8 : decode cX8_hold 8 = .ok (.invokevirtual 95, 3) := by decide +kernel
theorem dX8_hold_11 : decode cX8_hold 11 = .ok (.astore 4, 2) := by decide +kernel
theorem dX8_hold_13 : decode cX8_hold 13 = .ok (.aload_n 3, 1) := by decide +kernel
theorem dX8_hold_14 : decode cX8_hold 14 = .ok (.ifnull 8, 3) := by decide +kernel
theorem dX8_hold_17 : decode cX8_hold 17 = .ok (.aload 4, 2) := by decide +kernel
theorem dX8_hold_19 : decode cX8_hold 19 = .ok (.ifnonnull 5, 3) := by decide +kernel
theorem dX8_hold_22 : decode cX8_hold 22 = .ok (.iconst (-1), 1) := by decide +kernel
theorem dX8_hold_23 : decode cX8_hold 23 = .ok (.ireturn, 1) := by decide +kernel
theorem dX8_hold_24 : decode cX8_hold 24 = .ok (.iload_n 2, 1) := by decide +kernel
theorem dX8_hold_25 : decode cX8_hold 25 = .ok (.iload_n 1, 1) := by decide +kernel
theorem dX8_hold_26 : decode cX8_hold 26 = .ok (.if_icmp .lt 6, 3) := by decide +kernel
theorem dX8_hold_29 : decode cX8_hold 29 = .ok (.bipush (-2), 2) := by decide +kernel
theorem dX8_hold_31 : decode cX8_hold 31 = .ok (.ireturn, 1) := by decide +kernel
theorem dX8_hold_32 : decode cX8_hold 32 = .ok (.aload_n 3, 1) := by decide +kernel
theorem dX8_hold_33 : decode cX8_hold 33 = .ok (.invokevirtual 99, 3) := by decide +kernel
theorem dX8_hold_36 : decode cX8_hold 36 = .ok (.ifCond .ne 6, 3) := by decide +kernel
theorem dX8_hold_39 : decode cX8_hold 39 = .ok (.bipush (-12), 2) := by decide +kernel
theorem dX8_hold_41 : decode cX8_hold 41 = .ok (.ireturn, 1) := by decide +kernel
theorem dX8_hold_42 : decode cX8_hold 42 = .ok (.aload_n 3, 1) := by decide +kernel
theorem dX8_hold_43 : decode cX8_hold 43 = .ok (.getfield 102, 3) := by decide +kernel
theorem dX8_hold_46 : decode cX8_hold 46 = .ok (.iload_n 2, 1) := by decide +kernel
theorem dX8_hold_47 : decode cX8_hold 47 = .ok (.invokestatic 105, 3) := by decide +kernel
theorem dX8_hold_50 : decode cX8_hold 50 = .ok (.ifCond .eq 6, 3) := by decide +kernel
theorem dX8_hold_53 : decode cX8_hold 53 = .ok (.bipush (-3), 2) := by decide +kernel
theorem dX8_hold_55 : decode cX8_hold 55 = .ok (.ireturn, 1) := by decide +kernel
theorem dX8_hold_56 : decode cX8_hold 56 = .ok (.aload_n 3, 1) := by decide +kernel
theorem dX8_hold_57 : decode cX8_hold 57 = .ok (.getfield 108, 3) := by decide +kernel
theorem dX8_hold_60 : decode cX8_hold 60 = .ok (.invokevirtual 80, 3) := by decide +kernel
theorem dX8_hold_63 : decode cX8_hold 63 = .ok (.aload_n 3, 1) := by decide +kernel
theorem dX8_hold_64 : decode cX8_hold 64 = .ok (.invokevirtual 99, 3) := by decide +kernel
theorem dX8_hold_67 : decode cX8_hold 67 = .ok (.if_icmp .lt 6, 3) := by decide +kernel
theorem dX8_hold_70 : decode cX8_hold 70 = .ok (.bipush (-4), 2) := by decide +kernel
theorem dX8_hold_72 : decode cX8_hold 72 = .ok (.ireturn, 1) := by decide +kernel
theorem dX8_hold_73 : decode cX8_hold 73 = .ok (.aload_n 3, 1) := by decide +kernel
theorem dX8_hold_74 : decode cX8_hold 74 = .ok (.getfield 108, 3) := by decide +kernel
theorem dX8_hold_77 : decode cX8_hold 77 = .ok (.aload 4, 2) := by decide +kernel
theorem dX8_hold_79 : decode cX8_hold 79 = .ok (.invokevirtual 89, 3) := by decide +kernel
theorem dX8_hold_82 : decode cX8_hold 82 = .ok (.pop, 1) := by decide +kernel
theorem dX8_hold_83 : decode cX8_hold 83 = .ok (.aload_n 3, 1) := by decide +kernel
theorem dX8_hold_84 : decode cX8_hold 84 = .ok (.dup, 1) := by decide +kernel
theorem dX8_hold_85 : decode cX8_hold 85 = .ok (.getfield 102, 3) := by decide +kernel
theorem dX8_hold_88 : decode cX8_hold 88 = .ok (.iconst 1, 1) := by decide +kernel
theorem dX8_hold_89 : decode cX8_hold 89 = .ok (.iload_n 2, 1) := by decide +kernel
theorem dX8_hold_90 : decode cX8_hold 90 = .ok (.ishl, 1) := by decide +kernel
theorem dX8_hold_91 : decode cX8_hold 91 = .ok (.ior, 1) := by decide +kernel
theorem dX8_hold_92 : decode cX8_hold 92 = .ok (.putfield 102, 3) := by decide +kernel
theorem dX8_hold_95 : decode cX8_hold 95 = .ok (.aload_n 3, 1) := by decide +kernel
theorem dX8_hold_96 : decode cX8_hold 96 = .ok (.getfield 108, 3) := by decide +kernel
theorem dX8_hold_99 : decode cX8_hold 99 = .ok (.invokevirtual 80, 3) := by decide +kernel
theorem dX8_hold_102 : decode cX8_hold 102 = .ok (.ireturn, 1) := by decide +kernel
set_option maxRecDepth 20000 in
theorem ggX8_of_X8_wordAt : GoodIn wsX8_of wsX8_wordAt := goodIn_r _ [11, 12, 13, 14, 15, 16, 17, 18, 19, 20, 21, 22, 23, 24, 25, 26, 27, 28, 29, 30, 31, 32, 33, 34, 35, 36, 59, 60, 61, 62, 63, 64, 65, 66, 67, 68, 69, 70, 71] (by decide +kernel) (by decide +kernel)
set_option maxRecDepth 20000 in
theorem gX8_of_X8_wordAt : GoodIn wsX8_of (wsV RX8 95 RX8 yX8_wordAt wsX8_wordAt) := goodIn_app (goodIn_of _ (by decide +kernel)) ggX8_of_X8_wordAt
set_option maxRecDepth 20000 in
theorem ggX8_of_X8_within : GoodIn wsX8_of wsX8_within := goodIn_r _ [39] (by decide +kernel) (by decide +kernel)
set_option maxRecDepth 20000 in
theorem gX8_of_X8_within : GoodIn wsX8_of (va_wsS RX8 72 yX8_within wsX8_within) := goodIn_app (goodIn_of _ (by decide +kernel)) ggX8_of_X8_within
set_option maxRecDepth 20000 in
theorem ggX8_of_Jx4a65c_size_8abf5 : GoodIn wsX8_of wsJx4a65c_size_8abf5 := goodIn_r _ [18, 19, 69, 70, 71] (by decide +kernel) (by decide +kernel)
set_option maxRecDepth 20000 in
theorem gX8_of_Jx4a65c_size_8abf5 : GoodIn wsX8_of (wsV RX8 80 RJx4a65c yJx4a65c_size_8abf5 wsJx4a65c_size_8abf5) := goodIn_app (goodIn_of _ (by decide +kernel)) ggX8_of_Jx4a65c_size_8abf5
set_option maxRecDepth 20000 in
theorem ggX8_of_X7_partAt : GoodIn wsX8_of wsX7_partAt := goodIn_r _ [44, 45, 46, 47, 15, 16, 17, 18, 19, 48, 21, 22, 23, 24, 25, 26, 27, 28, 29, 30, 31, 32, 33, 34, 35, 36, 49, 50, 51, 52, 53, 54, 55, 69, 70, 71] (by decide +kernel) (by decide +kernel)
set_option maxRecDepth 20000 in
theorem gX8_of_X7_partAt : GoodIn wsX8_of (wsV RX8 124 RX7 yX7_partAt wsX7_partAt) := goodIn_app (goodIn_of _ (by decide +kernel)) ggX8_of_X7_partAt
theorem dX8_of_0 : decode cX8_of 0 = .ok (.aload_n 0, 1) := by decide +kernel
theorem dX8_of_1 : decode cX8_of 1 = .ok (.iload_n 1, 1) := by decide +kernel
theorem dX8_of_2 : decode cX8_of 2 = .ok (.invokevirtual 95, 3) := by decide +kernel
theorem dX8_of_5 : decode cX8_of 5 = .ok (.astore_n 3, 1) := by decide +kernel
theorem dX8_of_6 : decode cX8_of 6 = .ok (.aload_n 3, 1) := by decide +kernel
theorem dX8_of_7 : decode cX8_of 7 = .ok (.ifnull 12, 3) := by decide +kernel
theorem dX8_of_10 : decode cX8_of 10 = .ok (.iload_n 2, 1) := by decide +kernel
theorem dX8_of_11 : decode cX8_of 11 = .ok (.bipush 8, 2) := by decide +kernel
theorem dX8_of_13 : decode cX8_of 13 = .ok (.invokestatic 72, 3) := by decide +kernel
theorem dX8_of_16 : decode cX8_of 16 = .ok (.ifCond .ne 5, 3) := by decide +kernel
theorem dX8_of_19 : decode cX8_of 19 = .ok (.iconst (-1), 1) := by decide +kernel
theorem dX8_of_20 : decode cX8_of 20 = .ok (.ireturn, 1) := by decide +kernel
theorem dX8_of_21 : decode cX8_of 21 = .ok (.iload_n 2, 1) := by decide +kernel
theorem dX8_of_22 : decode cX8_of 22 = .ok (.tableswitch 56 0 3 #[30, 35, 43, 48], 30) := by decide +kernel
theorem dX8_of_52 : decode cX8_of 52 = .ok (.aload_n 3, 1) := by decide +kernel
theorem dX8_of_53 : decode cX8_of 53 = .ok (.getfield 111, 3) := by decide +kernel
theorem dX8_of_56 : decode cX8_of 56 = .ok (.ireturn, 1) := by decide +kernel
theorem dX8_of_57 : decode cX8_of 57 = .ok (.aload_n 3, 1) := by decide +kernel
theorem dX8_of_58 : decode cX8_of 58 = .ok (.getfield 114, 3) := by decide +kernel
theorem dX8_of_61 : decode cX8_of 61 = .ok (.getfield 118, 3) := by decide +kernel
theorem dX8_of_64 : decode cX8_of 64 = .ok (.ireturn, 1) := by decide +kernel
theorem dX8_of_65 : decode cX8_of 65 = .ok (.aload_n 3, 1) := by decide +kernel
theorem dX8_of_66 : decode cX8_of 66 = .ok (.getfield 121, 3) := by decide +kernel
theorem dX8_of_69 : decode cX8_of 69 = .ok (.ireturn, 1) := by decide +kernel
theorem dX8_of_70 : decode cX8_of 70 = .ok (.aload_n 3, 1) := by decide +kernel
theorem dX8_of_71 : decode cX8_of 71 = .ok (.getfield 108, 3) := by decide +kernel
theorem dX8_of_74 : decode cX8_of 74 = .ok (.invokevirtual 80, 3) := by decide +kernel
theorem dX8_of_77 : decode cX8_of 77 = .ok (.ireturn, 1) := by decide +kernel
theorem dX8_of_78 : decode cX8_of 78 = .ok (.aload_n 3, 1) := by decide +kernel
theorem dX8_of_79 : decode cX8_of 79 = .ok (.iload_n 2, 1) := by decide +kernel
theorem dX8_of_80 : decode cX8_of 80 = .ok (.iconst 4, 1) := by decide +kernel
theorem dX8_of_81 : decode cX8_of 81 = .ok (.isub, 1) := by decide +kernel
theorem dX8_of_82 : decode cX8_of 82 = .ok (.invokevirtual 124, 3) := by decide +kernel
theorem dX8_of_85 : decode cX8_of 85 = .ok (.astore 4, 2) := by decide +kernel
theorem dX8_of_87 : decode cX8_of 87 = .ok (.aload 4, 2) := by decide +kernel
theorem dX8_of_89 : decode cX8_of 89 = .ok (.ifnonnull 8, 3) := by decide +kernel
theorem dX8_of_92 : decode cX8_of 92 = .ok (.bipush (-5), 2) := by decide +kernel
theorem dX8_of_94 : decode cX8_of 94 = .ok (.goto 8, 3) := by decide +kernel
theorem dX8_of_97 : decode cX8_of 97 = .ok (.aload 4, 2) := by decide +kernel
theorem dX8_of_99 : decode cX8_of 99 = .ok (.getfield 127, 3) := by decide +kernel
theorem dX8_of_102 : decode cX8_of 102 = .ok (.ireturn, 1) := by decide +kernel
set_option maxRecDepth 20000 in
theorem ggX8_show_X8_within : GoodIn wsX8_show wsX8_within := goodIn_r _ [6] (by decide +kernel) (by decide +kernel)
set_option maxRecDepth 20000 in
theorem gX8_show_X8_within : GoodIn wsX8_show (va_wsS RX8 72 yX8_within wsX8_within) := goodIn_app (goodIn_of _ (by decide +kernel)) ggX8_show_X8_within
theorem dX8_show_0 : decode cX8_show 0 = .ok (.iload_n 1, 1) := by decide +kernel
theorem dX8_show_1 : decode cX8_show 1 = .ok (.sipush 1024, 3) := by decide +kernel
theorem dX8_show_4 : decode cX8_show 4 = .ok (.invokestatic 72, 3) := by decide +kernel
theorem dX8_show_7 : decode cX8_show 7 = .ok (.ifCond .ne 6, 3) := by decide +kernel
theorem dX8_show_10 : decode cX8_show 10 = .ok (.bipush (-2), 2) := by decide +kernel
theorem dX8_show_12 : decode cX8_show 12 = .ok (.ireturn, 1) := by decide +kernel
theorem dX8_show_13 : decode cX8_show 13 = .ok (.aload_n 0, 1) := by decide +kernel
theorem dX8_show_14 : decode cX8_show 14 = .ok (.getfield 37, 3) := by decide +kernel
theorem dX8_show_17 : decode cX8_show 17 = .ok (.getfield 128, 3) := by decide +kernel
theorem dX8_show_20 : decode cX8_show 20 = .ok (.istore_n 2, 1) := by decide +kernel
theorem dX8_show_21 : decode cX8_show 21 = .ok (.aload_n 0, 1) := by decide +kernel
theorem dX8_show_22 : decode cX8_show 22 = .ok (.getfield 37, 3) := by decide +kernel
theorem dX8_show_25 : decode cX8_show 25 = .ok (.iload_n 1, 1) := by decide +kernel
theorem dX8_show_26 : decode cX8_show 26 = .ok (.putfield 128, 3) := by decide +kernel
theorem dX8_show_29 : decode cX8_show 29 = .ok (.iload_n 2, 1) := by decide +kernel
theorem dX8_show_30 : decode cX8_show 30 = .ok (.ireturn, 1) := by decide +kernel
set_option maxRecDepth 20000 in
theorem ggX8_feed_X8_within : GoodIn wsX8_feed wsX8_within := goodIn_r _ [5] (by decide +kernel) (by decide +kernel)
set_option maxRecDepth 20000 in
theorem gX8_feed_X8_within : GoodIn wsX8_feed (va_wsS RX8 72 yX8_within wsX8_within) := goodIn_app (goodIn_of _ (by decide +kernel)) ggX8_feed_X8_within
set_option maxRecDepth 20000 in
theorem ggX8_feed_X3_append : GoodIn wsX8_feed wsX3_append := goodIn_r _ [9, 10, 11, 22, 23, 24, 25, 26, 27, 28] (by decide +kernel) (by decide +kernel)
set_option maxRecDepth 20000 in
theorem gX8_feed_X3_append_n134 : GoodIn wsX8_feed (wsX3_append) := ggX8_feed_X3_append
theorem dX8_feed_0 : decode cX8_feed 0 = .ok (.iload_n 2, 1) := by decide +kernel
theorem dX8_feed_1 : decode cX8_feed 1 = .ok (.iconst 5, 1) := by decide +kernel
theorem dX8_feed_2 : decode cX8_feed 2 = .ok (.invokestatic 72, 3) := by decide +kernel
theorem dX8_feed_5 : decode cX8_feed 5 = .ok (.ifCond .ne 6, 3) := by decide +kernel
theorem dX8_feed_8 : decode cX8_feed 8 = .ok (.bipush (-2), 2) := by decide +kernel
theorem dX8_feed_10 : decode cX8_feed 10 = .ok (.ireturn, 1) := by decide +kernel
theorem dX8_feed_11 : decode cX8_feed 11 = .ok (.aload_n 0, 1) := by decide +kernel
theorem dX8_feed_12 : decode cX8_feed 12 = .ok (.getfield 30, 3) := by decide +kernel
theorem dX8_feed_15 : decode cX8_feed 15 = .ok (.getfield 131, 3) := by decide +kernel
theorem dX8_feed_18 : decode cX8_feed 18 = .ok (.iload_n 2, 1) := by decide +kernel
theorem dX8_feed_19 : decode cX8_feed 19 = .ok (.iadd, 1) := by decide +kernel
theorem dX8_feed_20 : decode cX8_feed 20 = .ok (.bipush 100, 2) := by decide +kernel
theorem dX8_feed_22 : decode cX8_feed 22 = .ok (.if_icmp .le 6, 3) := by decide +kernel
theorem dX8_feed_25 : decode cX8_feed 25 = .ok (.bipush (-4), 2) := by decide +kernel
theorem dX8_feed_27 : decode cX8_feed 27 = .ok (.ireturn, 1) := by decide +kernel
theorem dX8_feed_28 : decode cX8_feed 28 = .ok (.iload_n 2, 1) := by decide +kernel
theorem dX8_feed_29 : decode cX8_feed 29 = .ok (.iconst 1, 1) := by decide +kernel
theorem dX8_feed_30 : decode cX8_feed 30 = .ok (.isub, 1) := by decide +kernel
theorem dX8_feed_31 : decode cX8_feed 31 = .ok (.istore_n 3, 1) := by decide +kernel
theorem dX8_feed_32 : decode cX8_feed 32 = .ok (.iload_n 3, 1) := by decide +kernel
theorem dX8_feed_33 : decode cX8_feed 33 = .ok (.ifCond .lt 23, 3) := by decide +kernel
theorem dX8_feed_36 : decode cX8_feed 36 = .ok (.aload_n 0, 1) := by decide +kernel
theorem dX8_feed_37 : decode cX8_feed 37 = .ok (.getfield 30, 3) := by decide +kernel
theorem dX8_feed_40 : decode cX8_feed 40 = .ok (.iload_n 1, 1) := by decide +kernel
theorem dX8_feed_41 : decode cX8_feed 41 = .ok (.bipush 8, 2) := by decide +kernel
theorem dX8_feed_43 : decode cX8_feed 43 = .ok (.iload_n 3, 1) := by decide +kernel
theorem dX8_feed_44 : decode cX8_feed 44 = .ok (.imul, 1) := by decide +kernel
theorem dX8_feed_45 : decode cX8_feed 45 = .ok (.ishr, 1) := by decide +kernel
theorem dX8_feed_46 : decode cX8_feed 46 = .ok (.i2b, 1) := by decide +kernel
theorem dX8_feed_47 : decode cX8_feed 47 = .ok (.invokevirtual 134, 3) := by decide +kernel
theorem dX8_feed_50 : decode cX8_feed 50 = .ok (.iinc 3 (-1), 3) := by decide +kernel
theorem dX8_feed_53 : decode cX8_feed 53 = .ok (.goto (-21), 3) := by decide +kernel
theorem dX8_feed_56 : decode cX8_feed 56 = .ok (.aload_n 0, 1) := by decide +kernel
theorem dX8_feed_57 : decode cX8_feed 57 = .ok (.getfield 30, 3) := by decide +kernel
theorem dX8_feed_60 : decode cX8_feed 60 = .ok (.getfield 131, 3) := by decide +kernel
theorem dX8_feed_63 : decode cX8_feed 63 = .ok (.ireturn, 1) := by decide +kernel
set_option maxRecDepth 20000 in
theorem ggX8_rule_X8_within : GoodIn wsX8_rule wsX8_within := goodIn_r _ [6] (by decide +kernel) (by decide +kernel)
set_option maxRecDepth 20000 in
theorem gX8_rule_X8_within : GoodIn wsX8_rule (va_wsS RX8 72 yX8_within wsX8_within) := goodIn_app (goodIn_of _ (by decide +kernel)) ggX8_rule_X8_within
set_option maxRecDepth 20000 in
theorem ggX8_rule_Jx4a65c_size_8abf5 : GoodIn wsX8_rule wsJx4a65c_size_8abf5 := goodIn_r _ [11, 12, 299, 300, 301] (by decide +kernel) (by decide +kernel)
set_option maxRecDepth 20000 in
theorem gX8_rule_Jx4a65c_size_8abf5 : GoodIn wsX8_rule (wsV RX8 80 RJx4a65c yJx4a65c_size_8abf5 wsJx4a65c_size_8abf5) := goodIn_app (goodIn_of _ (by decide +kernel)) ggX8_rule_Jx4a65c_size_8abf5
set_option maxRecDepth 20000 in
theorem ggX8_rule_X3_readRule : GoodIn wsX8_rule wsX3_readRule := goodIn_r _ [16, 17, 18, 19, 20, 21, 22, 23, 24, 25, 26, 27, 28, 29, 30, 31, 32, 10, 33, 34, 35, 36, 37, 38, 39, 40, 41, 42, 43, 44, 45, 46, 47, 48, 49, 50, 51, 52, 53, 14, 54, 55, 56, 57, 58, 59, 60, 61, 62, 63, 64, 65, 66, 67, 68, 69, 70, 71, 72, 73, 74, 75, 76, 77, 78, 79, 80, 81, 82, 83, 84, 85, 86, 87, 88, 89, 90, 91, 92, 93, 94, 95, 96, 97, 98, 99, 100, 101, 102, 103, 104, 105, 106, 107, 108, 109, 110, 111, 112, 113, 114, 115, 116, 117, 118, 119, 120, 121, 122, 123, 124, 125, 126, 127, 128, 129, 130, 131, 132, 133, 134, 135, 136, 137, 138, 139, 140, 141, 142, 143, 144, 145, 146, 147, 148, 149, 150, 151, 152, 153, 154, 155, 156, 157, 158, 159, 160, 161, 162, 163, 164, 165, 166, 167, 168, 169, 170, 171, 172, 173, 174, 175, 176, 177, 178, 179, 180, 181, 182, 183, 184, 185, 186, 187, 188, 189, 190, 191, 192, 193, 194, 195, 196, 197, 198, 199, 200, 201, 202, 203, 204, 205, 206, 207, 208, 209, 210, 211, 212, 213, 214, 215, 216, 217, 218, 219, 220, 221, 222, 223, 224, 225, 226, 227, 228, 229, 230, 231, 232, 233, 234, 235, 236, 237, 238, 239, 8, 9, 11, 12, 240, 241, 242, 243, 244, 245, 246, 247, 248, 249, 250, 251, 252, 253, 254, 255, 256, 257, 258, 259, 260, 261, 262, 263, 264, 265, 266, 267, 268, 269, 270, 271, 272, 273, 274, 275, 276, 277, 278, 279, 280, 292, 293, 294, 295, 296, 297, 298, 302, 303, 304, 305, 306, 307, 308, 299, 300, 301, 309, 310, 311] (by decide +kernel) (by decide +kernel)
set_option maxRecDepth 20000 in
theorem gX8_rule_X3_readRule_n138 : GoodIn wsX8_rule (wsX3_readRule) := ggX8_rule_X3_readRule
set_option maxRecDepth 20000 in
theorem ggX8_rule_Jx4a65c_add_9ea2d : GoodIn wsX8_rule wsJx4a65c_add_9ea2d := goodIn_r _ [243, 244, 245, 40, 12, 246, 247, 248, 10, 249, 250, 251, 252, 253, 254, 255, 256, 257, 39, 258, 61, 62, 63, 259, 260, 261, 262, 263, 264, 265, 266, 267, 268, 269, 270, 210, 271, 272, 273, 274, 275, 276, 277, 278, 279, 280, 219, 107, 108, 220, 221, 222, 223, 299, 300, 301] (by decide +kernel) (by decide +kernel)
set_option maxRecDepth 20000 in
theorem gX8_rule_Jx4a65c_add_9ea2d : GoodIn wsX8_rule (wsV RX8 89 RJx4a65c yJx4a65c_add_9ea2d wsJx4a65c_add_9ea2d) := goodIn_app (goodIn_of _ (by decide +kernel)) ggX8_rule_Jx4a65c_add_9ea2d
theorem dX8_rule_0 : decode cX8_rule 0 = .ok (.iload_n 1, 1) := by decide +kernel
theorem dX8_rule_1 : decode cX8_rule 1 = .ok (.iconst 2, 1) := by decide +kernel
theorem dX8_rule_2 : decode cX8_rule 2 = .ok (.invokestatic 72, 3) := by decide +kernel
theorem dX8_rule_5 : decode cX8_rule 5 = .ok (.ifCond .ne 5, 3) := by decide +kernel
theorem dX8_rule_8 : decode cX8_rule 8 = .ok (.iconst (-1), 1) := by decide +kernel
theorem dX8_rule_9 : decode cX8_rule 9 = .ok (.ireturn, 1) := by decide +kernel
theorem dX8_rule_10 : decode cX8_rule 10 = .ok (.aload_n 0, 1) := by decide +kernel
theorem dX8_rule_11 : decode cX8_rule 11 = .ok (.getfield 24, 3) := by decide +kernel
theorem dX8_rule_14 : decode cX8_rule 14 = .ok (.invokevirtual 80, 3) := by decide +kernel
theorem dX8_rule_17 : decode cX8_rule 17 = .ok (.istore_n 2, 1) := by decide +kernel
theorem dX8_rule_18 : decode cX8_rule 18 = .ok (.iload_n 2, 1) := by decide +kernel
theorem dX8_rule_19 : decode cX8_rule 19 = .ok (.bipush 10, 2) := by decide +kernel
theorem dX8_rule_21 : decode cX8_rule 21 = .ok (.if_icmp .lt 6, 3) := by decide +kernel
theorem dX8_rule_24 : decode cX8_rule 24 = .ok (.bipush (-4), 2) := by decide +kernel
theorem dX8_rule_26 : decode cX8_rule 26 = .ok (.ireturn, 1) := by decide +kernel
theorem dX8_rule_27 : decode cX8_rule 27 = .ok (.aload_n 0, 1) := by decide +kernel
theorem dX8_rule_28 : decode cX8_rule 28 = .ok (.getfield 30, 3) := by decide +kernel
theorem dX8_rule_31 : decode cX8_rule 31 = .ok (.iload_n 2, 1) := by decide +kernel
theorem dX8_rule_32 : decode cX8_rule 32 = .ok (.iload_n 1, 1) := by decide +kernel
theorem dX8_rule_33 : decode cX8_rule 33 = .ok (.invokevirtual 138, 3) := by decide +kernel
theorem dX8_rule_36 : decode cX8_rule 36 = .ok (.astore_n 3, 1) := by decide +kernel
theorem dX8_rule_37 : decode cX8_rule 37 = .ok (.aload_n 0, 1) := by decide +kernel
theorem dX8_rule_38 : decode cX8_rule 38 = .ok (.getfield 30, 3) := by decide +kernel
theorem dX8_rule_41 : decode cX8_rule 41 = .ok (.iconst 0, 1) := by decide +kernel
theorem dX8_rule_42 : decode cX8_rule 42 = .ok (.putfield 131, 3) := by decide +kernel
theorem dX8_rule_45 : decode cX8_rule 45 = .ok (.aload_n 3, 1) := by decide +kernel
theorem dX8_rule_46 : decode cX8_rule 46 = .ok (.ifnonnull 14, 3) := by decide +kernel
theorem dX8_rule_49 : decode cX8_rule 49 = .ok (.bipush (-10), 2) := by decide +kernel
theorem dX8_rule_51 : decode cX8_rule 51 = .ok (.aload_n 0, 1) := by decide +kernel
theorem dX8_rule_52 : decode cX8_rule 52 = .ok (.getfield 30, 3) := by decide +kernel
theorem dX8_rule_55 : decode cX8_rule 55 = .ok (.getfield 142, 3) := by decide +kernel
theorem dX8_rule_58 : decode cX8_rule 58 = .ok (.isub, 1) := by decide +kernel
theorem dX8_rule_59 : decode cX8_rule 59 = .ok (.ireturn, 1) := by decide +kernel
theorem dX8_rule_60 : decode cX8_rule 60 = .ok (.aload_n 0, 1) := by decide +kernel
theorem dX8_rule_61 : decode cX8_rule 61 = .ok (.getfield 24, 3) := by decide +kernel
theorem dX8_rule_64 : decode cX8_rule 64 = .ok (.aload_n 3, 1) := by decide +kernel
theorem dX8_rule_65 : decode cX8_rule 65 = .ok (.invokevirtual 89, 3) := by decide +kernel
theorem dX8_rule_68 : decode cX8_rule 68 = .ok (.pop, 1) := by decide +kernel
theorem dX8_rule_69 : decode cX8_rule 69 = .ok (.iload_n 2, 1) := by decide +kernel
theorem dX8_rule_70 : decode cX8_rule 70 = .ok (.ireturn, 1) := by decide +kernel
set_option maxRecDepth 20000 in
theorem ggX8_judge_Jx4a65c_size_8abf5 : GoodIn wsX8_judge wsJx4a65c_size_8abf5 := goodIn_r _ [8, 9, 27, 28, 29] (by decide +kernel) (by decide +kernel)
set_option maxRecDepth 20000 in
theorem gX8_judge_Jx4a65c_size_8abf5 : GoodIn wsX8_judge (wsV RX8 80 RJx4a65c yJx4a65c_size_8abf5 wsJx4a65c_size_8abf5) := goodIn_app (goodIn_of _ (by decide +kernel)) ggX8_judge_Jx4a65c_size_8abf5
set_option maxRecDepth 20000 in
theorem ggX8_judge_X8_within : GoodIn wsX8_judge wsX8_within := goodIn_r _ [13] (by decide +kernel) (by decide +kernel)
set_option maxRecDepth 20000 in
theorem gX8_judge_X8_within : GoodIn wsX8_judge (va_wsS RX8 72 yX8_within wsX8_within) := goodIn_app (goodIn_of _ (by decide +kernel)) ggX8_judge_X8_within
theorem dX8_judge_0 : decode cX8_judge 0 = .ok (.iload_n 1, 1) := by decide +kernel
theorem dX8_judge_1 : decode cX8_judge 1 = .ok (.iconst 1, 1) := by decide +kernel
theorem dX8_judge_2 : decode cX8_judge 2 = .ok (.aload_n 0, 1) := by decide +kernel
theorem dX8_judge_3 : decode cX8_judge 3 = .ok (.getfield 24, 3) := by decide +kernel
theorem dX8_judge_6 : decode cX8_judge 6 = .ok (.invokevirtual 80, 3) := by decide +kernel
theorem dX8_judge_9 : decode cX8_judge 9 = .ok (.ishl, 1) := by decide +kernel
theorem dX8_judge_10 : decode cX8_judge 10 = .ok (.invokestatic 72, 3) := by decide +kernel
theorem dX8_judge_13 : decode cX8_judge 13 = .ok (.ifCond .ne 6, 3) := by decide +kernel
theorem dX8_judge_16 : decode cX8_judge 16 = .ok (.bipush (-2), 2) := by decide +kernel
theorem dX8_judge_18 : decode cX8_judge 18 = .ok (.ireturn, 1) := by decide +kernel
theorem dX8_judge_19 : decode cX8_judge 19 = .ok (.aload_n 0, 1) := by decide +kernel
theorem dX8_judge_20 : decode cX8_judge 20 = .ok (.getfield 37, 3) := by decide +kernel
theorem dX8_judge_23 : decode cX8_judge 23 = .ok (.getfield 145, 3) := by decide +kernel
theorem dX8_judge_26 : decode cX8_judge 26 = .ok (.istore_n 2, 1) := by decide +kernel
theorem dX8_judge_27 : decode cX8_judge 27 = .ok (.aload_n 0, 1) := by decide +kernel
theorem dX8_judge_28 : decode cX8_judge 28 = .ok (.getfield 37, 3) := by decide +kernel
theorem dX8_judge_31 : decode cX8_judge 31 = .ok (.iload_n 1, 1) := by decide +kernel
theorem dX8_judge_32 : decode cX8_judge 32 = .ok (.putfield 145, 3) := by decide +kernel
theorem dX8_judge_35 : decode cX8_judge 35 = .ok (.iload_n 2, 1) := by decide +kernel
theorem dX8_judge_36 : decode cX8_judge 36 = .ok (.ireturn, 1) := by decide +kernel
set_option maxRecDepth 20000 in
theorem ggX8_meets_X8_ruleAt : GoodIn wsX8_meets wsX8_ruleAt := goodIn_r _ [6, 7, 8, 9, 10, 11, 12, 13, 14, 15, 16, 17, 18, 19, 20, 21, 22, 23, 24, 25, 26, 27, 28, 29, 30, 31, 100, 101, 102, 103, 104, 105, 106, 107, 108, 109, 110, 111, 112] (by decide +kernel) (by decide +kernel)
set_option maxRecDepth 20000 in
theorem gX8_meets_X8_ruleAt : GoodIn wsX8_meets (wsV RX8 148 RX8 yX8_ruleAt wsX8_ruleAt) := goodIn_app (goodIn_of _ (by decide +kernel)) ggX8_meets_X8_ruleAt
set_option maxRecDepth 20000 in
theorem ggX8_meets_X8_wordAt : GoodIn wsX8_meets wsX8_wordAt := goodIn_r _ [35, 36, 37, 9, 10, 11, 12, 13, 14, 15, 16, 17, 18, 19, 20, 21, 22, 23, 24, 25, 26, 27, 28, 29, 30, 31, 100, 101, 102, 103, 104, 105, 106, 107, 108, 109, 110, 111, 112] (by decide +kernel) (by decide +kernel)
set_option maxRecDepth 20000 in
theorem gX8_meets_X8_wordAt : GoodIn wsX8_meets (wsV RX8 95 RX8 yX8_wordAt wsX8_wordAt) := goodIn_app (goodIn_of _ (by decide +kernel)) ggX8_meets_X8_wordAt
set_option maxRecDepth 20000 in
theorem ggX8_meets_X8_within : GoodIn wsX8_meets wsX8_within := goodIn_r _ [40] (by decide +kernel) (by decide +kernel)
set_option maxRecDepth 20000 in
theorem gX8_meets_X8_within : GoodIn wsX8_meets (va_wsS RX8 72 yX8_within wsX8_within) := goodIn_app (goodIn_of _ (by decide +kernel)) ggX8_meets_X8_within
set_option maxRecDepth 20000 in
theorem ggX8_meets_X4_holding : GoodIn wsX8_meets wsX4_holding := goodIn_r _ [45, 46, 47, 48, 49, 50, 51, 52, 53, 54, 55, 56, 57, 58, 59, 10, 11, 12, 13, 14, 60, 16, 17, 18, 19, 20, 21, 22, 23, 24, 25, 26, 27, 28, 29, 30, 31, 61, 62, 63, 64, 65, 66, 67, 68, 69, 70, 71, 72, 73, 74, 113, 114, 115, 116, 117, 118, 119, 120, 121, 122, 123, 124, 125, 126, 127, 128, 129, 130, 131, 132, 110, 111, 112, 133, 134, 135] (by decide +kernel) (by decide +kernel)
set_option maxRecDepth 20000 in
theorem gX8_meets_X4_holding : GoodIn wsX8_meets (wsV RX8 152 RX4 yX4_holding wsX4_holding) := goodIn_app (goodIn_of _ (by decide +kernel)) ggX8_meets_X4_holding
set_option maxRecDepth 20000 in
theorem ggX8_meets_X4_keepsOut : GoodIn wsX8_meets wsX4_keepsOut := goodIn_r _ [78, 79, 80, 81, 82, 83, 84, 5, 85, 86, 87, 88, 44, 89, 49, 50, 90, 51, 91, 59, 10, 11, 12, 13, 14, 60, 16, 17, 18, 19, 20, 21, 22, 23, 24, 25, 26, 27, 28, 29, 30, 31, 126, 127, 128, 129, 130, 131, 132, 123, 124, 125, 133, 134, 135, 110, 111, 112] (by decide +kernel) (by decide +kernel)
set_option maxRecDepth 20000 in
theorem gX8_meets_X4_keepsOut : GoodIn wsX8_meets (wsV RX8 158 RX4 yX4_keepsOut wsX4_keepsOut) := goodIn_app (goodIn_of _ (by decide +kernel)) ggX8_meets_X4_keepsOut
set_option maxRecDepth 20000 in
theorem ggX8_meets_X4_clauseOfWay : GoodIn wsX8_meets wsX4_clauseOfWay := goodIn_r _ [95, 79, 80, 96, 97, 54, 98, 99, 126, 127, 128, 129, 130, 131, 132] (by decide +kernel) (by decide +kernel)
set_option maxRecDepth 20000 in
theorem gX8_meets_X4_clauseOfWay : GoodIn wsX8_meets (wsV RX8 162 RX4 yX4_clauseOfWay wsX4_clauseOfWay) := goodIn_app (goodIn_of _ (by decide +kernel)) ggX8_meets_X4_clauseOfWay
theorem dX8_meets_0 : decode cX8_meets 0 = .ok (.aload_n 0, 1) := by decide +kernel
theorem dX8_meets_1 : decode cX8_meets 1 = .ok (.iload_n 1, 1) := by decide +kernel
theorem dX8_meets_2 : decode cX8_meets 2 = .ok (.invokevirtual 148, 3) := by decide +kernel
theorem dX8_meets_5 : decode cX8_meets 5 = .ok (.astore 5, 2) := by decide +kernel
theorem dX8_meets_7 : decode cX8_meets 7 = .ok (.aload_n 0, 1) := by decide +kernel
theorem dX8_meets_8 : decode cX8_meets 8 = .ok (.iload_n 2, 1) := by decide +kernel
theorem dX8_meets_9 : decode cX8_meets 9 = .ok (.invokevirtual 95, 3) := by decide +kernel
theorem dX8_meets_12 : decode cX8_meets 12 = .ok (.astore 6, 2) := by decide +kernel
theorem dX8_meets_14 : decode cX8_meets 14 = .ok (.aload 5, 2) := by decide +kernel
theorem dX8_meets_16 : decode cX8_meets 16 = .ok (.ifnull 25, 3) := by decide +kernel
theorem dX8_meets_19 : decode cX8_meets 19 = .ok (.aload 6, 2) := by decide +kernel
theorem dX8_meets_21 : decode cX8_meets 21 = .ok (.ifnull 20, 3) := by decide +kernel
theorem dX8_meets_24 : decode cX8_meets 24 = .ok (.iload_n 3, 1) := by decide +kernel
theorem dX8_meets_25 : decode cX8_meets 25 = .ok (.iconst 4, 1) := by decide +kernel
theorem dX8_meets_26 : decode cX8_meets 26 = .ok (.invokestatic 72, 3) := by decide +kernel
theorem dX8_meets_29 : decode cX8_meets 29 = .ok (.ifCond .eq 12, 3) := by decide +kernel
theorem dX8_meets_32 : decode cX8_meets 32 = .ok (.iload 4, 2) := by decide +kernel
theorem dX8_meets_34 : decode cX8_meets 34 = .ok (.iconst 3, 1) := by decide +kernel
theorem dX8_meets_35 : decode cX8_meets 35 = .ok (.invokestatic 72, 3) := by decide +kernel
theorem dX8_meets_38 : decode cX8_meets 38 = .ok (.ifCond .ne 5, 3) := by decide +kernel
theorem dX8_meets_41 : decode cX8_meets 41 = .ok (.iconst (-1), 1) := by decide +kernel
theorem dX8_meets_42 : decode cX8_meets 42 = .ok (.ireturn, 1) := by decide +kernel
theorem dX8_meets_43 : decode cX8_meets 43 = .ok (.aload 5, 2) := by decide +kernel
theorem dX8_meets_45 : decode cX8_meets 45 = .ok (.aload 6, 2) := by decide +kernel
theorem dX8_meets_47 : decode cX8_meets 47 = .ok (.iload_n 3, 1) := by decide +kernel
theorem dX8_meets_48 : decode cX8_meets 48 = .ok (.aload_n 0, 1) := by decide +kernel
theorem dX8_meets_49 : decode cX8_meets 49 = .ok (.getfield 37, 3) := by decide +kernel
theorem dX8_meets_52 : decode cX8_meets 52 = .ok (.invokevirtual 152, 3) := by decide +kernel
theorem dX8_meets_55 : decode cX8_meets 55 = .ok (.istore 7, 2) := by decide +kernel
theorem dX8_meets_57 : decode cX8_meets 57 = .ok (.iload 4, 2) := by decide +kernel
theorem dX8_meets_59 : decode cX8_meets 59 = .ok (.ifCond .ne 14, 3) := by decide +kernel
theorem dX8_meets_62 : decode cX8_meets 62 = .ok (.iload 7, 2) := by decide +kernel
theorem dX8_meets_64 : decode cX8_meets 64 = .ok (.ifCond .eq 7, 3) := by decide +kernel
theorem dX8_meets_67 : decode cX8_meets 67 = .ok (.iconst 1, 1) := by decide +kernel
theorem dX8_meets_68 : decode cX8_meets 68 = .ok (.goto 4, 3) := by decide +kernel
theorem dX8_meets_71 : decode cX8_meets 71 = .ok (.iconst 0, 1) := by decide +kernel
theorem dX8_meets_72 : decode cX8_meets 72 = .ok (.ireturn, 1) := by decide +kernel
theorem dX8_meets_73 : decode cX8_meets 73 = .ok (.iload 4, 2) := by decide +kernel
theorem dX8_meets_75 : decode cX8_meets 75 = .ok (.iconst 1, 1) := by decide +kernel
theorem dX8_meets_76 : decode cX8_meets 76 = .ok (.if_icmp .ne 23, 3) := by decide +kernel
theorem dX8_meets_79 : decode cX8_meets 79 = .ok (.aload 5, 2) := by decide +kernel
theorem dX8_meets_81 : decode cX8_meets 81 = .ok (.iload 7, 2) := by decide +kernel
theorem dX8_meets_83 : decode cX8_meets 83 = .ok (.aload_n 0, 1) := by decide +kernel
theorem dX8_meets_84 : decode cX8_meets 84 = .ok (.getfield 37, 3) := by decide +kernel
theorem dX8_meets_87 : decode cX8_meets 87 = .ok (.invokevirtual 158, 3) := by decide +kernel
theorem dX8_meets_90 : decode cX8_meets 90 = .ok (.ifCond .eq 7, 3) := by decide +kernel
theorem dX8_meets_93 : decode cX8_meets 93 = .ok (.iconst 1, 1) := by decide +kernel
theorem dX8_meets_94 : decode cX8_meets 94 = .ok (.goto 4, 3) := by decide +kernel
theorem dX8_meets_97 : decode cX8_meets 97 = .ok (.iconst 0, 1) := by decide +kernel
theorem dX8_meets_98 : decode cX8_meets 98 = .ok (.ireturn, 1) := by decide +kernel
theorem dX8_meets_99 : decode cX8_meets 99 = .ok (.aload 5, 2) := by decide +kernel
theorem dX8_meets_101 : decode cX8_meets 101 = .ok (.iload 7, 2) := by decide +kernel
theorem dX8_meets_103 : decode cX8_meets 103 = .ok (.invokevirtual 162, 3) := by decide +kernel
theorem dX8_meets_106 : decode cX8_meets 106 = .ok (.istore 8, 2) := by decide +kernel
theorem dX8_meets_108 : decode cX8_meets 108 = .ok (.iload 8, 2) := by decide +kernel
theorem dX8_meets_110 : decode cX8_meets 110 = .ok (.ifCond .ge 8, 3) := by decide +kernel
theorem dX8_meets_113 : decode cX8_meets 113 = .ok (.bipush (-5), 2) := by decide +kernel
theorem dX8_meets_115 : decode cX8_meets 115 = .ok (.goto 5, 3) := by decide +kernel
theorem dX8_meets_118 : decode cX8_meets 118 = .ok (.iload 8, 2) := by decide +kernel
theorem dX8_meets_120 : decode cX8_meets 120 = .ok (.ireturn, 1) := by decide +kernel
set_option maxRecDepth 20000 in
theorem ggX8_heard_X8_wordAt : GoodIn wsX8_heard wsX8_wordAt := goodIn_r _ [6, 7, 8, 9, 10, 11, 12, 13, 14, 15, 16, 17, 18, 19, 20, 21, 22, 23, 24, 25, 26, 27, 28, 29, 30, 31, 106, 107, 108, 109, 110, 111, 112, 113, 114, 115, 116, 117, 118] (by decide +kernel) (by decide +kernel)
set_option maxRecDepth 20000 in
theorem gX8_heard_X8_wordAt : GoodIn wsX8_heard (wsV RX8 95 RX8 yX8_wordAt wsX8_wordAt) := goodIn_app (goodIn_of _ (by decide +kernel)) ggX8_heard_X8_wordAt
set_option maxRecDepth 20000 in
theorem ggX8_heard_X8_isOffer : GoodIn wsX8_heard wsX8_isOffer := goodIn_r _ [34, 35, 36, 5, 37] (by decide +kernel) (by decide +kernel)
set_option maxRecDepth 20000 in
theorem gX8_heard_X8_isOffer : GoodIn wsX8_heard (va_wsS RX8 166 yX8_isOffer wsX8_isOffer) := goodIn_app (goodIn_of _ (by decide +kernel)) ggX8_heard_X8_isOffer
set_option maxRecDepth 20000 in
theorem ggX8_heard_X8_isHeard : GoodIn wsX8_heard wsX8_isHeard := goodIn_r _ [41, 42, 7, 8, 43, 44, 45, 5, 46, 47, 48, 49, 9, 10, 11, 12, 13, 14, 15, 16, 17, 18, 19, 20, 21, 22, 23, 24, 25, 26, 27, 28, 29, 30, 31, 50, 51, 52, 53, 54, 55, 56, 57, 58, 59, 60, 61, 62, 63, 64, 65, 66, 67, 68, 69, 70, 71, 72, 73, 74, 75, 76, 77, 78, 79, 80, 81, 82, 83, 84, 85, 86, 87, 88, 89, 90, 91, 92, 93, 94, 95, 96, 97, 98, 99, 100, 101, 102, 103, 104, 105, 119, 120, 121, 122, 123, 124, 125, 106, 107, 108, 109, 110, 111, 112, 113, 114, 115, 126, 127, 128, 129, 130, 131, 132, 116, 117, 118, 133, 134, 135, 136, 137, 138, 139, 140, 141] (by decide +kernel) (by decide +kernel)
set_option maxRecDepth 20000 in
theorem gX8_heard_X8_isHeard : GoodIn wsX8_heard (wsV RX8 169 RX8 yX8_isHeard wsX8_isHeard) := goodIn_app (goodIn_of _ (by decide +kernel)) ggX8_heard_X8_isHeard
theorem dX8_heard_0 : decode cX8_heard 0 = .ok (.aload_n 0, 1) := by decide +kernel
theorem dX8_heard_1 : decode cX8_heard 1 = .ok (.iload_n 1, 1) := by decide +kernel
theorem dX8_heard_2 : decode cX8_heard 2 = .ok (.invokevirtual 95, 3) := by decide +kernel
theorem dX8_heard_5 : decode cX8_heard 5 = .ok (.astore 4, 2) := by decide +kernel
theorem dX8_heard_7 : decode cX8_heard 7 = .ok (.aload 4, 2) := by decide +kernel
theorem dX8_heard_9 : decode cX8_heard 9 = .ok (.ifnull 11, 3) := by decide +kernel
theorem dX8_heard_12 : decode cX8_heard 12 = .ok (.iload_n 2, 1) := by decide +kernel
theorem dX8_heard_13 : decode cX8_heard 13 = .ok (.iload_n 3, 1) := by decide +kernel
theorem dX8_heard_14 : decode cX8_heard 14 = .ok (.invokestatic 166, 3) := by decide +kernel
theorem dX8_heard_17 : decode cX8_heard 17 = .ok (.ifCond .ne 5, 3) := by decide +kernel
theorem dX8_heard_20 : decode cX8_heard 20 = .ok (.iconst (-1), 1) := by decide +kernel
theorem dX8_heard_21 : decode cX8_heard 21 = .ok (.ireturn, 1) := by decide +kernel
theorem dX8_heard_22 : decode cX8_heard 22 = .ok (.aload_n 0, 1) := by decide +kernel
theorem dX8_heard_23 : decode cX8_heard 23 = .ok (.aload 4, 2) := by decide +kernel
theorem dX8_heard_25 : decode cX8_heard 25 = .ok (.iload_n 2, 1) := by decide +kernel
theorem dX8_heard_26 : decode cX8_heard 26 = .ok (.iload_n 3, 1) := by decide +kernel
theorem dX8_heard_27 : decode cX8_heard 27 = .ok (.aload_n 0, 1) := by decide +kernel
theorem dX8_heard_28 : decode cX8_heard 28 = .ok (.getfield 37, 3) := by decide +kernel
theorem dX8_heard_31 : decode cX8_heard 31 = .ok (.invokevirtual 169, 3) := by decide +kernel
theorem dX8_heard_34 : decode cX8_heard 34 = .ok (.ifCond .eq 7, 3) := by decide +kernel
theorem dX8_heard_37 : decode cX8_heard 37 = .ok (.iconst 1, 1) := by decide +kernel
theorem dX8_heard_38 : decode cX8_heard 38 = .ok (.goto 4, 3) := by decide +kernel
theorem dX8_heard_41 : decode cX8_heard 41 = .ok (.iconst 0, 1) := by decide +kernel
theorem dX8_heard_42 : decode cX8_heard 42 = .ok (.ireturn, 1) := by decide +kernel
set_option maxRecDepth 20000 in
theorem ggX8_why_X8_wordAt : GoodIn wsX8_why wsX8_wordAt := goodIn_r _ [8, 9, 10, 11, 12, 13, 14, 15, 16, 17, 18, 19, 20, 21, 22, 23, 24, 25, 26, 27, 28, 29, 30, 31, 32, 33, 111, 112, 113, 114, 115, 116, 117, 118, 119, 120, 128, 129, 130] (by decide +kernel) (by decide +kernel)
set_option maxRecDepth 20000 in
theorem gX8_why_X8_wordAt : GoodIn wsX8_why (wsV RX8 95 RX8 yX8_wordAt wsX8_wordAt) := goodIn_app (goodIn_of _ (by decide +kernel)) ggX8_why_X8_wordAt
set_option maxRecDepth 20000 in
theorem ggX8_why_X8_isOffer : GoodIn wsX8_why wsX8_isOffer := goodIn_r _ [36, 37, 38, 7, 39] (by decide +kernel) (by decide +kernel)
set_option maxRecDepth 20000 in
theorem gX8_why_X8_isOffer : GoodIn wsX8_why (va_wsS RX8 166 yX8_isOffer wsX8_isOffer) := goodIn_app (goodIn_of _ (by decide +kernel)) ggX8_why_X8_isOffer
set_option maxRecDepth 20000 in
theorem ggX8_why_X8_keeper : GoodIn wsX8_why wsX8_keeper := goodIn_r _ [43, 44, 45, 46, 11, 12, 13, 14, 15, 16, 17, 18, 19, 20, 21, 22, 23, 24, 25, 26, 27, 28, 29, 30, 31, 32, 33, 47, 48, 49, 50, 51, 52, 53, 54, 55, 56, 57, 58, 59, 60, 61, 62, 63, 64, 65, 66, 67, 68, 69, 70, 71, 72, 73, 74, 75, 76, 77, 78, 79, 80, 81, 82, 83, 84, 85, 86, 87, 88, 89, 90, 7, 91, 92, 93, 94, 95, 96, 97, 111, 112, 113, 114, 115, 116, 117, 118, 119, 120, 131, 132, 133, 134, 135, 136, 137, 128, 129, 130, 121, 122, 123, 124, 125, 126, 127, 138, 139, 140, 141, 142, 143, 144, 145, 146] (by decide +kernel) (by decide +kernel)
set_option maxRecDepth 20000 in
theorem gX8_why_X8_keeper : GoodIn wsX8_why (wsV RX8 173 RX8 yX8_keeper wsX8_keeper) := goodIn_app (goodIn_of _ (by decide +kernel)) ggX8_why_X8_keeper
set_option maxRecDepth 20000 in
theorem ggX8_why_X8_withParts : GoodIn wsX8_why wsX8_withParts := goodIn_r _ [101, 9, 10, 2, 11, 12, 13, 14, 15, 16, 102, 90, 7, 91, 17, 18, 19, 20, 21, 22, 23, 24, 25, 26, 27, 28, 29, 30, 31, 32, 33, 111, 112, 113, 114, 115, 116, 117, 118, 119, 120, 121, 122, 123, 124, 125, 126, 127, 128, 129, 130] (by decide +kernel) (by decide +kernel)
set_option maxRecDepth 20000 in
theorem gX8_why_X8_withParts : GoodIn wsX8_why (wsV RX8 177 RX8 yX8_withParts wsX8_withParts) := goodIn_app (goodIn_of _ (by decide +kernel)) ggX8_why_X8_withParts
set_option maxRecDepth 20000 in
theorem ggX8_why_X8_heardToPartsEnd : GoodIn wsX8_why wsX8_heardToPartsEnd := goodIn_r _ [106, 9, 10, 2, 11, 12, 13, 14, 15, 16, 17, 18, 19, 20, 21, 22, 23, 24, 25, 26, 27, 28, 29, 30, 31, 32, 33, 102, 90, 7, 91, 40, 41, 42, 43, 44, 45, 46, 47, 48, 49, 50, 51, 52, 53, 54, 55, 56, 57, 58, 59, 60, 61, 62, 63, 64, 65, 66, 67, 68, 69, 70, 71, 72, 73, 74, 75, 76, 77, 78, 79, 80, 81, 82, 83, 84, 85, 86, 87, 88, 89, 92, 93, 94, 95, 96, 97, 111, 112, 113, 114, 115, 116, 117, 118, 119, 120, 121, 122, 123, 124, 125, 126, 127, 128, 129, 130, 131, 132, 133, 134, 135, 136, 137, 138, 139, 140, 141, 142, 143, 144, 145, 146] (by decide +kernel) (by decide +kernel)
set_option maxRecDepth 20000 in
theorem gX8_why_X8_heardToPartsEnd : GoodIn wsX8_why (wsV RX8 180 RX8 yX8_heardToPartsEnd wsX8_heardToPartsEnd) := goodIn_app (goodIn_of _ (by decide +kernel)) ggX8_why_X8_heardToPartsEnd
set_option maxRecDepth 20000 in
theorem ggX8_why_X8_firstUnheard : GoodIn wsX8_why wsX8_firstUnheard := goodIn_r _ [109, 110, 10, 3, 11, 12, 13, 14, 15, 16, 17, 18, 19, 20, 21, 22, 23, 24, 25, 26, 27, 28, 29, 30, 31, 32, 33, 102, 90, 7, 91, 121, 122, 123, 124, 125, 126, 127, 128, 129, 130] (by decide +kernel) (by decide +kernel)
set_option maxRecDepth 20000 in
theorem gX8_why_X8_firstUnheard : GoodIn wsX8_why (va_wsS RX8 184 yX8_firstUnheard wsX8_firstUnheard) := goodIn_app (goodIn_of _ (by decide +kernel)) ggX8_why_X8_firstUnheard
theorem dX8_why_0 : decode cX8_why 0 = .ok (.aload_n 0, 1) := by decide +kernel
theorem dX8_why_1 : decode cX8_why 1 = .ok (.iload_n 1, 1) := by decide +kernel
theorem dX8_why_2 : decode cX8_why 2 = .ok (.invokevirtual 95, 3) := by decide +kernel
theorem dX8_why_5 : decode cX8_why 5 = .ok (.astore 4, 2) := by decide +kernel
theorem dX8_why_7 : decode cX8_why 7 = .ok (.aload 4, 2) := by decide +kernel
theorem dX8_why_9 : decode cX8_why 9 = .ok (.ifnull 11, 3) := by decide +kernel
theorem dX8_why_12 : decode cX8_why 12 = .ok (.iload_n 2, 1) := by decide +kernel
theorem dX8_why_13 : decode cX8_why 13 = .ok (.iload_n 3, 1) := by decide +kernel
theorem dX8_why_14 : decode cX8_why 14 = .ok (.invokestatic 166, 3) := by decide +kernel
theorem dX8_why_17 : decode cX8_why 17 = .ok (.ifCond .ne 5, 3) := by decide +kernel
theorem dX8_why_20 : decode cX8_why 20 = .ok (.iconst (-1), 1) := by decide +kernel
theorem dX8_why_21 : decode cX8_why 21 = .ok (.ireturn, 1) := by decide +kernel
theorem dX8_why_22 : decode cX8_why 22 = .ok (.aload_n 0, 1) := by decide +kernel
theorem dX8_why_23 : decode cX8_why 23 = .ok (.aload 4, 2) := by decide +kernel
theorem dX8_why_25 : decode cX8_why 25 = .ok (.iload_n 2, 1) := by decide +kernel
theorem dX8_why_26 : decode cX8_why 26 = .ok (.iload_n 3, 1) := by decide +kernel
theorem dX8_why_27 : decode cX8_why 27 = .ok (.aload_n 0, 1) := by decide +kernel
theorem dX8_why_28 : decode cX8_why 28 = .ok (.getfield 37, 3) := by decide +kernel
theorem dX8_why_31 : decode cX8_why 31 = .ok (.invokevirtual 173, 3) := by decide +kernel
theorem dX8_why_34 : decode cX8_why 34 = .ok (.istore 5, 2) := by decide +kernel
theorem dX8_why_36 : decode cX8_why 36 = .ok (.iload 5, 2) := by decide +kernel
theorem dX8_why_38 : decode cX8_why 38 = .ok (.ifCond .lt 11, 3) := by decide +kernel
theorem dX8_why_41 : decode cX8_why 41 = .ok (.bipush 100, 2) := by decide +kernel
theorem dX8_why_43 : decode cX8_why 43 = .ok (.iload_n 1, 1) := by decide +kernel
theorem dX8_why_44 : decode cX8_why 44 = .ok (.imul, 1) := by decide +kernel
theorem dX8_why_45 : decode cX8_why 45 = .ok (.iload 5, 2) := by decide +kernel
theorem dX8_why_47 : decode cX8_why 47 = .ok (.iadd, 1) := by decide +kernel
theorem dX8_why_48 : decode cX8_why 48 = .ok (.ireturn, 1) := by decide +kernel
theorem dX8_why_49 : decode cX8_why 49 = .ok (.aload_n 0, 1) := by decide +kernel
theorem dX8_why_50 : decode cX8_why 50 = .ok (.aload_n 0, 1) := by decide +kernel
theorem dX8_why_51 : decode cX8_why 51 = .ok (.aload 4, 2) := by decide +kernel
theorem dX8_why_53 : decode cX8_why 53 = .ok (.getfield 102, 3) := by decide +kernel
theorem dX8_why_56 : decode cX8_why 56 = .ok (.invokevirtual 177, 3) := by decide +kernel
theorem dX8_why_59 : decode cX8_why 59 = .ok (.iload_n 3, 1) := by decide +kernel
theorem dX8_why_60 : decode cX8_why 60 = .ok (.aload_n 0, 1) := by decide +kernel
theorem dX8_why_61 : decode cX8_why 61 = .ok (.getfield 37, 3) := by decide +kernel
theorem dX8_why_64 : decode cX8_why 64 = .ok (.invokevirtual 180, 3) := by decide +kernel
theorem dX8_why_67 : decode cX8_why 67 = .ok (.istore 6, 2) := by decide +kernel
theorem dX8_why_69 : decode cX8_why 69 = .ok (.iconst 0, 1) := by decide +kernel
theorem dX8_why_70 : decode cX8_why 70 = .ok (.istore 7, 2) := by decide +kernel
theorem dX8_why_72 : decode cX8_why 72 = .ok (.iload 7, 2) := by decide +kernel
theorem dX8_why_74 : decode cX8_why 74 = .ok (.bipush 14, 2) := by decide +kernel
theorem dX8_why_76 : decode cX8_why 76 = .ok (.if_icmp .ge 62, 3) := by decide +kernel
theorem dX8_why_79 : decode cX8_why 79 = .ok (.iload_n 2, 1) := by decide +kernel
theorem dX8_why_80 : decode cX8_why 80 = .ok (.iconst 1, 1) := by decide +kernel
theorem dX8_why_81 : decode cX8_why 81 = .ok (.if_icmp .eq 57, 3) := by decide +kernel
theorem dX8_why_84 : decode cX8_why 84 = .ok (.aload 4, 2) := by decide +kernel
theorem dX8_why_86 : decode cX8_why 86 = .ok (.iload 6, 2) := by decide +kernel
theorem dX8_why_88 : decode cX8_why 88 = .ok (.invokestatic 184, 3) := by decide +kernel
theorem dX8_why_91 : decode cX8_why 91 = .ok (.astore 4, 2) := by decide +kernel
theorem dX8_why_93 : decode cX8_why 93 = .ok (.aload 4, 2) := by decide +kernel
theorem dX8_why_95 : decode cX8_why 95 = .ok (.ifnonnull 6, 3) := by decide +kernel
theorem dX8_why_98 : decode cX8_why 98 = .ok (.bipush (-5), 2) := by decide +kernel
theorem dX8_why_100 : decode cX8_why 100 = .ok (.ireturn, 1) := by decide +kernel
theorem dX8_why_101 : decode cX8_why 101 = .ok (.aload_n 0, 1) := by decide +kernel
theorem dX8_why_102 : decode cX8_why 102 = .ok (.aload 4, 2) := by decide +kernel
theorem dX8_why_104 : decode cX8_why 104 = .ok (.iconst 0, 1) := by decide +kernel
theorem dX8_why_105 : decode cX8_why 105 = .ok (.iload_n 3, 1) := by decide +kernel
theorem dX8_why_106 : decode cX8_why 106 = .ok (.aload_n 0, 1) := by decide +kernel
theorem dX8_why_107 : decode cX8_why 107 = .ok (.getfield 37, 3) := by decide +kernel
theorem dX8_why_110 : decode cX8_why 110 = .ok (.invokevirtual 173, 3) := by decide +kernel
theorem dX8_why_113 : decode cX8_why 113 = .ok (.istore 5, 2) := by decide +kernel
theorem dX8_why_115 : decode cX8_why 115 = .ok (.iload 5, 2) := by decide +kernel
theorem dX8_why_117 : decode cX8_why 117 = .ok (.ifCond .lt 15, 3) := by decide +kernel
theorem dX8_why_120 : decode cX8_why 120 = .ok (.bipush 100, 2) := by decide +kernel
theorem dX8_why_122 : decode cX8_why 122 = .ok (.aload 4, 2) := by decide +kernel
theorem dX8_why_124 : decode cX8_why 124 = .ok (.getfield 127, 3) := by decide +kernel
theorem dX8_why_127 : decode cX8_why 127 = .ok (.imul, 1) := by decide +kernel
theorem dX8_why_128 : decode cX8_why 128 = .ok (.iload 5, 2) := by decide +kernel
theorem dX8_why_130 : decode cX8_why 130 = .ok (.iadd, 1) := by decide +kernel
theorem dX8_why_131 : decode cX8_why 131 = .ok (.ireturn, 1) := by decide +kernel
theorem dX8_why_132 : decode cX8_why 132 = .ok (.iinc 7 1, 3) := by decide +kernel
theorem dX8_why_135 : decode cX8_why 135 = .ok (.goto (-63), 3) := by decide +kernel
theorem dX8_why_138 : decode cX8_why 138 = .ok (.bipush (-5), 2) := by decide +kernel
theorem dX8_why_140 : decode cX8_why 140 = .ok (.ireturn, 1) := by decide +kernel
set_option maxRecDepth 20000 in
theorem ggX8_least_X8_wordAt : GoodIn wsX8_least wsX8_wordAt := goodIn_r _ [8, 9, 10, 11, 12, 13, 14, 15, 16, 17, 18, 19, 20, 21, 22, 23, 24, 25, 26, 27, 28, 29, 30, 31, 32, 33, 120, 121, 122, 123, 124, 125, 126, 127, 128, 129, 133, 134, 135] (by decide +kernel) (by decide +kernel)
set_option maxRecDepth 20000 in
theorem gX8_least_X8_wordAt : GoodIn wsX8_least (wsV RX8 95 RX8 yX8_wordAt wsX8_wordAt) := goodIn_app (goodIn_of _ (by decide +kernel)) ggX8_least_X8_wordAt
set_option maxRecDepth 20000 in
theorem ggX8_least_X8_isOffer : GoodIn wsX8_least wsX8_isOffer := goodIn_r _ [36, 37, 38, 7, 39] (by decide +kernel) (by decide +kernel)
set_option maxRecDepth 20000 in
theorem gX8_least_X8_isOffer : GoodIn wsX8_least (va_wsS RX8 166 yX8_isOffer wsX8_isOffer) := goodIn_app (goodIn_of _ (by decide +kernel)) ggX8_least_X8_isOffer
set_option maxRecDepth 20000 in
theorem ggX8_least_X8_within : GoodIn wsX8_least wsX8_within := goodIn_r _ [39] (by decide +kernel) (by decide +kernel)
set_option maxRecDepth 20000 in
theorem gX8_least_X8_within : GoodIn wsX8_least (va_wsS RX8 72 yX8_within wsX8_within) := goodIn_app (goodIn_of _ (by decide +kernel)) ggX8_least_X8_within
set_option maxRecDepth 20000 in
theorem ggX8_least_X8_factsAsked : GoodIn wsX8_least wsX8_factsAsked := goodIn_r _ [43, 44, 45, 46, 47, 11, 12, 13, 14, 15, 16, 17, 18, 19, 20, 21, 22, 23, 24, 25, 26, 27, 28, 29, 30, 31, 32, 33, 120, 121, 122, 123, 124, 125, 126, 127, 128, 129, 136, 137, 138, 139, 140, 141, 142, 133, 134, 135] (by decide +kernel) (by decide +kernel)
set_option maxRecDepth 20000 in
theorem gX8_least_X8_factsAsked : GoodIn wsX8_least (wsV RX8 188 RX8 yX8_factsAsked wsX8_factsAsked) := goodIn_app (goodIn_of _ (by decide +kernel)) ggX8_least_X8_factsAsked
set_option maxRecDepth 20000 in
theorem ggX8_least_J6_bitCount_0f7a4 : GoodIn wsX8_least wsJ6_bitCount_0f7a4 := goodIn_r _ [51, 52, 53, 54] (by decide +kernel) (by decide +kernel)
set_option maxRecDepth 20000 in
theorem gX8_least_J6_bitCount_0f7a4 : GoodIn wsX8_least (va_wsS RX8 191 yJ6_bitCount_0f7a4 wsJ6_bitCount_0f7a4) := goodIn_app (goodIn_of _ (by decide +kernel)) ggX8_least_J6_bitCount_0f7a4
set_option maxRecDepth 20000 in
theorem ggX8_least_X8_suppose : GoodIn wsX8_least wsX8_suppose := goodIn_r _ [58, 59, 2, 3, 60, 120, 121, 122, 123, 124, 125, 126, 127, 128, 129, 130, 131, 132] (by decide +kernel) (by decide +kernel)
set_option maxRecDepth 20000 in
theorem gX8_least_X8_suppose : GoodIn wsX8_least (wsV RX8 196 RX8 yX8_suppose wsX8_suppose) := goodIn_app (goodIn_of _ (by decide +kernel)) ggX8_least_X8_suppose
set_option maxRecDepth 20000 in
theorem ggX8_least_X8_isHeard : GoodIn wsX8_least wsX8_isHeard := goodIn_r _ [64, 65, 9, 10, 66, 67, 68, 7, 69, 44, 45, 46, 11, 12, 13, 14, 15, 16, 17, 18, 19, 20, 21, 22, 23, 24, 25, 26, 27, 28, 29, 30, 31, 32, 33, 70, 71, 72, 73, 74, 75, 76, 77, 78, 79, 80, 81, 49, 50, 51, 52, 53, 54, 82, 83, 84, 85, 86, 87, 88, 89, 90, 91, 92, 93, 94, 95, 96, 97, 98, 99, 100, 101, 102, 103, 104, 105, 106, 107, 108, 109, 110, 111, 112, 113, 114, 115, 116, 117, 118, 119, 143, 144, 145, 146, 147, 148, 149, 120, 121, 122, 123, 124, 125, 126, 127, 128, 129, 136, 137, 138, 139, 140, 141, 142, 133, 134, 135, 150, 151, 152, 130, 131, 132, 153, 154, 155] (by decide +kernel) (by decide +kernel)
set_option maxRecDepth 20000 in
theorem gX8_least_X8_isHeard : GoodIn wsX8_least (wsV RX8 169 RX8 yX8_isHeard wsX8_isHeard) := goodIn_app (goodIn_of _ (by decide +kernel)) ggX8_least_X8_isHeard
theorem dX8_least_0 : decode cX8_least 0 = .ok (.aload_n 0, 1) := by decide +kernel
theorem dX8_least_1 : decode cX8_least 1 = .ok (.iload_n 1, 1) := by decide +kernel
theorem dX8_least_2 : decode cX8_least 2 = .ok (.invokevirtual 95, 3) := by decide +kernel
theorem dX8_least_5 : decode cX8_least 5 = .ok (.astore 5, 2) := by decide +kernel
theorem dX8_least_7 : decode cX8_least 7 = .ok (.aload 5, 2) := by decide +kernel
theorem dX8_least_9 : decode cX8_least 9 = .ok (.ifnull 20, 3) := by decide +kernel
theorem dX8_least_12 : decode cX8_least 12 = .ok (.iload_n 2, 1) := by decide +kernel
theorem dX8_least_13 : decode cX8_least 13 = .ok (.iload_n 3, 1) := by decide +kernel
theorem dX8_least_14 : decode cX8_least 14 = .ok (.invokestatic 166, 3) := by decide +kernel
theorem dX8_least_17 : decode cX8_least 17 = .ok (.ifCond .eq 12, 3) := by decide +kernel
theorem dX8_least_20 : decode cX8_least 20 = .ok (.iload 4, 2) := by decide +kernel
theorem dX8_least_22 : decode cX8_least 22 = .ok (.iconst 2, 1) := by decide +kernel
theorem dX8_least_23 : decode cX8_least 23 = .ok (.invokestatic 72, 3) := by decide +kernel
theorem dX8_least_26 : decode cX8_least 26 = .ok (.ifCond .ne 5, 3) := by decide +kernel
theorem dX8_least_29 : decode cX8_least 29 = .ok (.iconst (-1), 1) := by decide +kernel
theorem dX8_least_30 : decode cX8_least 30 = .ok (.ireturn, 1) := by decide +kernel
theorem dX8_least_31 : decode cX8_least 31 = .ok (.aload_n 0, 1) := by decide +kernel
theorem dX8_least_32 : decode cX8_least 32 = .ok (.iload_n 3, 1) := by decide +kernel
theorem dX8_least_33 : decode cX8_least 33 = .ok (.invokevirtual 188, 3) := by decide +kernel
theorem dX8_least_36 : decode cX8_least 36 = .ok (.aload_n 0, 1) := by decide +kernel
theorem dX8_least_37 : decode cX8_least 37 = .ok (.getfield 37, 3) := by decide +kernel
theorem dX8_least_40 : decode cX8_least 40 = .ok (.getfield 128, 3) := by decide +kernel
theorem dX8_least_43 : decode cX8_least 43 = .ok (.iconst (-1), 1) := by decide +kernel
theorem dX8_least_44 : decode cX8_least 44 = .ok (.ixor, 1) := by decide +kernel
theorem dX8_least_45 : decode cX8_least 45 = .ok (.iand, 1) := by decide +kernel
theorem dX8_least_46 : decode cX8_least 46 = .ok (.istore 6, 2) := by decide +kernel
theorem dX8_least_48 : decode cX8_least 48 = .ok (.bipush 11, 2) := by decide +kernel
theorem dX8_least_50 : decode cX8_least 50 = .ok (.istore 7, 2) := by decide +kernel
theorem dX8_least_52 : decode cX8_least 52 = .ok (.bipush (-5), 2) := by decide +kernel
theorem dX8_least_54 : decode cX8_least 54 = .ok (.istore 8, 2) := by decide +kernel
theorem dX8_least_56 : decode cX8_least 56 = .ok (.iconst 0, 1) := by decide +kernel
theorem dX8_least_57 : decode cX8_least 57 = .ok (.istore 9, 2) := by decide +kernel
theorem dX8_least_59 : decode cX8_least 59 = .ok (.iconst 0, 1) := by decide +kernel
theorem dX8_least_60 : decode cX8_least 60 = .ok (.istore 10, 2) := by decide +kernel
theorem dX8_least_62 : decode cX8_least 62 = .ok (.iload 10, 2) := by decide +kernel
theorem dX8_least_64 : decode cX8_least 64 = .ok (.sipush 1024, 3) := by decide +kernel
theorem dX8_least_67 : decode cX8_least 67 = .ok (.if_icmp .ge 93, 3) := by decide +kernel
theorem dX8_least_70 : decode cX8_least 70 = .ok (.iload 10, 2) := by decide +kernel
theorem dX8_least_72 : decode cX8_least 72 = .ok (.invokestatic 191, 3) := by decide +kernel
theorem dX8_least_75 : decode cX8_least 75 = .ok (.istore 11, 2) := by decide +kernel
theorem dX8_least_77 : decode cX8_least 77 = .ok (.iload 10, 2) := by decide +kernel
theorem dX8_least_79 : decode cX8_least 79 = .ok (.iload 6, 2) := by decide +kernel
theorem dX8_least_81 : decode cX8_least 81 = .ok (.iconst (-1), 1) := by decide +kernel
theorem dX8_least_82 : decode cX8_least 82 = .ok (.ixor, 1) := by decide +kernel
theorem dX8_least_83 : decode cX8_least 83 = .ok (.iand, 1) := by decide +kernel
theorem dX8_least_84 : decode cX8_least 84 = .ok (.ifCond .ne 70, 3) := by decide +kernel
theorem dX8_least_87 : decode cX8_least 87 = .ok (.iload 11, 2) := by decide +kernel
theorem dX8_least_89 : decode cX8_least 89 = .ok (.iload 7, 2) := by decide +kernel
theorem dX8_least_91 : decode cX8_least 91 = .ok (.if_icmp .le 6, 3) := by decide +kernel
theorem dX8_least_94 : decode cX8_least 94 = .ok (.goto 60, 3) := by decide +kernel
theorem dX8_least_97 : decode cX8_least 97 = .ok (.aload_n 0, 1) := by decide +kernel
theorem dX8_least_98 : decode cX8_least 98 = .ok (.aload 5, 2) := by decide +kernel
theorem dX8_least_100 : decode cX8_least 100 = .ok (.iload_n 2, 1) := by decide +kernel
theorem dX8_least_101 : decode cX8_least 101 = .ok (.iload_n 3, 1) := by decide +kernel
theorem dX8_least_102 : decode cX8_least 102 = .ok (.aload_n 0, 1) := by decide +kernel
theorem dX8_least_103 : decode cX8_least 103 = .ok (.aload_n 0, 1) := by decide +kernel
theorem dX8_least_104 : decode cX8_least 104 = .ok (.getfield 37, 3) := by decide +kernel
theorem dX8_least_107 : decode cX8_least 107 = .ok (.getfield 128, 3) := by decide +kernel
theorem dX8_least_110 : decode cX8_least 110 = .ok (.iload 10, 2) := by decide +kernel
theorem dX8_least_112 : decode cX8_least 112 = .ok (.ior, 1) := by decide +kernel
theorem dX8_least_113 : decode cX8_least 113 = .ok (.aload_n 0, 1) := by decide +kernel
theorem dX8_least_114 : decode cX8_least 114 = .ok (.getfield 37, 3) := by decide +kernel
theorem dX8_least_117 : decode cX8_least 117 = .ok (.getfield 145, 3) := by decide +kernel
theorem dX8_least_120 : decode cX8_least 120 = .ok (.iconst 0, 1) := by decide +kernel
theorem dX8_least_121 : decode cX8_least 121 = .ok (.invokevirtual 196, 3) := by decide +kernel
theorem dX8_least_124 : decode cX8_least 124 = .ok (.invokevirtual 169, 3) := by decide +kernel
theorem dX8_least_127 : decode cX8_least 127 = .ok (.ifCond .ne 6, 3) := by decide +kernel
theorem dX8_least_130 : decode cX8_least 130 = .ok (.goto 24, 3) := by decide +kernel
theorem dX8_least_133 : decode cX8_least 133 = .ok (.iload 11, 2) := by decide +kernel
theorem dX8_least_135 : decode cX8_least 135 = .ok (.iload 7, 2) := by decide +kernel
theorem dX8_least_137 : decode cX8_least 137 = .ok (.if_icmp .ge 14, 3) := by decide +kernel
theorem dX8_least_140 : decode cX8_least 140 = .ok (.iload 11, 2) := by decide +kernel
theorem dX8_least_142 : decode cX8_least 142 = .ok (.istore 7, 2) := by decide +kernel
theorem dX8_least_144 : decode cX8_least 144 = .ok (.iload 10, 2) := by decide +kernel
theorem dX8_least_146 : decode cX8_least 146 = .ok (.istore 8, 2) := by decide +kernel
theorem dX8_least_148 : decode cX8_least 148 = .ok (.iconst 0, 1) := by decide +kernel
theorem dX8_least_149 : decode cX8_least 149 = .ok (.istore 9, 2) := by decide +kernel
theorem dX8_least_151 : decode cX8_least 151 = .ok (.iinc 9 1, 3) := by decide +kernel
theorem dX8_least_154 : decode cX8_least 154 = .ok (.iinc 10 1, 3) := by decide +kernel
theorem dX8_least_157 : decode cX8_least 157 = .ok (.goto (-95), 3) := by decide +kernel
theorem dX8_least_160 : decode cX8_least 160 = .ok (.iload 4, 2) := by decide +kernel
theorem dX8_least_162 : decode cX8_least 162 = .ok (.ifCond .ne 8, 3) := by decide +kernel
theorem dX8_least_165 : decode cX8_least 165 = .ok (.iload 8, 2) := by decide +kernel
theorem dX8_least_167 : decode cX8_least 167 = .ok (.goto 5, 3) := by decide +kernel
theorem dX8_least_170 : decode cX8_least 170 = .ok (.iload 9, 2) := by decide +kernel
theorem dX8_least_172 : decode cX8_least 172 = .ok (.ireturn, 1) := by decide +kernel
set_option maxRecDepth 20000 in
theorem ggX8_ends_X8_wordAt : GoodIn wsX8_ends wsX8_wordAt := goodIn_r _ [6, 7, 8, 9, 10, 11, 12, 13, 14, 15, 16, 17, 18, 19, 20, 21, 22, 23, 24, 25, 26, 27, 28, 29, 30, 31, 103, 104, 105, 106, 107, 108, 109, 110, 111, 112, 113, 114, 115] (by decide +kernel) (by decide +kernel)
set_option maxRecDepth 20000 in
theorem gX8_ends_X8_wordAt : GoodIn wsX8_ends (wsV RX8 95 RX8 yX8_wordAt wsX8_wordAt) := goodIn_app (goodIn_of _ (by decide +kernel)) ggX8_ends_X8_wordAt
set_option maxRecDepth 20000 in
theorem ggX8_ends_X8_within : GoodIn wsX8_ends wsX8_within := goodIn_r _ [34] (by decide +kernel) (by decide +kernel)
set_option maxRecDepth 20000 in
theorem gX8_ends_X8_within : GoodIn wsX8_ends (va_wsS RX8 72 yX8_within wsX8_within) := goodIn_app (goodIn_of _ (by decide +kernel)) ggX8_ends_X8_within
set_option maxRecDepth 20000 in
theorem ggX8_ends_X8_isHeard : GoodIn wsX8_ends wsX8_isHeard := goodIn_r _ [38, 39, 7, 8, 40, 41, 42, 5, 43, 44, 45, 46, 9, 10, 11, 12, 13, 14, 15, 16, 17, 18, 19, 20, 21, 22, 23, 24, 25, 26, 27, 28, 29, 30, 31, 47, 48, 49, 50, 51, 52, 53, 54, 55, 56, 57, 58, 59, 60, 61, 62, 63, 64, 65, 66, 67, 68, 69, 70, 71, 72, 73, 74, 75, 76, 77, 78, 79, 80, 81, 82, 83, 84, 85, 86, 87, 88, 89, 90, 91, 92, 93, 94, 95, 96, 97, 98, 99, 100, 101, 102, 116, 117, 118, 119, 120, 121, 122, 103, 104, 105, 106, 107, 108, 109, 110, 111, 112, 123, 124, 125, 126, 127, 128, 129, 113, 114, 115, 130, 131, 132, 133, 134, 135, 136, 137, 138] (by decide +kernel) (by decide +kernel)
set_option maxRecDepth 20000 in
theorem gX8_ends_X8_isHeard : GoodIn wsX8_ends (wsV RX8 169 RX8 yX8_isHeard wsX8_isHeard) := goodIn_app (goodIn_of _ (by decide +kernel)) ggX8_ends_X8_isHeard
theorem dX8_ends_0 : decode cX8_ends 0 = .ok (.aload_n 0, 1) := by decide +kernel
theorem dX8_ends_1 : decode cX8_ends 1 = .ok (.iload_n 1, 1) := by decide +kernel
theorem dX8_ends_2 : decode cX8_ends 2 = .ok (.invokevirtual 95, 3) := by decide +kernel
theorem dX8_ends_5 : decode cX8_ends 5 = .ok (.astore_n 3, 1) := by decide +kernel
theorem dX8_ends_6 : decode cX8_ends 6 = .ok (.aload_n 3, 1) := by decide +kernel
theorem dX8_ends_7 : decode cX8_ends 7 = .ok (.ifnull 11, 3) := by decide +kernel
theorem dX8_ends_10 : decode cX8_ends 10 = .ok (.iload_n 2, 1) := by decide +kernel
theorem dX8_ends_11 : decode cX8_ends 11 = .ok (.iconst 2, 1) := by decide +kernel
theorem dX8_ends_12 : decode cX8_ends 12 = .ok (.invokestatic 72, 3) := by decide +kernel
theorem dX8_ends_15 : decode cX8_ends 15 = .ok (.ifCond .ne 5, 3) := by decide +kernel
theorem dX8_ends_18 : decode cX8_ends 18 = .ok (.iconst (-1), 1) := by decide +kernel
theorem dX8_ends_19 : decode cX8_ends 19 = .ok (.ireturn, 1) := by decide +kernel
theorem dX8_ends_20 : decode cX8_ends 20 = .ok (.iconst 0, 1) := by decide +kernel
theorem dX8_ends_21 : decode cX8_ends 21 = .ok (.istore 4, 2) := by decide +kernel
theorem dX8_ends_23 : decode cX8_ends 23 = .ok (.iconst 0, 1) := by decide +kernel
theorem dX8_ends_24 : decode cX8_ends 24 = .ok (.istore 5, 2) := by decide +kernel
theorem dX8_ends_26 : decode cX8_ends 26 = .ok (.iload 5, 2) := by decide +kernel
theorem dX8_ends_28 : decode cX8_ends 28 = .ok (.iconst 4, 1) := by decide +kernel
theorem dX8_ends_29 : decode cX8_ends 29 = .ok (.if_icmp .ge 33, 3) := by decide +kernel
theorem dX8_ends_32 : decode cX8_ends 32 = .ok (.aload_n 0, 1) := by decide +kernel
theorem dX8_ends_33 : decode cX8_ends 33 = .ok (.aload_n 3, 1) := by decide +kernel
theorem dX8_ends_34 : decode cX8_ends 34 = .ok (.iload 5, 2) := by decide +kernel
theorem dX8_ends_36 : decode cX8_ends 36 = .ok (.iload_n 2, 1) := by decide +kernel
theorem dX8_ends_37 : decode cX8_ends 37 = .ok (.aload_n 0, 1) := by decide +kernel
theorem dX8_ends_38 : decode cX8_ends 38 = .ok (.getfield 37, 3) := by decide +kernel
theorem dX8_ends_41 : decode cX8_ends 41 = .ok (.invokevirtual 169, 3) := by decide +kernel
theorem dX8_ends_44 : decode cX8_ends 44 = .ok (.ifCond .eq 12, 3) := by decide +kernel
theorem dX8_ends_47 : decode cX8_ends 47 = .ok (.iload 4, 2) := by decide +kernel
theorem dX8_ends_49 : decode cX8_ends 49 = .ok (.iconst 1, 1) := by decide +kernel
theorem dX8_ends_50 : decode cX8_ends 50 = .ok (.iload 5, 2) := by decide +kernel
theorem dX8_ends_52 : decode cX8_ends 52 = .ok (.ishl, 1) := by decide +kernel
theorem dX8_ends_53 : decode cX8_ends 53 = .ok (.ior, 1) := by decide +kernel
theorem dX8_ends_54 : decode cX8_ends 54 = .ok (.istore 4, 2) := by decide +kernel
theorem dX8_ends_56 : decode cX8_ends 56 = .ok (.iinc 5 1, 3) := by decide +kernel
theorem dX8_ends_59 : decode cX8_ends 59 = .ok (.goto (-33), 3) := by decide +kernel
theorem dX8_ends_62 : decode cX8_ends 62 = .ok (.iload 4, 2) := by decide +kernel
theorem dX8_ends_64 : decode cX8_ends 64 = .ok (.ireturn, 1) := by decide +kernel
set_option maxRecDepth 20000 in
theorem ggX8_cut_X8_wordAt : GoodIn wsX8_cut wsX8_wordAt := goodIn_r _ [7, 8, 9, 10, 11, 12, 13, 14, 15, 16, 17, 18, 19, 20, 21, 22, 23, 24, 25, 26, 27, 28, 29, 30, 31, 32, 121, 122, 123, 124, 125, 126, 127, 128, 129, 130, 138, 139, 140] (by decide +kernel) (by decide +kernel)
set_option maxRecDepth 20000 in
theorem gX8_cut_X8_wordAt : GoodIn wsX8_cut (wsV RX8 95 RX8 yX8_wordAt wsX8_wordAt) := goodIn_app (goodIn_of _ (by decide +kernel)) ggX8_cut_X8_wordAt
set_option maxRecDepth 20000 in
theorem ggX8_cut_X8_isOffer : GoodIn wsX8_cut wsX8_isOffer := goodIn_r _ [35, 36, 37, 6, 38] (by decide +kernel) (by decide +kernel)
set_option maxRecDepth 20000 in
theorem gX8_cut_X8_isOffer : GoodIn wsX8_cut (va_wsS RX8 166 yX8_isOffer wsX8_isOffer) := goodIn_app (goodIn_of _ (by decide +kernel)) ggX8_cut_X8_isOffer
set_option maxRecDepth 20000 in
theorem ggX8_cut_X8_within : GoodIn wsX8_cut wsX8_within := goodIn_r _ [38] (by decide +kernel) (by decide +kernel)
set_option maxRecDepth 20000 in
theorem gX8_cut_X8_within : GoodIn wsX8_cut (va_wsS RX8 72 yX8_within wsX8_within) := goodIn_app (goodIn_of _ (by decide +kernel)) ggX8_cut_X8_within
set_option maxRecDepth 20000 in
theorem ggX8_cut_X8_keeper : GoodIn wsX8_cut wsX8_keeper := goodIn_r _ [42, 43, 44, 45, 10, 11, 12, 13, 14, 15, 16, 17, 18, 19, 20, 21, 22, 23, 24, 25, 26, 27, 28, 29, 30, 31, 32, 46, 47, 48, 49, 50, 51, 52, 53, 54, 55, 56, 57, 58, 59, 60, 61, 62, 63, 64, 65, 66, 67, 68, 69, 70, 71, 72, 73, 74, 75, 76, 77, 78, 79, 80, 81, 82, 83, 84, 85, 86, 87, 88, 89, 6, 90, 91, 92, 93, 94, 95, 96, 121, 122, 123, 124, 125, 126, 127, 128, 129, 130, 141, 142, 143, 144, 145, 146, 147, 138, 139, 140, 131, 132, 133, 134, 135, 136, 137, 148, 149, 150, 151, 152, 153, 154, 155, 156] (by decide +kernel) (by decide +kernel)
set_option maxRecDepth 20000 in
theorem gX8_cut_X8_keeper : GoodIn wsX8_cut (wsV RX8 173 RX8 yX8_keeper wsX8_keeper) := goodIn_app (goodIn_of _ (by decide +kernel)) ggX8_cut_X8_keeper
set_option maxRecDepth 20000 in
theorem ggX8_cut_X8_withParts : GoodIn wsX8_cut wsX8_withParts := goodIn_r _ [100, 8, 9, 2, 10, 11, 12, 13, 14, 15, 101, 89, 6, 90, 16, 17, 18, 19, 20, 21, 22, 23, 24, 25, 26, 27, 28, 29, 30, 31, 32, 121, 122, 123, 124, 125, 126, 127, 128, 129, 130, 131, 132, 133, 134, 135, 136, 137, 138, 139, 140] (by decide +kernel) (by decide +kernel)
set_option maxRecDepth 20000 in
theorem gX8_cut_X8_withParts : GoodIn wsX8_cut (wsV RX8 177 RX8 yX8_withParts wsX8_withParts) := goodIn_app (goodIn_of _ (by decide +kernel)) ggX8_cut_X8_withParts
set_option maxRecDepth 20000 in
theorem ggX8_cut_X8_heardToPartsEnd : GoodIn wsX8_cut wsX8_heardToPartsEnd := goodIn_r _ [105, 8, 9, 2, 10, 11, 12, 13, 14, 15, 16, 17, 18, 19, 20, 21, 22, 23, 24, 25, 26, 27, 28, 29, 30, 31, 32, 101, 89, 6, 90, 39, 40, 41, 42, 43, 44, 45, 46, 47, 48, 49, 50, 51, 52, 53, 54, 55, 56, 57, 58, 59, 60, 61, 62, 63, 64, 65, 66, 67, 68, 69, 70, 71, 72, 73, 74, 75, 76, 77, 78, 79, 80, 81, 82, 83, 84, 85, 86, 87, 88, 91, 92, 93, 94, 95, 96, 121, 122, 123, 124, 125, 126, 127, 128, 129, 130, 131, 132, 133, 134, 135, 136, 137, 138, 139, 140, 141, 142, 143, 144, 145, 146, 147, 148, 149, 150, 151, 152, 153, 154, 155, 156] (by decide +kernel) (by decide +kernel)
set_option maxRecDepth 20000 in
theorem gX8_cut_X8_heardToPartsEnd : GoodIn wsX8_cut (wsV RX8 180 RX8 yX8_heardToPartsEnd wsX8_heardToPartsEnd) := goodIn_app (goodIn_of _ (by decide +kernel)) ggX8_cut_X8_heardToPartsEnd
set_option maxRecDepth 20000 in
theorem ggX8_cut_X8_unheardPlaces : GoodIn wsX8_cut wsX8_unheardPlaces := goodIn_r _ [108, 109, 9, 110, 10, 11, 12, 13, 14, 15, 16, 17, 18, 19, 20, 21, 22, 23, 24, 25, 26, 27, 28, 29, 30, 31, 32, 101, 89, 6, 90, 131, 132, 133, 134, 135, 136, 137, 138, 139, 140] (by decide +kernel) (by decide +kernel)
set_option maxRecDepth 20000 in
theorem gX8_cut_X8_unheardPlaces : GoodIn wsX8_cut (va_wsS RX8 200 yX8_unheardPlaces wsX8_unheardPlaces) := goodIn_app (goodIn_of _ (by decide +kernel)) ggX8_cut_X8_unheardPlaces
set_option maxRecDepth 20000 in
theorem ggX8_cut_X7_factsLeft : GoodIn wsX8_cut wsX7_factsLeft := goodIn_r _ [115, 116, 117, 118, 119, 11, 12, 13, 14, 15, 89, 6, 90, 120, 17, 18, 19, 20, 21, 22, 23, 24, 25, 26, 27, 28, 29, 30, 31, 32, 131, 132, 133, 134, 135, 136, 137, 138, 139, 140] (by decide +kernel) (by decide +kernel)
set_option maxRecDepth 20000 in
theorem gX8_cut_X7_factsLeft : GoodIn wsX8_cut (wsV RX8 204 RX7 yX7_factsLeft wsX7_factsLeft) := goodIn_app (goodIn_of _ (by decide +kernel)) ggX8_cut_X7_factsLeft
theorem dX8_cut_0 : decode cX8_cut 0 = .ok (.aload_n 0, 1) := by decide +kernel
theorem dX8_cut_1 : decode cX8_cut 1 = .ok (.iload_n 1, 1) := by decide +kernel
theorem dX8_cut_2 : decode cX8_cut 2 = .ok (.invokevirtual 95, 3) := by decide +kernel
theorem dX8_cut_5 : decode cX8_cut 5 = .ok (.astore 5, 2) := by decide +kernel
theorem dX8_cut_7 : decode cX8_cut 7 = .ok (.aload 5, 2) := by decide +kernel
theorem dX8_cut_9 : decode cX8_cut 9 = .ok (.ifnull 20, 3) := by decide +kernel
theorem dX8_cut_12 : decode cX8_cut 12 = .ok (.iload_n 2, 1) := by decide +kernel
theorem dX8_cut_13 : decode cX8_cut 13 = .ok (.iload_n 3, 1) := by decide +kernel
theorem dX8_cut_14 : decode cX8_cut 14 = .ok (.invokestatic 166, 3) := by decide +kernel
theorem dX8_cut_17 : decode cX8_cut 17 = .ok (.ifCond .eq 12, 3) := by decide +kernel
theorem dX8_cut_20 : decode cX8_cut 20 = .ok (.iload 4, 2) := by decide +kernel
theorem dX8_cut_22 : decode cX8_cut 22 = .ok (.iconst 2, 1) := by decide +kernel
theorem dX8_cut_23 : decode cX8_cut 23 = .ok (.invokestatic 72, 3) := by decide +kernel
theorem dX8_cut_26 : decode cX8_cut 26 = .ok (.ifCond .ne 5, 3) := by decide +kernel
theorem dX8_cut_29 : decode cX8_cut 29 = .ok (.iconst (-1), 1) := by decide +kernel
theorem dX8_cut_30 : decode cX8_cut 30 = .ok (.ireturn, 1) := by decide +kernel
theorem dX8_cut_31 : decode cX8_cut 31 = .ok (.aload_n 0, 1) := by decide +kernel
theorem dX8_cut_32 : decode cX8_cut 32 = .ok (.aload 5, 2) := by decide +kernel
theorem dX8_cut_34 : decode cX8_cut 34 = .ok (.iload_n 2, 1) := by decide +kernel
theorem dX8_cut_35 : decode cX8_cut 35 = .ok (.iload_n 3, 1) := by decide +kernel
theorem dX8_cut_36 : decode cX8_cut 36 = .ok (.aload_n 0, 1) := by decide +kernel
theorem dX8_cut_37 : decode cX8_cut 37 = .ok (.getfield 37, 3) := by decide +kernel
theorem dX8_cut_40 : decode cX8_cut 40 = .ok (.invokevirtual 173, 3) := by decide +kernel
theorem dX8_cut_43 : decode cX8_cut 43 = .ok (.ifCond .lt 6, 3) := by decide +kernel
theorem dX8_cut_46 : decode cX8_cut 46 = .ok (.bipush (-5), 2) := by decide +kernel
theorem dX8_cut_48 : decode cX8_cut 48 = .ok (.ireturn, 1) := by decide +kernel
theorem dX8_cut_49 : decode cX8_cut 49 = .ok (.aload_n 0, 1) := by decide +kernel
theorem dX8_cut_50 : decode cX8_cut 50 = .ok (.aload_n 0, 1) := by decide +kernel
theorem dX8_cut_51 : decode cX8_cut 51 = .ok (.aload 5, 2) := by decide +kernel
theorem dX8_cut_53 : decode cX8_cut 53 = .ok (.getfield 102, 3) := by decide +kernel
theorem dX8_cut_56 : decode cX8_cut 56 = .ok (.invokevirtual 177, 3) := by decide +kernel
theorem dX8_cut_59 : decode cX8_cut 59 = .ok (.iload_n 3, 1) := by decide +kernel
theorem dX8_cut_60 : decode cX8_cut 60 = .ok (.aload_n 0, 1) := by decide +kernel
theorem dX8_cut_61 : decode cX8_cut 61 = .ok (.getfield 37, 3) := by decide +kernel
theorem dX8_cut_64 : decode cX8_cut 64 = .ok (.invokevirtual 180, 3) := by decide +kernel
theorem dX8_cut_67 : decode cX8_cut 67 = .ok (.istore 6, 2) := by decide +kernel
theorem dX8_cut_69 : decode cX8_cut 69 = .ok (.iload_n 2, 1) := by decide +kernel
theorem dX8_cut_70 : decode cX8_cut 70 = .ok (.iconst 1, 1) := by decide +kernel
theorem dX8_cut_71 : decode cX8_cut 71 = .ok (.if_icmp .ne 7, 3) := by decide +kernel
theorem dX8_cut_74 : decode cX8_cut 74 = .ok (.iconst 0, 1) := by decide +kernel
theorem dX8_cut_75 : decode cX8_cut 75 = .ok (.goto 10, 3) := by decide +kernel
theorem dX8_cut_78 : decode cX8_cut 78 = .ok (.aload 5, 2) := by decide +kernel
theorem dX8_cut_80 : decode cX8_cut 80 = .ok (.iload 6, 2) := by decide +kernel
theorem dX8_cut_82 : decode cX8_cut 82 = .ok (.invokestatic 200, 3) := by decide +kernel
theorem dX8_cut_85 : decode cX8_cut 85 = .ok (.istore 7, 2) := by decide +kernel
theorem dX8_cut_87 : decode cX8_cut 87 = .ok (.iload 4, 2) := by decide +kernel
theorem dX8_cut_89 : decode cX8_cut 89 = .ok (.ifCond .ne 8, 3) := by decide +kernel
theorem dX8_cut_92 : decode cX8_cut 92 = .ok (.iload 7, 2) := by decide +kernel
theorem dX8_cut_94 : decode cX8_cut 94 = .ok (.goto 10, 3) := by decide +kernel
theorem dX8_cut_97 : decode cX8_cut 97 = .ok (.aload 5, 2) := by decide +kernel
theorem dX8_cut_99 : decode cX8_cut 99 = .ok (.iload 7, 2) := by decide +kernel
theorem dX8_cut_101 : decode cX8_cut 101 = .ok (.invokevirtual 204, 3) := by decide +kernel
theorem dX8_cut_104 : decode cX8_cut 104 = .ok (.ireturn, 1) := by decide +kernel
set_option maxRecDepth 20000 in
theorem ggX8_opened_X8_wordAt : GoodIn wsX8_opened wsX8_wordAt := goodIn_r _ [9, 10, 11, 12, 13, 14, 15, 16, 17, 18, 19, 20, 21, 22, 23, 24, 25, 26, 27, 28, 29, 30, 31, 32, 33, 34, 112, 113, 114, 115, 116, 117, 118, 119, 120, 121, 132, 133, 134] (by decide +kernel) (by decide +kernel)
set_option maxRecDepth 20000 in
theorem gX8_opened_X8_wordAt : GoodIn wsX8_opened (wsV RX8 95 RX8 yX8_wordAt wsX8_wordAt) := goodIn_app (goodIn_of _ (by decide +kernel)) ggX8_opened_X8_wordAt
set_option maxRecDepth 20000 in
theorem ggX8_opened_X8_within : GoodIn wsX8_opened wsX8_within := goodIn_r _ [37] (by decide +kernel) (by decide +kernel)
set_option maxRecDepth 20000 in
theorem gX8_opened_X8_within : GoodIn wsX8_opened (va_wsS RX8 72 yX8_within wsX8_within) := goodIn_app (goodIn_of _ (by decide +kernel)) ggX8_opened_X8_within
set_option maxRecDepth 20000 in
theorem ggX8_opened_X8_allWords : GoodIn wsX8_opened wsX8_allWords := goodIn_r _ [41, 10, 12, 13, 14, 15, 16, 17, 112, 113, 114, 115, 116, 117, 118, 119, 120, 121, 132, 133, 134] (by decide +kernel) (by decide +kernel)
set_option maxRecDepth 20000 in
theorem gX8_opened_X8_allWords : GoodIn wsX8_opened (wsV RX8 207 RX8 yX8_allWords wsX8_allWords) := goodIn_app (goodIn_of _ (by decide +kernel)) ggX8_opened_X8_allWords
set_option maxRecDepth 20000 in
theorem ggX8_opened_X8_heardToPartsEnd : GoodIn wsX8_opened wsX8_heardToPartsEnd := goodIn_r _ [45, 10, 11, 46, 12, 13, 14, 15, 16, 17, 18, 19, 20, 21, 22, 23, 24, 25, 26, 27, 28, 29, 30, 31, 32, 33, 34, 47, 48, 8, 49, 50, 51, 52, 53, 54, 55, 56, 57, 58, 59, 60, 61, 62, 63, 64, 65, 66, 67, 68, 69, 70, 71, 72, 73, 74, 75, 76, 77, 78, 79, 80, 81, 82, 83, 84, 85, 86, 87, 88, 89, 90, 91, 92, 93, 94, 95, 96, 97, 98, 99, 100, 101, 102, 103, 104, 105, 112, 113, 114, 115, 116, 117, 118, 119, 120, 121, 125, 126, 127, 128, 129, 130, 131, 132, 133, 134, 135, 136, 137, 138, 139, 140, 141, 142, 143, 144, 122, 123, 124, 145, 146, 147] (by decide +kernel) (by decide +kernel)
set_option maxRecDepth 20000 in
theorem gX8_opened_X8_heardToPartsEnd : GoodIn wsX8_opened (wsV RX8 180 RX8 yX8_heardToPartsEnd wsX8_heardToPartsEnd) := goodIn_app (goodIn_of _ (by decide +kernel)) ggX8_opened_X8_heardToPartsEnd
set_option maxRecDepth 20000 in
theorem ggX8_opened_X8_has : GoodIn wsX8_opened wsX8_has := goodIn_r _ [49] (by decide +kernel) (by decide +kernel)
set_option maxRecDepth 20000 in
theorem gX8_opened_X8_has : GoodIn wsX8_opened (va_wsS RX8 105 yX8_has wsX8_has) := goodIn_app (goodIn_of _ (by decide +kernel)) ggX8_opened_X8_has
set_option maxRecDepth 20000 in
theorem ggX8_opened_X8_suppose : GoodIn wsX8_opened wsX8_suppose := goodIn_r _ [109, 110, 2, 4, 111, 112, 113, 114, 115, 116, 117, 118, 119, 120, 121, 122, 123, 124] (by decide +kernel) (by decide +kernel)
set_option maxRecDepth 20000 in
theorem gX8_opened_X8_suppose : GoodIn wsX8_opened (wsV RX8 196 RX8 yX8_suppose wsX8_suppose) := goodIn_app (goodIn_of _ (by decide +kernel)) ggX8_opened_X8_suppose
theorem dX8_opened_0 : decode cX8_opened 0 = .ok (.aload_n 0, 1) := by decide +kernel
theorem dX8_opened_1 : decode cX8_opened 1 = .ok (.iload_n 1, 1) := by decide +kernel
theorem dX8_opened_2 : decode cX8_opened 2 = .ok (.invokevirtual 95, 3) := by decide +kernel
theorem dX8_opened_5 : decode cX8_opened 5 = .ok (.astore_n 3, 1) := by decide +kernel
theorem dX8_opened_6 : decode cX8_opened 6 = .ok (.aload_n 3, 1) := by decide +kernel
theorem dX8_opened_7 : decode cX8_opened 7 = .ok (.ifnull 11, 3) := by decide +kernel
theorem dX8_opened_10 : decode cX8_opened 10 = .ok (.iload_n 2, 1) := by decide +kernel
theorem dX8_opened_11 : decode cX8_opened 11 = .ok (.iconst 2, 1) := by decide +kernel
theorem dX8_opened_12 : decode cX8_opened 12 = .ok (.invokestatic 72, 3) := by decide +kernel
theorem dX8_opened_15 : decode cX8_opened 15 = .ok (.ifCond .ne 5, 3) := by decide +kernel
theorem dX8_opened_18 : decode cX8_opened 18 = .ok (.iconst (-1), 1) := by decide +kernel
theorem dX8_opened_19 : decode cX8_opened 19 = .ok (.ireturn, 1) := by decide +kernel
theorem dX8_opened_20 : decode cX8_opened 20 = .ok (.aload_n 0, 1) := by decide +kernel
theorem dX8_opened_21 : decode cX8_opened 21 = .ok (.aload_n 0, 1) := by decide +kernel
theorem dX8_opened_22 : decode cX8_opened 22 = .ok (.invokevirtual 207, 3) := by decide +kernel
theorem dX8_opened_25 : decode cX8_opened 25 = .ok (.iload_n 2, 1) := by decide +kernel
theorem dX8_opened_26 : decode cX8_opened 26 = .ok (.aload_n 0, 1) := by decide +kernel
theorem dX8_opened_27 : decode cX8_opened 27 = .ok (.getfield 37, 3) := by decide +kernel
theorem dX8_opened_30 : decode cX8_opened 30 = .ok (.invokevirtual 180, 3) := by decide +kernel
theorem dX8_opened_33 : decode cX8_opened 33 = .ok (.istore 4, 2) := by decide +kernel
theorem dX8_opened_35 : decode cX8_opened 35 = .ok (.iload 4, 2) := by decide +kernel
theorem dX8_opened_37 : decode cX8_opened 37 = .ok (.iload_n 1, 1) := by decide +kernel
theorem dX8_opened_38 : decode cX8_opened 38 = .ok (.invokestatic 105, 3) := by decide +kernel
theorem dX8_opened_41 : decode cX8_opened 41 = .ok (.ifCond .ne 6, 3) := by decide +kernel
theorem dX8_opened_44 : decode cX8_opened 44 = .ok (.bipush (-3), 2) := by decide +kernel
theorem dX8_opened_46 : decode cX8_opened 46 = .ok (.ireturn, 1) := by decide +kernel
theorem dX8_opened_47 : decode cX8_opened 47 = .ok (.aload_n 0, 1) := by decide +kernel
theorem dX8_opened_48 : decode cX8_opened 48 = .ok (.aload_n 0, 1) := by decide +kernel
theorem dX8_opened_49 : decode cX8_opened 49 = .ok (.getfield 37, 3) := by decide +kernel
theorem dX8_opened_52 : decode cX8_opened 52 = .ok (.getfield 128, 3) := by decide +kernel
theorem dX8_opened_55 : decode cX8_opened 55 = .ok (.aload_n 3, 1) := by decide +kernel
theorem dX8_opened_56 : decode cX8_opened 56 = .ok (.getfield 121, 3) := by decide +kernel
theorem dX8_opened_59 : decode cX8_opened 59 = .ok (.ior, 1) := by decide +kernel
theorem dX8_opened_60 : decode cX8_opened 60 = .ok (.aload_n 0, 1) := by decide +kernel
theorem dX8_opened_61 : decode cX8_opened 61 = .ok (.getfield 37, 3) := by decide +kernel
theorem dX8_opened_64 : decode cX8_opened 64 = .ok (.getfield 145, 3) := by decide +kernel
theorem dX8_opened_67 : decode cX8_opened 67 = .ok (.iconst 1, 1) := by decide +kernel
theorem dX8_opened_68 : decode cX8_opened 68 = .ok (.iload_n 1, 1) := by decide +kernel
theorem dX8_opened_69 : decode cX8_opened 69 = .ok (.ishl, 1) := by decide +kernel
theorem dX8_opened_70 : decode cX8_opened 70 = .ok (.invokevirtual 196, 3) := by decide +kernel
theorem dX8_opened_73 : decode cX8_opened 73 = .ok (.astore 5, 2) := by decide +kernel
theorem dX8_opened_75 : decode cX8_opened 75 = .ok (.aload_n 0, 1) := by decide +kernel
theorem dX8_opened_76 : decode cX8_opened 76 = .ok (.aload_n 0, 1) := by decide +kernel
theorem dX8_opened_77 : decode cX8_opened 77 = .ok (.invokevirtual 207, 3) := by decide +kernel
theorem dX8_opened_80 : decode cX8_opened 80 = .ok (.iload_n 2, 1) := by decide +kernel
theorem dX8_opened_81 : decode cX8_opened 81 = .ok (.aload 5, 2) := by decide +kernel
theorem dX8_opened_83 : decode cX8_opened 83 = .ok (.invokevirtual 180, 3) := by decide +kernel
theorem dX8_opened_86 : decode cX8_opened 86 = .ok (.iload 4, 2) := by decide +kernel
theorem dX8_opened_88 : decode cX8_opened 88 = .ok (.iconst (-1), 1) := by decide +kernel
theorem dX8_opened_89 : decode cX8_opened 89 = .ok (.ixor, 1) := by decide +kernel
theorem dX8_opened_90 : decode cX8_opened 90 = .ok (.iand, 1) := by decide +kernel
theorem dX8_opened_91 : decode cX8_opened 91 = .ok (.ireturn, 1) := by decide +kernel
set_option maxRecDepth 20000 in
theorem ggX8_proved_X8_within : GoodIn wsX8_proved wsX8_within := goodIn_r _ [4] (by decide +kernel) (by decide +kernel)
set_option maxRecDepth 20000 in
theorem gX8_proved_X8_within : GoodIn wsX8_proved (va_wsS RX8 72 yX8_within wsX8_within) := goodIn_app (goodIn_of _ (by decide +kernel)) ggX8_proved_X8_within
set_option maxRecDepth 20000 in
theorem ggX8_proved_X8_provedWithout : GoodIn wsX8_proved wsX8_provedWithout := goodIn_r _ [8, 9, 10, 11, 12, 13, 14, 3, 15, 16, 17, 18, 19, 20, 21, 22, 23, 24, 25, 26, 27, 28, 29, 30, 31, 32, 33, 34, 35, 36, 37, 38, 39, 40, 41, 42, 43, 44, 45, 46, 47, 48, 49, 50, 51, 52, 53, 54, 55, 56, 57, 58, 59, 60, 61, 62, 63, 64, 65, 66, 67, 68, 69, 70, 71, 72, 73, 74, 75, 76, 77, 78, 79, 80, 81, 82, 83, 84, 85, 86, 87, 88, 89, 90, 91, 92, 93, 94, 95, 96, 97, 98, 99, 100, 101, 102, 103, 104, 105, 106, 107, 108, 109, 110, 111, 112, 113, 114, 115, 116, 117, 118, 119, 120, 121, 122, 123, 124, 125, 126, 127, 128, 129, 130, 131, 132, 133, 134, 135, 136, 137, 138, 139, 140, 141, 142, 143, 144, 145, 146, 147, 148, 149, 150, 151] (by decide +kernel) (by decide +kernel)
set_option maxRecDepth 20000 in
theorem gX8_proved_X8_provedWithout : GoodIn wsX8_proved (wsV RX8 210 RX8 yX8_provedWithout wsX8_provedWithout) := goodIn_app (goodIn_of _ (by decide +kernel)) ggX8_proved_X8_provedWithout
theorem dX8_proved_0 : decode cX8_proved 0 = .ok (.iload_n 1, 1) := by decide +kernel
theorem dX8_proved_1 : decode cX8_proved 1 = .ok (.iconst 2, 1) := by decide +kernel
theorem dX8_proved_2 : decode cX8_proved 2 = .ok (.invokestatic 72, 3) := by decide +kernel
theorem dX8_proved_5 : decode cX8_proved 5 = .ok (.ifCond .ne 5, 3) := by decide +kernel
theorem dX8_proved_8 : decode cX8_proved 8 = .ok (.iconst (-1), 1) := by decide +kernel
theorem dX8_proved_9 : decode cX8_proved 9 = .ok (.ireturn, 1) := by decide +kernel
theorem dX8_proved_10 : decode cX8_proved 10 = .ok (.aload_n 0, 1) := by decide +kernel
theorem dX8_proved_11 : decode cX8_proved 11 = .ok (.iconst 0, 1) := by decide +kernel
theorem dX8_proved_12 : decode cX8_proved 12 = .ok (.iload_n 1, 1) := by decide +kernel
theorem dX8_proved_13 : decode cX8_proved 13 = .ok (.invokevirtual 210, 3) := by decide +kernel
theorem dX8_proved_16 : decode cX8_proved 16 = .ok (.ireturn, 1) := by decide +kernel
set_option maxRecDepth 20000 in
theorem ggX8_needed_X8_within : GoodIn wsX8_needed wsX8_within := goodIn_r _ [5] (by decide +kernel) (by decide +kernel)
set_option maxRecDepth 20000 in
theorem gX8_needed_X8_within : GoodIn wsX8_needed (va_wsS RX8 72 yX8_within wsX8_within) := goodIn_app (goodIn_of _ (by decide +kernel)) ggX8_needed_X8_within
set_option maxRecDepth 20000 in
theorem ggX8_needed_X8_provedWithout : GoodIn wsX8_needed wsX8_provedWithout := goodIn_r _ [9, 10, 11, 12, 13, 14, 15, 4, 16, 1, 17, 18, 19, 20, 21, 22, 23, 24, 25, 26, 27, 28, 29, 30, 31, 32, 33, 34, 35, 36, 37, 38, 39, 40, 41, 42, 43, 44, 45, 46, 47, 48, 49, 50, 51, 52, 53, 54, 55, 56, 57, 58, 59, 60, 61, 62, 63, 64, 65, 66, 67, 68, 69, 70, 71, 72, 73, 74, 75, 76, 77, 78, 79, 80, 81, 82, 83, 84, 85, 86, 87, 88, 89, 90, 91, 92, 93, 94, 95, 96, 97, 98, 99, 100, 101, 102, 103, 104, 105, 106, 107, 108, 109, 110, 111, 112, 113, 114, 115, 116, 117, 118, 119, 120, 121, 122, 123, 124, 125, 126, 127, 128, 129, 130, 131, 132, 133, 134, 135, 136, 137, 138, 139, 140, 141, 142, 143, 144, 145, 146, 147, 148, 149, 150, 151] (by decide +kernel) (by decide +kernel)
set_option maxRecDepth 20000 in
theorem gX8_needed_X8_provedWithout : GoodIn wsX8_needed (wsV RX8 210 RX8 yX8_provedWithout wsX8_provedWithout) := goodIn_app (goodIn_of _ (by decide +kernel)) ggX8_needed_X8_provedWithout
set_option maxRecDepth 20000 in
theorem ggX8_needed_Jx4a65c_size_8abf5 : GoodIn wsX8_needed wsJx4a65c_size_8abf5 := goodIn_r _ [21, 22, 129, 130, 131] (by decide +kernel) (by decide +kernel)
set_option maxRecDepth 20000 in
theorem gX8_needed_Jx4a65c_size_8abf5 : GoodIn wsX8_needed (wsV RX8 80 RJx4a65c yJx4a65c_size_8abf5 wsJx4a65c_size_8abf5) := goodIn_app (goodIn_of _ (by decide +kernel)) ggX8_needed_Jx4a65c_size_8abf5
theorem dX8_needed_0 : decode cX8_needed 0 = .ok (.iload_n 2, 1) := by decide +kernel
theorem dX8_needed_1 : decode cX8_needed 1 = .ok (.iconst 2, 1) := by decide +kernel
theorem dX8_needed_2 : decode cX8_needed 2 = .ok (.invokestatic 72, 3) := by decide +kernel
theorem dX8_needed_5 : decode cX8_needed 5 = .ok (.ifCond .ne 5, 3) := by decide +kernel
theorem dX8_needed_8 : decode cX8_needed 8 = .ok (.iconst (-1), 1) := by decide +kernel
theorem dX8_needed_9 : decode cX8_needed 9 = .ok (.ireturn, 1) := by decide +kernel
theorem dX8_needed_10 : decode cX8_needed 10 = .ok (.iload_n 1, 1) := by decide +kernel
theorem dX8_needed_11 : decode cX8_needed 11 = .ok (.sipush 1024, 3) := by decide +kernel
theorem dX8_needed_14 : decode cX8_needed 14 = .ok (.invokestatic 72, 3) := by decide +kernel
theorem dX8_needed_17 : decode cX8_needed 17 = .ok (.ifCond .ne 6, 3) := by decide +kernel
theorem dX8_needed_20 : decode cX8_needed 20 = .ok (.bipush (-2), 2) := by decide +kernel
theorem dX8_needed_22 : decode cX8_needed 22 = .ok (.ireturn, 1) := by decide +kernel
theorem dX8_needed_23 : decode cX8_needed 23 = .ok (.iload_n 1, 1) := by decide +kernel
theorem dX8_needed_24 : decode cX8_needed 24 = .ok (.aload_n 0, 1) := by decide +kernel
theorem dX8_needed_25 : decode cX8_needed 25 = .ok (.iconst 0, 1) := by decide +kernel
theorem dX8_needed_26 : decode cX8_needed 26 = .ok (.iload_n 2, 1) := by decide +kernel
theorem dX8_needed_27 : decode cX8_needed 27 = .ok (.invokevirtual 210, 3) := by decide +kernel
theorem dX8_needed_30 : decode cX8_needed 30 = .ok (.iconst (-1), 1) := by decide +kernel
theorem dX8_needed_31 : decode cX8_needed 31 = .ok (.ixor, 1) := by decide +kernel
theorem dX8_needed_32 : decode cX8_needed 32 = .ok (.iand, 1) := by decide +kernel
theorem dX8_needed_33 : decode cX8_needed 33 = .ok (.ifCond .eq 6, 3) := by decide +kernel
theorem dX8_needed_36 : decode cX8_needed 36 = .ok (.bipush (-5), 2) := by decide +kernel
theorem dX8_needed_38 : decode cX8_needed 38 = .ok (.ireturn, 1) := by decide +kernel
theorem dX8_needed_39 : decode cX8_needed 39 = .ok (.iconst 0, 1) := by decide +kernel
theorem dX8_needed_40 : decode cX8_needed 40 = .ok (.istore_n 3, 1) := by decide +kernel
theorem dX8_needed_41 : decode cX8_needed 41 = .ok (.iconst 0, 1) := by decide +kernel
theorem dX8_needed_42 : decode cX8_needed 42 = .ok (.istore 4, 2) := by decide +kernel
theorem dX8_needed_44 : decode cX8_needed 44 = .ok (.iload 4, 2) := by decide +kernel
theorem dX8_needed_46 : decode cX8_needed 46 = .ok (.aload_n 0, 1) := by decide +kernel
theorem dX8_needed_47 : decode cX8_needed 47 = .ok (.getfield 20, 3) := by decide +kernel
theorem dX8_needed_50 : decode cX8_needed 50 = .ok (.invokevirtual 80, 3) := by decide +kernel
theorem dX8_needed_53 : decode cX8_needed 53 = .ok (.if_icmp .ge 32, 3) := by decide +kernel
theorem dX8_needed_56 : decode cX8_needed 56 = .ok (.iload_n 1, 1) := by decide +kernel
theorem dX8_needed_57 : decode cX8_needed 57 = .ok (.aload_n 0, 1) := by decide +kernel
theorem dX8_needed_58 : decode cX8_needed 58 = .ok (.iconst 1, 1) := by decide +kernel
theorem dX8_needed_59 : decode cX8_needed 59 = .ok (.iload 4, 2) := by decide +kernel
theorem dX8_needed_61 : decode cX8_needed 61 = .ok (.ishl, 1) := by decide +kernel
theorem dX8_needed_62 : decode cX8_needed 62 = .ok (.iload_n 2, 1) := by decide +kernel
theorem dX8_needed_63 : decode cX8_needed 63 = .ok (.invokevirtual 210, 3) := by decide +kernel
theorem dX8_needed_66 : decode cX8_needed 66 = .ok (.iconst (-1), 1) := by decide +kernel
theorem dX8_needed_67 : decode cX8_needed 67 = .ok (.ixor, 1) := by decide +kernel
theorem dX8_needed_68 : decode cX8_needed 68 = .ok (.iand, 1) := by decide +kernel
theorem dX8_needed_69 : decode cX8_needed 69 = .ok (.ifCond .eq 10, 3) := by decide +kernel
theorem dX8_needed_72 : decode cX8_needed 72 = .ok (.iload_n 3, 1) := by decide +kernel
theorem dX8_needed_73 : decode cX8_needed 73 = .ok (.iconst 1, 1) := by decide +kernel
theorem dX8_needed_74 : decode cX8_needed 74 = .ok (.iload 4, 2) := by decide +kernel
theorem dX8_needed_76 : decode cX8_needed 76 = .ok (.ishl, 1) := by decide +kernel
theorem dX8_needed_77 : decode cX8_needed 77 = .ok (.ior, 1) := by decide +kernel
theorem dX8_needed_78 : decode cX8_needed 78 = .ok (.istore_n 3, 1) := by decide +kernel
theorem dX8_needed_79 : decode cX8_needed 79 = .ok (.iinc 4 1, 3) := by decide +kernel
theorem dX8_needed_82 : decode cX8_needed 82 = .ok (.goto (-38), 3) := by decide +kernel
theorem dX8_needed_85 : decode cX8_needed 85 = .ok (.iload_n 3, 1) := by decide +kernel
theorem dX8_needed_86 : decode cX8_needed 86 = .ok (.ireturn, 1) := by decide +kernel
set_option maxRecDepth 20000 in
theorem ggX8_plan_X8_within : GoodIn wsX8_plan wsX8_within := goodIn_r _ [4] (by decide +kernel) (by decide +kernel)
set_option maxRecDepth 20000 in
theorem gX8_plan_X8_within : GoodIn wsX8_plan (va_wsS RX8 72 yX8_within wsX8_within) := goodIn_app (goodIn_of _ (by decide +kernel)) ggX8_plan_X8_within
set_option maxRecDepth 20000 in
theorem ggX8_plan_J6_bitCount_0f7a4 : GoodIn wsX8_plan wsJ6_bitCount_0f7a4 := goodIn_r _ [8, 9, 10, 11] (by decide +kernel) (by decide +kernel)
set_option maxRecDepth 20000 in
theorem gX8_plan_J6_bitCount_0f7a4 : GoodIn wsX8_plan (va_wsS RX8 191 yJ6_bitCount_0f7a4 wsJ6_bitCount_0f7a4) := goodIn_app (goodIn_of _ (by decide +kernel)) ggX8_plan_J6_bitCount_0f7a4
set_option maxRecDepth 20000 in
theorem ggX8_plan_X8_allWords : GoodIn wsX8_plan wsX8_allWords := goodIn_r _ [15, 16, 17, 18, 19, 20, 21, 22, 136, 137, 138, 139, 140, 141, 142, 143, 144, 145, 146, 147, 148] (by decide +kernel) (by decide +kernel)
set_option maxRecDepth 20000 in
theorem gX8_plan_X8_allWords : GoodIn wsX8_plan (wsV RX8 207 RX8 yX8_allWords wsX8_allWords) := goodIn_app (goodIn_of _ (by decide +kernel)) ggX8_plan_X8_allWords
set_option maxRecDepth 20000 in
theorem ggX8_plan_X8_findOrder : GoodIn wsX8_plan wsX8_findOrder := goodIn_r _ [26, 27, 28, 29, 30, 5, 6, 7, 8, 9, 10, 11, 31, 32, 3, 33, 34, 35, 36, 37, 38, 39, 40, 41, 42, 43, 16, 44, 45, 17, 18, 19, 20, 21, 22, 46, 47, 48, 49, 50, 51, 52, 53, 54, 55, 56, 57, 58, 59, 60, 61, 62, 63, 64, 65, 66, 67, 68, 69, 70, 71, 72, 73, 74, 75, 76, 77, 78, 79, 80, 81, 82, 83, 84, 85, 86, 87, 88, 89, 90, 91, 92, 93, 94, 95, 96, 97, 98, 99, 100, 101, 102, 103, 104, 105, 106, 107, 108, 109, 110, 111, 112, 113, 114, 115, 116, 117, 118, 119, 120, 121, 122, 123, 124, 125, 126, 127, 128, 129, 130, 131, 136, 137, 138, 139, 140, 141, 142, 143, 144, 145, 149, 150, 151, 152, 153, 154, 155, 156, 157, 158, 146, 147, 148, 159, 160, 161, 162, 163, 164, 165, 166, 167, 168, 169, 170, 171] (by decide +kernel) (by decide +kernel)
set_option maxRecDepth 20000 in
theorem gX8_plan_X8_findOrder : GoodIn wsX8_plan (wsV RX8 214 RX8 yX8_findOrder wsX8_findOrder) := goodIn_app (goodIn_of _ (by decide +kernel)) ggX8_plan_X8_findOrder
set_option maxRecDepth 20000 in
theorem ggX8_plan_X8_wordInOrder : GoodIn wsX8_plan wsX8_wordInOrder := goodIn_r _ [135, 27, 34, 35, 3, 36, 37, 38, 39, 136, 137, 138, 139, 140, 141, 142, 143, 144, 145] (by decide +kernel) (by decide +kernel)
set_option maxRecDepth 20000 in
theorem gX8_plan_X8_wordInOrder : GoodIn wsX8_plan (wsV RX8 217 RX8 yX8_wordInOrder wsX8_wordInOrder) := goodIn_app (goodIn_of _ (by decide +kernel)) ggX8_plan_X8_wordInOrder
theorem dX8_plan_0 : decode cX8_plan 0 = .ok (.iload_n 2, 1) := by decide +kernel
theorem dX8_plan_1 : decode cX8_plan 1 = .ok (.iconst 2, 1) := by decide +kernel
theorem dX8_plan_2 : decode cX8_plan 2 = .ok (.invokestatic 72, 3) := by decide +kernel
theorem dX8_plan_5 : decode cX8_plan 5 = .ok (.ifCond .eq 8, 3) := by decide +kernel
theorem dX8_plan_8 : decode cX8_plan 8 = .ok (.iload_n 3, 1) := by decide +kernel
theorem dX8_plan_9 : decode cX8_plan 9 = .ok (.iconst (-1), 1) := by decide +kernel
theorem dX8_plan_10 : decode cX8_plan 10 = .ok (.if_icmp .ge 5, 3) := by decide +kernel
theorem dX8_plan_13 : decode cX8_plan 13 = .ok (.iconst (-1), 1) := by decide +kernel
theorem dX8_plan_14 : decode cX8_plan 14 = .ok (.ireturn, 1) := by decide +kernel
theorem dX8_plan_15 : decode cX8_plan 15 = .ok (.iload_n 1, 1) := by decide +kernel
theorem dX8_plan_16 : decode cX8_plan 16 = .ok (.invokestatic 191, 3) := by decide +kernel
theorem dX8_plan_19 : decode cX8_plan 19 = .ok (.istore 4, 2) := by decide +kernel
theorem dX8_plan_21 : decode cX8_plan 21 = .ok (.iload_n 1, 1) := by decide +kernel
theorem dX8_plan_22 : decode cX8_plan 22 = .ok (.ifCond .eq 20, 3) := by decide +kernel
theorem dX8_plan_25 : decode cX8_plan 25 = .ok (.iload_n 1, 1) := by decide +kernel
theorem dX8_plan_26 : decode cX8_plan 26 = .ok (.aload_n 0, 1) := by decide +kernel
theorem dX8_plan_27 : decode cX8_plan 27 = .ok (.invokevirtual 207, 3) := by decide +kernel
theorem dX8_plan_30 : decode cX8_plan 30 = .ok (.iconst (-1), 1) := by decide +kernel
theorem dX8_plan_31 : decode cX8_plan 31 = .ok (.ixor, 1) := by decide +kernel
theorem dX8_plan_32 : decode cX8_plan 32 = .ok (.iand, 1) := by decide +kernel
theorem dX8_plan_33 : decode cX8_plan 33 = .ok (.ifCond .ne 9, 3) := by decide +kernel
theorem dX8_plan_36 : decode cX8_plan 36 = .ok (.iload 4, 2) := by decide +kernel
theorem dX8_plan_38 : decode cX8_plan 38 = .ok (.iconst 5, 1) := by decide +kernel
theorem dX8_plan_39 : decode cX8_plan 39 = .ok (.if_icmp .le 6, 3) := by decide +kernel
theorem dX8_plan_42 : decode cX8_plan 42 = .ok (.bipush (-2), 2) := by decide +kernel
theorem dX8_plan_44 : decode cX8_plan 44 = .ok (.ireturn, 1) := by decide +kernel
theorem dX8_plan_45 : decode cX8_plan 45 = .ok (.aload_n 0, 1) := by decide +kernel
theorem dX8_plan_46 : decode cX8_plan 46 = .ok (.iload_n 1, 1) := by decide +kernel
theorem dX8_plan_47 : decode cX8_plan 47 = .ok (.iload_n 2, 1) := by decide +kernel
theorem dX8_plan_48 : decode cX8_plan 48 = .ok (.invokevirtual 214, 3) := by decide +kernel
theorem dX8_plan_51 : decode cX8_plan 51 = .ok (.istore 5, 2) := by decide +kernel
theorem dX8_plan_53 : decode cX8_plan 53 = .ok (.iload_n 3, 1) := by decide +kernel
theorem dX8_plan_54 : decode cX8_plan 54 = .ok (.ifCond .ge 14, 3) := by decide +kernel
theorem dX8_plan_57 : decode cX8_plan 57 = .ok (.iload 5, 2) := by decide +kernel
theorem dX8_plan_59 : decode cX8_plan 59 = .ok (.ifCond .eq 7, 3) := by decide +kernel
theorem dX8_plan_62 : decode cX8_plan 62 = .ok (.iconst 1, 1) := by decide +kernel
theorem dX8_plan_63 : decode cX8_plan 63 = .ok (.goto 4, 3) := by decide +kernel
theorem dX8_plan_66 : decode cX8_plan 66 = .ok (.iconst 0, 1) := by decide +kernel
theorem dX8_plan_67 : decode cX8_plan 67 = .ok (.ireturn, 1) := by decide +kernel
theorem dX8_plan_68 : decode cX8_plan 68 = .ok (.iload 5, 2) := by decide +kernel
theorem dX8_plan_70 : decode cX8_plan 70 = .ok (.ifCond .eq 18, 3) := by decide +kernel
theorem dX8_plan_73 : decode cX8_plan 73 = .ok (.iload_n 3, 1) := by decide +kernel
theorem dX8_plan_74 : decode cX8_plan 74 = .ok (.iload 4, 2) := by decide +kernel
theorem dX8_plan_76 : decode cX8_plan 76 = .ok (.if_icmp .ge 12, 3) := by decide +kernel
theorem dX8_plan_79 : decode cX8_plan 79 = .ok (.aload_n 0, 1) := by decide +kernel
theorem dX8_plan_80 : decode cX8_plan 80 = .ok (.iload_n 1, 1) := by decide +kernel
theorem dX8_plan_81 : decode cX8_plan 81 = .ok (.iload_n 3, 1) := by decide +kernel
theorem dX8_plan_82 : decode cX8_plan 82 = .ok (.invokevirtual 217, 3) := by decide +kernel
theorem dX8_plan_85 : decode cX8_plan 85 = .ok (.goto 4, 3) := by decide +kernel
theorem dX8_plan_88 : decode cX8_plan 88 = .ok (.iconst (-1), 1) := by decide +kernel
theorem dX8_plan_89 : decode cX8_plan 89 = .ok (.ireturn, 1) := by decide +kernel
set_option maxRecDepth 20000 in
theorem ggX8_clash_X8_wordAt : GoodIn wsX8_clash wsX8_wordAt := goodIn_r _ [10, 11, 12, 13, 14, 15, 16, 17, 18, 19, 20, 21, 22, 23, 24, 25, 26, 27, 28, 29, 30, 31, 32, 33, 34, 35, 93, 94, 95, 96, 97, 98, 99, 100, 101, 102, 110, 111, 112] (by decide +kernel) (by decide +kernel)
set_option maxRecDepth 20000 in
theorem gX8_clash_X8_wordAt : GoodIn wsX8_clash (wsV RX8 95 RX8 yX8_wordAt wsX8_wordAt) := goodIn_app (goodIn_of _ (by decide +kernel)) ggX8_clash_X8_wordAt
set_option maxRecDepth 20000 in
theorem ggX8_clash_X8_isOffer : GoodIn wsX8_clash wsX8_isOffer := goodIn_r _ [38, 39, 40, 9, 41] (by decide +kernel) (by decide +kernel)
set_option maxRecDepth 20000 in
theorem gX8_clash_X8_isOffer : GoodIn wsX8_clash (va_wsS RX8 166 yX8_isOffer wsX8_isOffer) := goodIn_app (goodIn_of _ (by decide +kernel)) ggX8_clash_X8_isOffer
set_option maxRecDepth 20000 in
theorem ggX8_clash_Jx4a65c_size_8abf5 : GoodIn wsX8_clash wsJx4a65c_size_8abf5 := goodIn_r _ [17, 18, 110, 111, 112] (by decide +kernel) (by decide +kernel)
set_option maxRecDepth 20000 in
theorem gX8_clash_Jx4a65c_size_8abf5 : GoodIn wsX8_clash (wsV RX8 80 RJx4a65c yJx4a65c_size_8abf5 wsJx4a65c_size_8abf5) := goodIn_app (goodIn_of _ (by decide +kernel)) ggX8_clash_Jx4a65c_size_8abf5
set_option maxRecDepth 20000 in
theorem ggX8_clash_Jx4a65c_get_915e3 : GoodIn wsX8_clash wsJx4a65c_get_915e3 := goodIn_r _ [22, 18, 23, 24, 25, 26, 27, 28, 29, 30, 31, 32, 33, 16, 34, 35, 110, 111, 112] (by decide +kernel) (by decide +kernel)
set_option maxRecDepth 20000 in
theorem gX8_clash_Jx4a65c_get_915e3 : GoodIn wsX8_clash (wsV RX8 220 RJx4a65c yJx4a65c_get_915e3 wsJx4a65c_get_915e3) := goodIn_app (goodIn_of _ (by decide +kernel)) ggX8_clash_Jx4a65c_get_915e3
set_option maxRecDepth 20000 in
theorem ggX8_clash_X4_holding : GoodIn wsX8_clash wsX4_holding := goodIn_r _ [46, 47, 48, 49, 50, 51, 52, 53, 54, 55, 56, 57, 58, 59, 60, 14, 15, 16, 17, 18, 61, 20, 21, 22, 23, 24, 25, 26, 27, 28, 29, 30, 31, 32, 33, 34, 35, 62, 63, 64, 65, 66, 67, 68, 69, 70, 71, 72, 73, 74, 75, 113, 114, 115, 116, 117, 118, 119, 120, 121, 122, 123, 124, 125, 103, 104, 105, 106, 107, 108, 109, 110, 111, 112, 126, 127, 128] (by decide +kernel) (by decide +kernel)
set_option maxRecDepth 20000 in
theorem gX8_clash_X4_holding : GoodIn wsX8_clash (wsV RX8 152 RX4 yX4_holding wsX4_holding) := goodIn_app (goodIn_of _ (by decide +kernel)) ggX8_clash_X4_holding
set_option maxRecDepth 20000 in
theorem ggX8_clash_X4_keepsOut : GoodIn wsX8_clash wsX4_keepsOut := goodIn_r _ [79, 80, 81, 82, 83, 84, 85, 9, 86, 87, 88, 89, 45, 90, 50, 51, 91, 52, 92, 60, 14, 15, 16, 17, 18, 61, 20, 21, 22, 23, 24, 25, 26, 27, 28, 29, 30, 31, 32, 33, 34, 35, 103, 104, 105, 106, 107, 108, 109, 123, 124, 125, 126, 127, 128, 110, 111, 112] (by decide +kernel) (by decide +kernel)
set_option maxRecDepth 20000 in
theorem gX8_clash_X4_keepsOut : GoodIn wsX8_clash (wsV RX8 158 RX4 yX4_keepsOut wsX4_keepsOut) := goodIn_app (goodIn_of _ (by decide +kernel)) ggX8_clash_X4_keepsOut
theorem dX8_clash_0 : decode cX8_clash 0 = .ok (.aload_n 0, 1) := by decide +kernel
theorem dX8_clash_1 : decode cX8_clash 1 = .ok (.iload_n 1, 1) := by decide +kernel
theorem dX8_clash_2 : decode cX8_clash 2 = .ok (.invokevirtual 95, 3) := by decide +kernel
theorem dX8_clash_5 : decode cX8_clash 5 = .ok (.astore 4, 2) := by decide +kernel
theorem dX8_clash_7 : decode cX8_clash 7 = .ok (.aload 4, 2) := by decide +kernel
theorem dX8_clash_9 : decode cX8_clash 9 = .ok (.ifnull 11, 3) := by decide +kernel
theorem dX8_clash_12 : decode cX8_clash 12 = .ok (.iload_n 2, 1) := by decide +kernel
theorem dX8_clash_13 : decode cX8_clash 13 = .ok (.iload_n 3, 1) := by decide +kernel
theorem dX8_clash_14 : decode cX8_clash 14 = .ok (.invokestatic 166, 3) := by decide +kernel
theorem dX8_clash_17 : decode cX8_clash 17 = .ok (.ifCond .ne 5, 3) := by decide +kernel
theorem dX8_clash_20 : decode cX8_clash 20 = .ok (.iconst (-1), 1) := by decide +kernel
theorem dX8_clash_21 : decode cX8_clash 21 = .ok (.ireturn, 1) := by decide +kernel
theorem dX8_clash_22 : decode cX8_clash 22 = .ok (.iconst 0, 1) := by decide +kernel
theorem dX8_clash_23 : decode cX8_clash 23 = .ok (.istore 5, 2) := by decide +kernel
theorem dX8_clash_25 : decode cX8_clash 25 = .ok (.iconst 0, 1) := by decide +kernel
theorem dX8_clash_26 : decode cX8_clash 26 = .ok (.istore 6, 2) := by decide +kernel
theorem dX8_clash_28 : decode cX8_clash 28 = .ok (.iconst 0, 1) := by decide +kernel
theorem dX8_clash_29 : decode cX8_clash 29 = .ok (.istore 7, 2) := by decide +kernel
theorem dX8_clash_31 : decode cX8_clash 31 = .ok (.iload 7, 2) := by decide +kernel
theorem dX8_clash_33 : decode cX8_clash 33 = .ok (.aload_n 0, 1) := by decide +kernel
theorem dX8_clash_34 : decode cX8_clash 34 = .ok (.getfield 24, 3) := by decide +kernel
theorem dX8_clash_37 : decode cX8_clash 37 = .ok (.invokevirtual 80, 3) := by decide +kernel
theorem dX8_clash_40 : decode cX8_clash 40 = .ok (.if_icmp .ge 83, 3) := by decide +kernel
theorem dX8_clash_43 : decode cX8_clash 43 = .ok (.aload_n 0, 1) := by decide +kernel
theorem dX8_clash_44 : decode cX8_clash 44 = .ok (.getfield 24, 3) := by decide +kernel
theorem dX8_clash_47 : decode cX8_clash 47 = .ok (.iload 7, 2) := by decide +kernel
theorem dX8_clash_49 : decode cX8_clash 49 = .ok (.invokevirtual 220, 3) := by decide +kernel
theorem dX8_clash_52 : decode cX8_clash 52 = .ok (.checkcast 153, 3) := by decide +kernel
theorem dX8_clash_55 : decode cX8_clash 55 = .ok (.astore 8, 2) := by decide +kernel
theorem dX8_clash_57 : decode cX8_clash 57 = .ok (.aload 8, 2) := by decide +kernel
theorem dX8_clash_59 : decode cX8_clash 59 = .ok (.getfield 224, 3) := by decide +kernel
theorem dX8_clash_62 : decode cX8_clash 62 = .ok (.iload_n 3, 1) := by decide +kernel
theorem dX8_clash_63 : decode cX8_clash 63 = .ok (.if_icmp .eq 6, 3) := by decide +kernel
theorem dX8_clash_66 : decode cX8_clash 66 = .ok (.goto 51, 3) := by decide +kernel
theorem dX8_clash_69 : decode cX8_clash 69 = .ok (.aload 8, 2) := by decide +kernel
