theorem dX0_init_0 : decode cX0_init 0 = .ok (.aload_n 0, 1) := by decide +kernel
theorem dX0_init_1 : decode cX0_init 1 = .ok (.invokespecial 3, 3) := by decide +kernel
theorem dX0_init_4 : decode cX0_init 4 = .ok (.aload_n 0, 1) := by decide +kernel
theorem dX0_init_5 : decode cX0_init 5 = .ok (.bipush 20, 2) := by decide +kernel
theorem dX0_init_7 : decode cX0_init 7 = .ok (.newarray .int, 2) := by decide +kernel
theorem dX0_init_9 : decode cX0_init 9 = .ok (.putfield 9, 3) := by decide +kernel
theorem dX0_init_12 : decode cX0_init 12 = .ok (.return_, 1) := by decide +kernel
theorem dX0_hears_0 : decode cX0_hears 0 = .ok (.iload_n 2, 1) := by decide +kernel
theorem dX0_hears_1 : decode cX0_hears 1 = .ok (.tableswitch 119 0 6 #[43, 119, 56, 75, 119, 119, 93], 43) := by decide +kernel
theorem dX0_hears_44 : decode cX0_hears 44 = .ok (.aload_n 0, 1) := by decide +kernel
theorem dX0_hears_45 : decode cX0_hears 45 = .ok (.bipush 10, 2) := by decide +kernel
theorem dX0_hears_47 : decode cX0_hears 47 = .ok (.invokevirtual 15, 3) := by decide +kernel
theorem dX0_hears_50 : decode cX0_hears 50 = .ok (.iload_n 3, 1) := by decide +kernel
theorem dX0_hears_51 : decode cX0_hears 51 = .ok (.aload_n 1, 1) := by decide +kernel
theorem dX0_hears_52 : decode cX0_hears 52 = .ok (.getfield 19, 3) := by decide +kernel
theorem dX0_hears_55 : decode cX0_hears 55 = .ok (.iadd, 1) := by decide +kernel
theorem dX0_hears_56 : decode cX0_hears 56 = .ok (.ireturn, 1) := by decide +kernel
theorem dX0_hears_57 : decode cX0_hears 57 = .ok (.aload_n 0, 1) := by decide +kernel
theorem dX0_hears_58 : decode cX0_hears 58 = .ok (.bipush 30, 2) := by decide +kernel
theorem dX0_hears_60 : decode cX0_hears 60 = .ok (.invokevirtual 15, 3) := by decide +kernel
theorem dX0_hears_63 : decode cX0_hears 63 = .ok (.aload_n 0, 1) := by decide +kernel
theorem dX0_hears_64 : decode cX0_hears 64 = .ok (.aload_n 1, 1) := by decide +kernel
theorem dX0_hears_65 : decode cX0_hears 65 = .ok (.iconst 2, 1) := by decide +kernel
theorem dX0_hears_66 : decode cX0_hears 66 = .ok (.invokestatic 25, 3) := by decide +kernel
theorem dX0_hears_69 : decode cX0_hears 69 = .ok (.iload_n 3, 1) := by decide +kernel
theorem dX0_hears_70 : decode cX0_hears 70 = .ok (.iconst 3, 1) := by decide +kernel
theorem dX0_hears_71 : decode cX0_hears 71 = .ok (.imul, 1) := by decide +kernel
theorem dX0_hears_72 : decode cX0_hears 72 = .ok (.invokevirtual 29, 3) := by decide +kernel
theorem dX0_hears_75 : decode cX0_hears 75 = .ok (.ireturn, 1) := by decide +kernel
theorem dX0_hears_76 : decode cX0_hears 76 = .ok (.aload_n 0, 1) := by decide +kernel
theorem dX0_hears_77 : decode cX0_hears 77 = .ok (.bipush 40, 2) := by decide +kernel
theorem dX0_hears_79 : decode cX0_hears 79 = .ok (.invokevirtual 15, 3) := by decide +kernel
theorem dX0_hears_82 : decode cX0_hears 82 = .ok (.aload_n 0, 1) := by decide +kernel
theorem dX0_hears_83 : decode cX0_hears 83 = .ok (.aload_n 1, 1) := by decide +kernel
theorem dX0_hears_84 : decode cX0_hears 84 = .ok (.iconst 3, 1) := by decide +kernel
theorem dX0_hears_85 : decode cX0_hears 85 = .ok (.invokestatic 25, 3) := by decide +kernel
theorem dX0_hears_88 : decode cX0_hears 88 = .ok (.iload_n 3, 1) := by decide +kernel
theorem dX0_hears_89 : decode cX0_hears 89 = .ok (.invokevirtual 29, 3) := by decide +kernel
theorem dX0_hears_92 : decode cX0_hears 92 = .ok (.ineg, 1) := by decide +kernel
theorem dX0_hears_93 : decode cX0_hears 93 = .ok (.ireturn, 1) := by decide +kernel
theorem dX0_hears_94 : decode cX0_hears 94 = .ok (.aload_n 0, 1) := by decide +kernel
theorem dX0_hears_95 : decode cX0_hears 95 = .ok (.bipush 71, 2) := by decide +kernel
theorem dX0_hears_97 : decode cX0_hears 97 = .ok (.invokevirtual 15, 3) := by decide +kernel
theorem dX0_hears_100 : decode cX0_hears 100 = .ok (.aload_n 0, 1) := by decide +kernel
theorem dX0_hears_101 : decode cX0_hears 101 = .ok (.aload_n 1, 1) := by decide +kernel
theorem dX0_hears_102 : decode cX0_hears 102 = .ok (.bipush 6, 2) := by decide +kernel
theorem dX0_hears_104 : decode cX0_hears 104 = .ok (.invokestatic 25, 3) := by decide +kernel
theorem dX0_hears_107 : decode cX0_hears 107 = .ok (.iload_n 3, 1) := by decide +kernel
theorem dX0_hears_108 : decode cX0_hears 108 = .ok (.invokevirtual 29, 3) := by decide +kernel
theorem dX0_hears_111 : decode cX0_hears 111 = .ok (.aload_n 1, 1) := by decide +kernel
theorem dX0_hears_112 : decode cX0_hears 112 = .ok (.getfield 33, 3) := by decide +kernel
theorem dX0_hears_115 : decode cX0_hears 115 = .ok (.getfield 37, 3) := by decide +kernel
theorem dX0_hears_118 : decode cX0_hears 118 = .ok (.ixor, 1) := by decide +kernel
theorem dX0_hears_119 : decode cX0_hears 119 = .ok (.ireturn, 1) := by decide +kernel
theorem dX0_hears_120 : decode cX0_hears 120 = .ok (.aload_n 0, 1) := by decide +kernel
theorem dX0_hears_121 : decode cX0_hears 121 = .ok (.aload_n 1, 1) := by decide +kernel
theorem dX0_hears_122 : decode cX0_hears 122 = .ok (.iload_n 2, 1) := by decide +kernel
theorem dX0_hears_123 : decode cX0_hears 123 = .ok (.invokestatic 25, 3) := by decide +kernel
theorem dX0_hears_126 : decode cX0_hears 126 = .ok (.iload_n 3, 1) := by decide +kernel
theorem dX0_hears_127 : decode cX0_hears 127 = .ok (.invokevirtual 29, 3) := by decide +kernel
theorem dX0_hears_130 : decode cX0_hears 130 = .ok (.ireturn, 1) := by decide +kernel
theorem dX0_keeps_0 : decode cX0_keeps 0 = .ok (.iload_n 2, 1) := by decide +kernel
theorem dX0_keeps_1 : decode cX0_keeps 1 = .ok (.lookupswitch 107 #[(0, 35), (1, 60), (5, 79)], 35) := by decide +kernel
theorem dX0_keeps_36 : decode cX0_keeps 36 = .ok (.aload_n 0, 1) := by decide +kernel
theorem dX0_keeps_37 : decode cX0_keeps 37 = .ok (.bipush 11, 2) := by decide +kernel
theorem dX0_keeps_39 : decode cX0_keeps 39 = .ok (.invokevirtual 15, 3) := by decide +kernel
theorem dX0_keeps_42 : decode cX0_keeps 42 = .ok (.aload_n 0, 1) := by decide +kernel
theorem dX0_keeps_43 : decode cX0_keeps 43 = .ok (.aload_n 1, 1) := by decide +kernel
theorem dX0_keeps_44 : decode cX0_keeps 44 = .ok (.aload_n 1, 1) := by decide +kernel
theorem dX0_keeps_45 : decode cX0_keeps 45 = .ok (.getfield 40, 3) := by decide +kernel
theorem dX0_keeps_48 : decode cX0_keeps 48 = .ok (.iload_n 3, 1) := by decide +kernel
theorem dX0_keeps_49 : decode cX0_keeps 49 = .ok (.invokevirtual 29, 3) := by decide +kernel
theorem dX0_keeps_52 : decode cX0_keeps 52 = .ok (.aload_n 1, 1) := by decide +kernel
theorem dX0_keeps_53 : decode cX0_keeps 53 = .ok (.getfield 33, 3) := by decide +kernel
theorem dX0_keeps_56 : decode cX0_keeps 56 = .ok (.getfield 37, 3) := by decide +kernel
theorem dX0_keeps_59 : decode cX0_keeps 59 = .ok (.isub, 1) := by decide +kernel
theorem dX0_keeps_60 : decode cX0_keeps 60 = .ok (.ireturn, 1) := by decide +kernel
theorem dX0_keeps_61 : decode cX0_keeps 61 = .ok (.aload_n 0, 1) := by decide +kernel
theorem dX0_keeps_62 : decode cX0_keeps 62 = .ok (.bipush 20, 2) := by decide +kernel
theorem dX0_keeps_64 : decode cX0_keeps 64 = .ok (.invokevirtual 15, 3) := by decide +kernel
theorem dX0_keeps_67 : decode cX0_keeps 67 = .ok (.aload_n 0, 1) := by decide +kernel
theorem dX0_keeps_68 : decode cX0_keeps 68 = .ok (.aload_n 1, 1) := by decide +kernel
theorem dX0_keeps_69 : decode cX0_keeps 69 = .ok (.iconst 1, 1) := by decide +kernel
theorem dX0_keeps_70 : decode cX0_keeps 70 = .ok (.invokestatic 25, 3) := by decide +kernel
theorem dX0_keeps_73 : decode cX0_keeps 73 = .ok (.iload_n 3, 1) := by decide +kernel
theorem dX0_keeps_74 : decode cX0_keeps 74 = .ok (.invokevirtual 43, 3) := by decide +kernel
theorem dX0_keeps_77 : decode cX0_keeps 77 = .ok (.iconst 5, 1) := by decide +kernel
theorem dX0_keeps_78 : decode cX0_keeps 78 = .ok (.ixor, 1) := by decide +kernel
theorem dX0_keeps_79 : decode cX0_keeps 79 = .ok (.ireturn, 1) := by decide +kernel
theorem dX0_keeps_80 : decode cX0_keeps 80 = .ok (.aload_n 0, 1) := by decide +kernel
theorem dX0_keeps_81 : decode cX0_keeps 81 = .ok (.bipush 60, 2) := by decide +kernel
theorem dX0_keeps_83 : decode cX0_keeps 83 = .ok (.invokevirtual 15, 3) := by decide +kernel
theorem dX0_keeps_86 : decode cX0_keeps 86 = .ok (.aload_n 0, 1) := by decide +kernel
theorem dX0_keeps_87 : decode cX0_keeps 87 = .ok (.aload_n 1, 1) := by decide +kernel
theorem dX0_keeps_88 : decode cX0_keeps 88 = .ok (.iconst 5, 1) := by decide +kernel
theorem dX0_keeps_89 : decode cX0_keeps 89 = .ok (.invokestatic 25, 3) := by decide +kernel
theorem dX0_keeps_92 : decode cX0_keeps 92 = .ok (.iload_n 3, 1) := by decide +kernel
theorem dX0_keeps_93 : decode cX0_keeps 93 = .ok (.invokevirtual 43, 3) := by decide +kernel
theorem dX0_keeps_96 : decode cX0_keeps 96 = .ok (.aload_n 0, 1) := by decide +kernel
theorem dX0_keeps_97 : decode cX0_keeps 97 = .ok (.aload_n 1, 1) := by decide +kernel
theorem dX0_keeps_98 : decode cX0_keeps 98 = .ok (.iconst 5, 1) := by decide +kernel
theorem dX0_keeps_99 : decode cX0_keeps 99 = .ok (.invokestatic 25, 3) := by decide +kernel
theorem dX0_keeps_102 : decode cX0_keeps 102 = .ok (.iconst 2, 1) := by decide +kernel
theorem dX0_keeps_103 : decode cX0_keeps 103 = .ok (.invokevirtual 29, 3) := by decide +kernel
theorem dX0_keeps_106 : decode cX0_keeps 106 = .ok (.iadd, 1) := by decide +kernel
theorem dX0_keeps_107 : decode cX0_keeps 107 = .ok (.ireturn, 1) := by decide +kernel
theorem dX0_keeps_108 : decode cX0_keeps 108 = .ok (.aload_n 0, 1) := by decide +kernel
theorem dX0_keeps_109 : decode cX0_keeps 109 = .ok (.aload_n 1, 1) := by decide +kernel
theorem dX0_keeps_110 : decode cX0_keeps 110 = .ok (.iload_n 2, 1) := by decide +kernel
theorem dX0_keeps_111 : decode cX0_keeps 111 = .ok (.invokestatic 25, 3) := by decide +kernel
theorem dX0_keeps_114 : decode cX0_keeps 114 = .ok (.iload_n 3, 1) := by decide +kernel
theorem dX0_keeps_115 : decode cX0_keeps 115 = .ok (.invokevirtual 43, 3) := by decide +kernel
theorem dX0_keeps_118 : decode cX0_keeps 118 = .ok (.ireturn, 1) := by decide +kernel
theorem dX0_tells_0 : decode cX0_tells 0 = .ok (.iload_n 2, 1) := by decide +kernel
theorem dX0_tells_1 : decode cX0_tells 1 = .ok (.tableswitch 141 0 6 #[43, 141, 62, 141, 90, 141, 112], 43) := by decide +kernel
theorem dX0_tells_44 : decode cX0_tells 44 = .ok (.aload_n 0, 1) := by decide +kernel
theorem dX0_tells_45 : decode cX0_tells 45 = .ok (.bipush 12, 2) := by decide +kernel
theorem dX0_tells_47 : decode cX0_tells 47 = .ok (.invokevirtual 15, 3) := by decide +kernel
theorem dX0_tells_50 : decode cX0_tells 50 = .ok (.aload_n 0, 1) := by decide +kernel
theorem dX0_tells_51 : decode cX0_tells 51 = .ok (.aload_n 1, 1) := by decide +kernel
theorem dX0_tells_52 : decode cX0_tells 52 = .ok (.aload_n 1, 1) := by decide +kernel
theorem dX0_tells_53 : decode cX0_tells 53 = .ok (.getfield 40, 3) := by decide +kernel
theorem dX0_tells_56 : decode cX0_tells 56 = .ok (.iload_n 3, 1) := by decide +kernel
theorem dX0_tells_57 : decode cX0_tells 57 = .ok (.invokevirtual 43, 3) := by decide +kernel
theorem dX0_tells_60 : decode cX0_tells 60 = .ok (.iconst 2, 1) := by decide +kernel
theorem dX0_tells_61 : decode cX0_tells 61 = .ok (.imul, 1) := by decide +kernel
theorem dX0_tells_62 : decode cX0_tells 62 = .ok (.ireturn, 1) := by decide +kernel
theorem dX0_tells_63 : decode cX0_tells 63 = .ok (.aload_n 0, 1) := by decide +kernel
theorem dX0_tells_64 : decode cX0_tells 64 = .ok (.bipush 31, 2) := by decide +kernel
theorem dX0_tells_66 : decode cX0_tells 66 = .ok (.invokevirtual 15, 3) := by decide +kernel
theorem dX0_tells_69 : decode cX0_tells 69 = .ok (.aload_n 0, 1) := by decide +kernel
theorem dX0_tells_70 : decode cX0_tells 70 = .ok (.aload_n 1, 1) := by decide +kernel
theorem dX0_tells_71 : decode cX0_tells 71 = .ok (.iconst 2, 1) := by decide +kernel
theorem dX0_tells_72 : decode cX0_tells 72 = .ok (.invokestatic 25, 3) := by decide +kernel
theorem dX0_tells_75 : decode cX0_tells 75 = .ok (.iload_n 3, 1) := by decide +kernel
theorem dX0_tells_76 : decode cX0_tells 76 = .ok (.invokevirtual 46, 3) := by decide +kernel
theorem dX0_tells_79 : decode cX0_tells 79 = .ok (.aload_n 0, 1) := by decide +kernel
theorem dX0_tells_80 : decode cX0_tells 80 = .ok (.aload_n 1, 1) := by decide +kernel
theorem dX0_tells_81 : decode cX0_tells 81 = .ok (.aload_n 1, 1) := by decide +kernel
theorem dX0_tells_82 : decode cX0_tells 82 = .ok (.getfield 40, 3) := by decide +kernel
theorem dX0_tells_85 : decode cX0_tells 85 = .ok (.iconst 1, 1) := by decide +kernel
theorem dX0_tells_86 : decode cX0_tells 86 = .ok (.invokevirtual 43, 3) := by decide +kernel
theorem dX0_tells_89 : decode cX0_tells 89 = .ok (.iadd, 1) := by decide +kernel
theorem dX0_tells_90 : decode cX0_tells 90 = .ok (.ireturn, 1) := by decide +kernel
theorem dX0_tells_91 : decode cX0_tells 91 = .ok (.aload_n 0, 1) := by decide +kernel
theorem dX0_tells_92 : decode cX0_tells 92 = .ok (.bipush 50, 2) := by decide +kernel
theorem dX0_tells_94 : decode cX0_tells 94 = .ok (.invokevirtual 15, 3) := by decide +kernel
theorem dX0_tells_97 : decode cX0_tells 97 = .ok (.aload_n 0, 1) := by decide +kernel
theorem dX0_tells_98 : decode cX0_tells 98 = .ok (.aload_n 1, 1) := by decide +kernel
theorem dX0_tells_99 : decode cX0_tells 99 = .ok (.iconst 4, 1) := by decide +kernel
theorem dX0_tells_100 : decode cX0_tells 100 = .ok (.invokestatic 25, 3) := by decide +kernel
theorem dX0_tells_103 : decode cX0_tells 103 = .ok (.iload_n 3, 1) := by decide +kernel
theorem dX0_tells_104 : decode cX0_tells 104 = .ok (.aload_n 1, 1) := by decide +kernel
theorem dX0_tells_105 : decode cX0_tells 105 = .ok (.getfield 19, 3) := by decide +kernel
theorem dX0_tells_108 : decode cX0_tells 108 = .ok (.isub, 1) := by decide +kernel
theorem dX0_tells_109 : decode cX0_tells 109 = .ok (.invokevirtual 46, 3) := by decide +kernel
theorem dX0_tells_112 : decode cX0_tells 112 = .ok (.ireturn, 1) := by decide +kernel
theorem dX0_tells_113 : decode cX0_tells 113 = .ok (.aload_n 0, 1) := by decide +kernel
theorem dX0_tells_114 : decode cX0_tells 114 = .ok (.bipush 70, 2) := by decide +kernel
theorem dX0_tells_116 : decode cX0_tells 116 = .ok (.invokevirtual 15, 3) := by decide +kernel
theorem dX0_tells_119 : decode cX0_tells 119 = .ok (.aload_n 0, 1) := by decide +kernel
theorem dX0_tells_120 : decode cX0_tells 120 = .ok (.aload_n 1, 1) := by decide +kernel
theorem dX0_tells_121 : decode cX0_tells 121 = .ok (.aload_n 1, 1) := by decide +kernel
theorem dX0_tells_122 : decode cX0_tells 122 = .ok (.getfield 40, 3) := by decide +kernel
theorem dX0_tells_125 : decode cX0_tells 125 = .ok (.iload_n 3, 1) := by decide +kernel
theorem dX0_tells_126 : decode cX0_tells 126 = .ok (.invokevirtual 43, 3) := by decide +kernel
theorem dX0_tells_129 : decode cX0_tells 129 = .ok (.aload_n 0, 1) := by decide +kernel
theorem dX0_tells_130 : decode cX0_tells 130 = .ok (.aload_n 1, 1) := by decide +kernel
theorem dX0_tells_131 : decode cX0_tells 131 = .ok (.bipush 6, 2) := by decide +kernel
theorem dX0_tells_133 : decode cX0_tells 133 = .ok (.invokestatic 25, 3) := by decide +kernel
theorem dX0_tells_136 : decode cX0_tells 136 = .ok (.iload_n 3, 1) := by decide +kernel
theorem dX0_tells_137 : decode cX0_tells 137 = .ok (.invokevirtual 46, 3) := by decide +kernel
theorem dX0_tells_140 : decode cX0_tells 140 = .ok (.isub, 1) := by decide +kernel
theorem dX0_tells_141 : decode cX0_tells 141 = .ok (.ireturn, 1) := by decide +kernel
theorem dX0_tells_142 : decode cX0_tells 142 = .ok (.aload_n 0, 1) := by decide +kernel
theorem dX0_tells_143 : decode cX0_tells 143 = .ok (.aload_n 1, 1) := by decide +kernel
theorem dX0_tells_144 : decode cX0_tells 144 = .ok (.iload_n 2, 1) := by decide +kernel
theorem dX0_tells_145 : decode cX0_tells 145 = .ok (.invokestatic 25, 3) := by decide +kernel
theorem dX0_tells_148 : decode cX0_tells 148 = .ok (.iload_n 3, 1) := by decide +kernel
theorem dX0_tells_149 : decode cX0_tells 149 = .ok (.invokevirtual 46, 3) := by decide +kernel
theorem dX0_tells_152 : decode cX0_tells 152 = .ok (.ireturn, 1) := by decide +kernel
theorem dX0_begin_0 : decode cX0_begin 0 = .ok (.aload_n 0, 1) := by decide +kernel
theorem dX0_begin_1 : decode cX0_begin 1 = .ok (.getfield 49, 3) := by decide +kernel
theorem dX0_begin_4 : decode cX0_begin 4 = .ok (.ifCond .lt 25, 3) := by decide +kernel
theorem dX0_begin_7 : decode cX0_begin 7 = .ok (.aload_n 0, 1) := by decide +kernel
theorem dX0_begin_8 : decode cX0_begin 8 = .ok (.getfield 49, 3) := by decide +kernel
theorem dX0_begin_11 : decode cX0_begin 11 = .ok (.aload_n 0, 1) := by decide +kernel
theorem dX0_begin_12 : decode cX0_begin 12 = .ok (.getfield 9, 3) := by decide +kernel
theorem dX0_begin_15 : decode cX0_begin 15 = .ok (.arraylength, 1) := by decide +kernel
theorem dX0_begin_16 : decode cX0_begin 16 = .ok (.if_icmp .ge 13, 3) := by decide +kernel
theorem dX0_begin_19 : decode cX0_begin 19 = .ok (.aload_n 0, 1) := by decide +kernel
theorem dX0_begin_20 : decode cX0_begin 20 = .ok (.getfield 9, 3) := by decide +kernel
theorem dX0_begin_23 : decode cX0_begin 23 = .ok (.aload_n 0, 1) := by decide +kernel
theorem dX0_begin_24 : decode cX0_begin 24 = .ok (.getfield 49, 3) := by decide +kernel
theorem dX0_begin_27 : decode cX0_begin 27 = .ok (.iload_n 1, 1) := by decide +kernel
theorem dX0_begin_28 : decode cX0_begin 28 = .ok (.iastore, 1) := by decide +kernel
theorem dX0_begin_29 : decode cX0_begin 29 = .ok (.aload_n 0, 1) := by decide +kernel
theorem dX0_begin_30 : decode cX0_begin 30 = .ok (.dup, 1) := by decide +kernel
theorem dX0_begin_31 : decode cX0_begin 31 = .ok (.getfield 49, 3) := by decide +kernel
theorem dX0_begin_34 : decode cX0_begin 34 = .ok (.iconst 1, 1) := by decide +kernel
theorem dX0_begin_35 : decode cX0_begin 35 = .ok (.iadd, 1) := by decide +kernel
theorem dX0_begin_36 : decode cX0_begin 36 = .ok (.putfield 49, 3) := by decide +kernel
theorem dX0_begin_39 : decode cX0_begin 39 = .ok (.return_, 1) := by decide +kernel
theorem dX0_traced_0 : decode cX0_traced 0 = .ok (.iload_n 1, 1) := by decide +kernel
theorem dX0_traced_1 : decode cX0_traced 1 = .ok (.ifCond .lt 29, 3) := by decide +kernel
theorem dX0_traced_4 : decode cX0_traced 4 = .ok (.iload_n 1, 1) := by decide +kernel
theorem dX0_traced_5 : decode cX0_traced 5 = .ok (.aload_n 0, 1) := by decide +kernel
theorem dX0_traced_6 : decode cX0_traced 6 = .ok (.getfield 49, 3) := by decide +kernel
theorem dX0_traced_9 : decode cX0_traced 9 = .ok (.if_icmp .ge 21, 3) := by decide +kernel
theorem dX0_traced_12 : decode cX0_traced 12 = .ok (.iload_n 1, 1) := by decide +kernel
theorem dX0_traced_13 : decode cX0_traced 13 = .ok (.aload_n 0, 1) := by decide +kernel
theorem dX0_traced_14 : decode cX0_traced 14 = .ok (.getfield 9, 3) := by decide +kernel
theorem dX0_traced_17 : decode cX0_traced 17 = .ok (.arraylength, 1) := by decide +kernel
theorem dX0_traced_18 : decode cX0_traced 18 = .ok (.if_icmp .ge 12, 3) := by decide +kernel
theorem dX0_traced_21 : decode cX0_traced 21 = .ok (.aload_n 0, 1) := by decide +kernel
theorem dX0_traced_22 : decode cX0_traced 22 = .ok (.getfield 9, 3) := by decide +kernel
theorem dX0_traced_25 : decode cX0_traced 25 = .ok (.iload_n 1, 1) := by decide +kernel
theorem dX0_traced_26 : decode cX0_traced 26 = .ok (.iaload, 1) := by decide +kernel
theorem dX0_traced_27 : decode cX0_traced 27 = .ok (.goto 4, 3) := by decide +kernel
theorem dX0_traced_30 : decode cX0_traced 30 = .ok (.iconst (-1), 1) := by decide +kernel
theorem dX0_traced_31 : decode cX0_traced 31 = .ok (.ireturn, 1) := by decide +kernel
theorem dX1_init_0 : decode cX1_init 0 = .ok (.aload_n 0, 1) := by decide +kernel
theorem dX1_init_1 : decode cX1_init 1 = .ok (.invokespecial 3, 3) := by decide +kernel
theorem dX1_init_4 : decode cX1_init 4 = .ok (.aload_n 0, 1) := by decide +kernel
theorem dX1_init_5 : decode cX1_init 5 = .ok (.iload_n 1, 1) := by decide +kernel
theorem dX1_init_6 : decode cX1_init 6 = .ok (.putfield 9, 3) := by decide +kernel
theorem dX1_init_9 : decode cX1_init 9 = .ok (.aload_n 0, 1) := by decide +kernel
theorem dX1_init_10 : decode cX1_init 10 = .ok (.iload_n 2, 1) := by decide +kernel
theorem dX1_init_11 : decode cX1_init 11 = .ok (.putfield 15, 3) := by decide +kernel
theorem dX1_init_14 : decode cX1_init 14 = .ok (.aload_n 0, 1) := by decide +kernel
theorem dX1_init_15 : decode cX1_init 15 = .ok (.aload_n 3, 1) := by decide +kernel
theorem dX1_init_16 : decode cX1_init 16 = .ok (.putfield 18, 3) := by decide +kernel
theorem dX1_init_19 : decode cX1_init 19 = .ok (.return_, 1) := by decide +kernel
theorem dX1_holds_0 : decode cX1_holds 0 = .ok (.iconst 0, 1) := by decide +kernel
theorem dX1_holds_1 : decode cX1_holds 1 = .ok (.istore 5, 2) := by decide +kernel
theorem dX1_holds_3 : decode cX1_holds 3 = .ok (.aload_n 0, 1) := by decide +kernel
theorem dX1_holds_4 : decode cX1_holds 4 = .ok (.getfield 18, 3) := by decide +kernel
theorem dX1_holds_7 : decode cX1_holds 7 = .ok (.astore 6, 2) := by decide +kernel
theorem dX1_holds_9 : decode cX1_holds 9 = .ok (.aload 6, 2) := by decide +kernel
theorem dX1_holds_11 : decode cX1_holds 11 = .ok (.arraylength, 1) := by decide +kernel
theorem dX1_holds_12 : decode cX1_holds 12 = .ok (.istore 7, 2) := by decide +kernel
theorem dX1_holds_14 : decode cX1_holds 14 = .ok (.iconst 0, 1) := by decide +kernel
theorem dX1_holds_15 : decode cX1_holds 15 = .ok (.istore 8, 2) := by decide +kernel
theorem dX1_holds_17 : decode cX1_holds 17 = .ok (.iload 8, 2) := by decide +kernel
theorem dX1_holds_19 : decode cX1_holds 19 = .ok (.iload 7, 2) := by decide +kernel
theorem dX1_holds_21 : decode cX1_holds 21 = .ok (.if_icmp .ge 107, 3) := by decide +kernel
theorem dX1_holds_24 : decode cX1_holds 24 = .ok (.aload 6, 2) := by decide +kernel
theorem dX1_holds_26 : decode cX1_holds 26 = .ok (.iload 8, 2) := by decide +kernel
theorem dX1_holds_28 : decode cX1_holds 28 = .ok (.iaload, 1) := by decide +kernel
theorem dX1_holds_29 : decode cX1_holds 29 = .ok (.istore 9, 2) := by decide +kernel
theorem dX1_holds_31 : decode cX1_holds 31 = .ok (.iload 9, 2) := by decide +kernel
theorem dX1_holds_33 : decode cX1_holds 33 = .ok (.bipush 10, 2) := by decide +kernel
theorem dX1_holds_35 : decode cX1_holds 35 = .ok (.idiv, 1) := by decide +kernel
theorem dX1_holds_36 : decode cX1_holds 36 = .ok (.istore 10, 2) := by decide +kernel
theorem dX1_holds_38 : decode cX1_holds 38 = .ok (.iload 10, 2) := by decide +kernel
theorem dX1_holds_40 : decode cX1_holds 40 = .ok (.bipush 21, 2) := by decide +kernel
theorem dX1_holds_42 : decode cX1_holds 42 = .ok (.if_icmp .ne 12, 3) := by decide +kernel
theorem dX1_holds_45 : decode cX1_holds 45 = .ok (.iload 5, 2) := by decide +kernel
theorem dX1_holds_47 : decode cX1_holds 47 = .ok (.iconst 1, 1) := by decide +kernel
theorem dX1_holds_48 : decode cX1_holds 48 = .ok (.ixor, 1) := by decide +kernel
theorem dX1_holds_49 : decode cX1_holds 49 = .ok (.istore 5, 2) := by decide +kernel
theorem dX1_holds_51 : decode cX1_holds 51 = .ok (.goto 71, 3) := by decide +kernel
theorem dX1_holds_54 : decode cX1_holds 54 = .ok (.iload 10, 2) := by decide +kernel
theorem dX1_holds_56 : decode cX1_holds 56 = .ok (.bipush 22, 2) := by decide +kernel
theorem dX1_holds_58 : decode cX1_holds 58 = .ok (.if_icmp .ne 18, 3) := by decide +kernel
theorem dX1_holds_61 : decode cX1_holds 61 = .ok (.iload 5, 2) := by decide +kernel
theorem dX1_holds_63 : decode cX1_holds 63 = .ok (.iconst 1, 1) := by decide +kernel
theorem dX1_holds_64 : decode cX1_holds 64 = .ok (.ishr, 1) := by decide +kernel
theorem dX1_holds_65 : decode cX1_holds 65 = .ok (.iload 5, 2) := by decide +kernel
theorem dX1_holds_67 : decode cX1_holds 67 = .ok (.bipush (-2), 2) := by decide +kernel
theorem dX1_holds_69 : decode cX1_holds 69 = .ok (.ior, 1) := by decide +kernel
theorem dX1_holds_70 : decode cX1_holds 70 = .ok (.iand, 1) := by decide +kernel
theorem dX1_holds_71 : decode cX1_holds 71 = .ok (.istore 5, 2) := by decide +kernel
theorem dX1_holds_73 : decode cX1_holds 73 = .ok (.goto 49, 3) := by decide +kernel
theorem dX1_holds_76 : decode cX1_holds 76 = .ok (.iload 10, 2) := by decide +kernel
theorem dX1_holds_78 : decode cX1_holds 78 = .ok (.bipush 23, 2) := by decide +kernel
theorem dX1_holds_80 : decode cX1_holds 80 = .ok (.if_icmp .ne 17, 3) := by decide +kernel
theorem dX1_holds_83 : decode cX1_holds 83 = .ok (.iload 5, 2) := by decide +kernel
theorem dX1_holds_85 : decode cX1_holds 85 = .ok (.iconst 1, 1) := by decide +kernel
theorem dX1_holds_86 : decode cX1_holds 86 = .ok (.ishr, 1) := by decide +kernel
theorem dX1_holds_87 : decode cX1_holds 87 = .ok (.iload 5, 2) := by decide +kernel
theorem dX1_holds_89 : decode cX1_holds 89 = .ok (.iconst 1, 1) := by decide +kernel
theorem dX1_holds_90 : decode cX1_holds 90 = .ok (.iand, 1) := by decide +kernel
theorem dX1_holds_91 : decode cX1_holds 91 = .ok (.ior, 1) := by decide +kernel
theorem dX1_holds_92 : decode cX1_holds 92 = .ok (.istore 5, 2) := by decide +kernel
theorem dX1_holds_94 : decode cX1_holds 94 = .ok (.goto 28, 3) := by decide +kernel
theorem dX1_holds_97 : decode cX1_holds 97 = .ok (.iload 5, 2) := by decide +kernel
theorem dX1_holds_99 : decode cX1_holds 99 = .ok (.iconst 1, 1) := by decide +kernel
theorem dX1_holds_100 : decode cX1_holds 100 = .ok (.ishl, 1) := by decide +kernel
theorem dX1_holds_101 : decode cX1_holds 101 = .ok (.iload 9, 2) := by decide +kernel
theorem dX1_holds_103 : decode cX1_holds 103 = .ok (.aload_n 1, 1) := by decide +kernel
theorem dX1_holds_104 : decode cX1_holds 104 = .ok (.iload_n 2, 1) := by decide +kernel
theorem dX1_holds_105 : decode cX1_holds 105 = .ok (.iload_n 3, 1) := by decide +kernel
theorem dX1_holds_106 : decode cX1_holds 106 = .ok (.iload 4, 2) := by decide +kernel
theorem dX1_holds_108 : decode cX1_holds 108 = .ok (.invokestatic 22, 3) := by decide +kernel
theorem dX1_holds_111 : decode cX1_holds 111 = .ok (.ifCond .eq 7, 3) := by decide +kernel
theorem dX1_holds_114 : decode cX1_holds 114 = .ok (.iconst 1, 1) := by decide +kernel
theorem dX1_holds_115 : decode cX1_holds 115 = .ok (.goto 4, 3) := by decide +kernel
theorem dX1_holds_118 : decode cX1_holds 118 = .ok (.iconst 0, 1) := by decide +kernel
theorem dX1_holds_119 : decode cX1_holds 119 = .ok (.ior, 1) := by decide +kernel
theorem dX1_holds_120 : decode cX1_holds 120 = .ok (.istore 5, 2) := by decide +kernel
theorem dX1_holds_122 : decode cX1_holds 122 = .ok (.iinc 8 1, 3) := by decide +kernel
theorem dX1_holds_125 : decode cX1_holds 125 = .ok (.goto (-108), 3) := by decide +kernel
theorem dX1_holds_128 : decode cX1_holds 128 = .ok (.iload 5, 2) := by decide +kernel
theorem dX1_holds_130 : decode cX1_holds 130 = .ok (.iconst 1, 1) := by decide +kernel
theorem dX1_holds_131 : decode cX1_holds 131 = .ok (.iand, 1) := by decide +kernel
theorem dX1_holds_132 : decode cX1_holds 132 = .ok (.ifCond .eq 7, 3) := by decide +kernel
theorem dX1_holds_135 : decode cX1_holds 135 = .ok (.iconst 1, 1) := by decide +kernel
theorem dX1_holds_136 : decode cX1_holds 136 = .ok (.goto 4, 3) := by decide +kernel
theorem dX1_holds_139 : decode cX1_holds 139 = .ok (.iconst 0, 1) := by decide +kernel
theorem dX1_holds_140 : decode cX1_holds 140 = .ok (.ireturn, 1) := by decide +kernel
theorem dX1_passes_0 : decode cX1_passes 0 = .ok (.iload_n 0, 1) := by decide +kernel
theorem dX1_passes_1 : decode cX1_passes 1 = .ok (.bipush 10, 2) := by decide +kernel
theorem dX1_passes_3 : decode cX1_passes 3 = .ok (.irem, 1) := by decide +kernel
theorem dX1_passes_4 : decode cX1_passes 4 = .ok (.istore 5, 2) := by decide +kernel
theorem dX1_passes_6 : decode cX1_passes 6 = .ok (.iload_n 0, 1) := by decide +kernel
theorem dX1_passes_7 : decode cX1_passes 7 = .ok (.bipush 10, 2) := by decide +kernel
theorem dX1_passes_9 : decode cX1_passes 9 = .ok (.idiv, 1) := by decide +kernel
theorem dX1_passes_10 : decode cX1_passes 10 = .ok (.tableswitch 262 0 19 #[94, 109, 124, 139, 152, 165, 262, 178, 262, 262, 196, 262, 262, 214, 262, 262, 235, 262, 262, 247], 94) := by decide +kernel
theorem dX1_passes_104 : decode cX1_passes 104 = .ok (.aload_n 1, 1) := by decide +kernel
theorem dX1_passes_105 : decode cX1_passes 105 = .ok (.getfield 26, 3) := by decide +kernel
theorem dX1_passes_108 : decode cX1_passes 108 = .ok (.iload 5, 2) := by decide +kernel
theorem dX1_passes_110 : decode cX1_passes 110 = .ok (.if_icmp .ge 7, 3) := by decide +kernel
theorem dX1_passes_113 : decode cX1_passes 113 = .ok (.iconst 1, 1) := by decide +kernel
theorem dX1_passes_114 : decode cX1_passes 114 = .ok (.goto 4, 3) := by decide +kernel
theorem dX1_passes_117 : decode cX1_passes 117 = .ok (.iconst 0, 1) := by decide +kernel
theorem dX1_passes_118 : decode cX1_passes 118 = .ok (.ireturn, 1) := by decide +kernel
theorem dX1_passes_119 : decode cX1_passes 119 = .ok (.aload_n 1, 1) := by decide +kernel
theorem dX1_passes_120 : decode cX1_passes 120 = .ok (.getfield 26, 3) := by decide +kernel
theorem dX1_passes_123 : decode cX1_passes 123 = .ok (.iload 5, 2) := by decide +kernel
theorem dX1_passes_125 : decode cX1_passes 125 = .ok (.if_icmp .ne 7, 3) := by decide +kernel
theorem dX1_passes_128 : decode cX1_passes 128 = .ok (.iconst 1, 1) := by decide +kernel
theorem dX1_passes_129 : decode cX1_passes 129 = .ok (.goto 4, 3) := by decide +kernel
theorem dX1_passes_132 : decode cX1_passes 132 = .ok (.iconst 0, 1) := by decide +kernel
theorem dX1_passes_133 : decode cX1_passes 133 = .ok (.ireturn, 1) := by decide +kernel
theorem dX1_passes_134 : decode cX1_passes 134 = .ok (.aload_n 1, 1) := by decide +kernel
theorem dX1_passes_135 : decode cX1_passes 135 = .ok (.getfield 26, 3) := by decide +kernel
theorem dX1_passes_138 : decode cX1_passes 138 = .ok (.iload 5, 2) := by decide +kernel
theorem dX1_passes_140 : decode cX1_passes 140 = .ok (.if_icmp .le 7, 3) := by decide +kernel
theorem dX1_passes_143 : decode cX1_passes 143 = .ok (.iconst 1, 1) := by decide +kernel
theorem dX1_passes_144 : decode cX1_passes 144 = .ok (.goto 4, 3) := by decide +kernel
theorem dX1_passes_147 : decode cX1_passes 147 = .ok (.iconst 0, 1) := by decide +kernel
theorem dX1_passes_148 : decode cX1_passes 148 = .ok (.ireturn, 1) := by decide +kernel
theorem dX1_passes_149 : decode cX1_passes 149 = .ok (.iload 4, 2) := by decide +kernel
theorem dX1_passes_151 : decode cX1_passes 151 = .ok (.iload 5, 2) := by decide +kernel
theorem dX1_passes_153 : decode cX1_passes 153 = .ok (.if_icmp .ge 7, 3) := by decide +kernel
theorem dX1_passes_156 : decode cX1_passes 156 = .ok (.iconst 1, 1) := by decide +kernel
theorem dX1_passes_157 : decode cX1_passes 157 = .ok (.goto 4, 3) := by decide +kernel
theorem dX1_passes_160 : decode cX1_passes 160 = .ok (.iconst 0, 1) := by decide +kernel
theorem dX1_passes_161 : decode cX1_passes 161 = .ok (.ireturn, 1) := by decide +kernel
theorem dX1_passes_162 : decode cX1_passes 162 = .ok (.iload 4, 2) := by decide +kernel
theorem dX1_passes_164 : decode cX1_passes 164 = .ok (.iload 5, 2) := by decide +kernel
theorem dX1_passes_166 : decode cX1_passes 166 = .ok (.if_icmp .ne 7, 3) := by decide +kernel
theorem dX1_passes_169 : decode cX1_passes 169 = .ok (.iconst 1, 1) := by decide +kernel
theorem dX1_passes_170 : decode cX1_passes 170 = .ok (.goto 4, 3) := by decide +kernel
theorem dX1_passes_173 : decode cX1_passes 173 = .ok (.iconst 0, 1) := by decide +kernel
theorem dX1_passes_174 : decode cX1_passes 174 = .ok (.ireturn, 1) := by decide +kernel
theorem dX1_passes_175 : decode cX1_passes 175 = .ok (.iload 4, 2) := by decide +kernel
theorem dX1_passes_177 : decode cX1_passes 177 = .ok (.iload 5, 2) := by decide +kernel
theorem dX1_passes_179 : decode cX1_passes 179 = .ok (.if_icmp .le 7, 3) := by decide +kernel
theorem dX1_passes_182 : decode cX1_passes 182 = .ok (.iconst 1, 1) := by decide +kernel
theorem dX1_passes_183 : decode cX1_passes 183 = .ok (.goto 4, 3) := by decide +kernel
theorem dX1_passes_186 : decode cX1_passes 186 = .ok (.iconst 0, 1) := by decide +kernel
theorem dX1_passes_187 : decode cX1_passes 187 = .ok (.ireturn, 1) := by decide +kernel
theorem dX1_passes_188 : decode cX1_passes 188 = .ok (.aload_n 1, 1) := by decide +kernel
theorem dX1_passes_189 : decode cX1_passes 189 = .ok (.getfield 31, 3) := by decide +kernel
theorem dX1_passes_192 : decode cX1_passes 192 = .ok (.iload 5, 2) := by decide +kernel
theorem dX1_passes_194 : decode cX1_passes 194 = .ok (.ishr, 1) := by decide +kernel
theorem dX1_passes_195 : decode cX1_passes 195 = .ok (.iconst 1, 1) := by decide +kernel
theorem dX1_passes_196 : decode cX1_passes 196 = .ok (.iand, 1) := by decide +kernel
theorem dX1_passes_197 : decode cX1_passes 197 = .ok (.ifCond .eq 7, 3) := by decide +kernel
theorem dX1_passes_200 : decode cX1_passes 200 = .ok (.iconst 1, 1) := by decide +kernel
theorem dX1_passes_201 : decode cX1_passes 201 = .ok (.goto 4, 3) := by decide +kernel
theorem dX1_passes_204 : decode cX1_passes 204 = .ok (.iconst 0, 1) := by decide +kernel
theorem dX1_passes_205 : decode cX1_passes 205 = .ok (.ireturn, 1) := by decide +kernel
theorem dX1_passes_206 : decode cX1_passes 206 = .ok (.aload_n 1, 1) := by decide +kernel
theorem dX1_passes_207 : decode cX1_passes 207 = .ok (.getfield 34, 3) := by decide +kernel
theorem dX1_passes_210 : decode cX1_passes 210 = .ok (.getfield 38, 3) := by decide +kernel
theorem dX1_passes_213 : decode cX1_passes 213 = .ok (.iload 5, 2) := by decide +kernel
theorem dX1_passes_215 : decode cX1_passes 215 = .ok (.if_icmp .ne 7, 3) := by decide +kernel
theorem dX1_passes_218 : decode cX1_passes 218 = .ok (.iconst 1, 1) := by decide +kernel
theorem dX1_passes_219 : decode cX1_passes 219 = .ok (.goto 4, 3) := by decide +kernel
theorem dX1_passes_222 : decode cX1_passes 222 = .ok (.iconst 0, 1) := by decide +kernel
theorem dX1_passes_223 : decode cX1_passes 223 = .ok (.ireturn, 1) := by decide +kernel
theorem dX1_passes_224 : decode cX1_passes 224 = .ok (.aload_n 1, 1) := by decide +kernel
theorem dX1_passes_225 : decode cX1_passes 225 = .ok (.getfield 34, 3) := by decide +kernel
theorem dX1_passes_228 : decode cX1_passes 228 = .ok (.getfield 43, 3) := by decide +kernel
theorem dX1_passes_231 : decode cX1_passes 231 = .ok (.iload 5, 2) := by decide +kernel
theorem dX1_passes_233 : decode cX1_passes 233 = .ok (.ishr, 1) := by decide +kernel
theorem dX1_passes_234 : decode cX1_passes 234 = .ok (.iconst 1, 1) := by decide +kernel
theorem dX1_passes_235 : decode cX1_passes 235 = .ok (.iand, 1) := by decide +kernel
theorem dX1_passes_236 : decode cX1_passes 236 = .ok (.ifCond .eq 7, 3) := by decide +kernel
theorem dX1_passes_239 : decode cX1_passes 239 = .ok (.iconst 1, 1) := by decide +kernel
theorem dX1_passes_240 : decode cX1_passes 240 = .ok (.goto 4, 3) := by decide +kernel
theorem dX1_passes_243 : decode cX1_passes 243 = .ok (.iconst 0, 1) := by decide +kernel
theorem dX1_passes_244 : decode cX1_passes 244 = .ok (.ireturn, 1) := by decide +kernel
theorem dX1_passes_245 : decode cX1_passes 245 = .ok (.iload_n 2, 1) := by decide +kernel
theorem dX1_passes_246 : decode cX1_passes 246 = .ok (.iload 5, 2) := by decide +kernel
theorem dX1_passes_248 : decode cX1_passes 248 = .ok (.if_icmp .ne 7, 3) := by decide +kernel
theorem dX1_passes_251 : decode cX1_passes 251 = .ok (.iconst 1, 1) := by decide +kernel
theorem dX1_passes_252 : decode cX1_passes 252 = .ok (.goto 4, 3) := by decide +kernel
theorem dX1_passes_255 : decode cX1_passes 255 = .ok (.iconst 0, 1) := by decide +kernel
theorem dX1_passes_256 : decode cX1_passes 256 = .ok (.ireturn, 1) := by decide +kernel
theorem dX1_passes_257 : decode cX1_passes 257 = .ok (.iload_n 3, 1) := by decide +kernel
theorem dX1_passes_258 : decode cX1_passes 258 = .ok (.iload 5, 2) := by decide +kernel
theorem dX1_passes_260 : decode cX1_passes 260 = .ok (.ishr, 1) := by decide +kernel
theorem dX1_passes_261 : decode cX1_passes 261 = .ok (.iconst 1, 1) := by decide +kernel
theorem dX1_passes_262 : decode cX1_passes 262 = .ok (.iand, 1) := by decide +kernel
theorem dX1_passes_263 : decode cX1_passes 263 = .ok (.ifCond .eq 7, 3) := by decide +kernel
theorem dX1_passes_266 : decode cX1_passes 266 = .ok (.iconst 1, 1) := by decide +kernel
theorem dX1_passes_267 : decode cX1_passes 267 = .ok (.goto 4, 3) := by decide +kernel
theorem dX1_passes_270 : decode cX1_passes 270 = .ok (.iconst 0, 1) := by decide +kernel
theorem dX1_passes_271 : decode cX1_passes 271 = .ok (.ireturn, 1) := by decide +kernel
theorem dX1_passes_272 : decode cX1_passes 272 = .ok (.iconst 0, 1) := by decide +kernel
theorem dX1_passes_273 : decode cX1_passes 273 = .ok (.ireturn, 1) := by decide +kernel
theorem dX2_init_0 : decode cX2_init 0 = .ok (.aload_n 0, 1) := by decide +kernel
theorem dX2_init_1 : decode cX2_init 1 = .ok (.invokespecial 1, 3) := by decide +kernel
theorem dX2_init_4 : decode cX2_init 4 = .ok (.aload_n 0, 1) := by decide +kernel
theorem dX2_init_5 : decode cX2_init 5 = .ok (.iload_n 1, 1) := by decide +kernel
theorem dX2_init_6 : decode cX2_init 6 = .ok (.putfield 7, 3) := by decide +kernel
theorem dX2_init_9 : decode cX2_init 9 = .ok (.return_, 1) := by decide +kernel
theorem dX3_init_0 : decode cX3_init 0 = .ok (.aload_n 0, 1) := by decide +kernel
theorem dX3_init_1 : decode cX3_init 1 = .ok (.invokespecial 3, 3) := by decide +kernel
theorem dX3_init_4 : decode cX3_init 4 = .ok (.aload_n 0, 1) := by decide +kernel
theorem dX3_init_5 : decode cX3_init 5 = .ok (.bipush 100, 2) := by decide +kernel
theorem dX3_init_7 : decode cX3_init 7 = .ok (.newarray .byte, 2) := by decide +kernel
theorem dX3_init_9 : decode cX3_init 9 = .ok (.putfield 9, 3) := by decide +kernel
theorem dX3_init_12 : decode cX3_init 12 = .ok (.aload_n 0, 1) := by decide +kernel
theorem dX3_init_13 : decode cX3_init 13 = .ok (.bipush 100, 2) := by decide +kernel
theorem dX3_init_15 : decode cX3_init 15 = .ok (.newarray .int, 2) := by decide +kernel
theorem dX3_init_17 : decode cX3_init 17 = .ok (.putfield 15, 3) := by decide +kernel
theorem dX3_init_20 : decode cX3_init 20 = .ok (.return_, 1) := by decide +kernel
theorem dX3_append_0 : decode cX3_append 0 = .ok (.aload_n 0, 1) := by decide +kernel
theorem dX3_append_1 : decode cX3_append 1 = .ok (.getfield 19, 3) := by decide +kernel
theorem dX3_append_4 : decode cX3_append 4 = .ok (.ifCond .lt 35, 3) := by decide +kernel
theorem dX3_append_7 : decode cX3_append 7 = .ok (.aload_n 0, 1) := by decide +kernel
theorem dX3_append_8 : decode cX3_append 8 = .ok (.getfield 19, 3) := by decide +kernel
theorem dX3_append_11 : decode cX3_append 11 = .ok (.aload_n 0, 1) := by decide +kernel
theorem dX3_append_12 : decode cX3_append 12 = .ok (.getfield 9, 3) := by decide +kernel
theorem dX3_append_15 : decode cX3_append 15 = .ok (.arraylength, 1) := by decide +kernel
theorem dX3_append_16 : decode cX3_append 16 = .ok (.if_icmp .ge 23, 3) := by decide +kernel
theorem dX3_append_19 : decode cX3_append 19 = .ok (.aload_n 0, 1) := by decide +kernel
theorem dX3_append_20 : decode cX3_append 20 = .ok (.getfield 9, 3) := by decide +kernel
theorem dX3_append_23 : decode cX3_append 23 = .ok (.aload_n 0, 1) := by decide +kernel
theorem dX3_append_24 : decode cX3_append 24 = .ok (.getfield 19, 3) := by decide +kernel
theorem dX3_append_27 : decode cX3_append 27 = .ok (.iload_n 1, 1) := by decide +kernel
theorem dX3_append_28 : decode cX3_append 28 = .ok (.bastore, 1) := by decide +kernel
theorem dX3_append_29 : decode cX3_append 29 = .ok (.aload_n 0, 1) := by decide +kernel
theorem dX3_append_30 : decode cX3_append 30 = .ok (.dup, 1) := by decide +kernel
theorem dX3_append_31 : decode cX3_append 31 = .ok (.getfield 19, 3) := by decide +kernel
theorem dX3_append_34 : decode cX3_append 34 = .ok (.iconst 1, 1) := by decide +kernel
theorem dX3_append_35 : decode cX3_append 35 = .ok (.iadd, 1) := by decide +kernel
theorem dX3_append_36 : decode cX3_append 36 = .ok (.putfield 19, 3) := by decide +kernel
theorem dX3_append_39 : decode cX3_append 39 = .ok (.return_, 1) := by decide +kernel
theorem dX3_readRule_0 : decode cX3_readRule 0 = .ok (.aload_n 0, 1) := by decide +kernel
theorem dX3_readRule_1 : decode cX3_readRule 1 = .ok (.iconst 0, 1) := by decide +kernel
theorem dX3_readRule_2 : decode cX3_readRule 2 = .ok (.putfield 23, 3) := by decide +kernel
theorem dX3_readRule_5 : decode cX3_readRule 5 = .ok (.aload_n 0, 1) := by decide +kernel
theorem dX3_readRule_6 : decode cX3_readRule 6 = .ok (.iconst 0, 1) := by decide +kernel
theorem dX3_readRule_7 : decode cX3_readRule 7 = .ok (.putfield 26, 3) := by decide +kernel
theorem dX3_readRule_10 : decode cX3_readRule 10 = .ok (.aload_n 0, 1) := by decide +kernel
theorem dX3_readRule_11 : decode cX3_readRule 11 = .ok (.iconst 0, 1) := by decide +kernel
theorem dX3_readRule_12 : decode cX3_readRule 12 = .ok (.putfield 30, 3) := by decide +kernel
theorem dX3_readRule_15 : decode cX3_readRule 15 = .ok (.new 33, 3) := by decide +kernel
theorem dX3_readRule_18 : decode cX3_readRule 18 = .ok (.dup, 1) := by decide +kernel
theorem dX3_readRule_19 : decode cX3_readRule 19 = .ok (.iload_n 1, 1) := by decide +kernel
theorem dX3_readRule_20 : decode cX3_readRule 20 = .ok (.iload_n 2, 1) := by decide +kernel
theorem dX3_readRule_21 : decode cX3_readRule 21 = .ok (.invokespecial 35, 3) := by decide +kernel
theorem dX3_readRule_24 : decode cX3_readRule 24 = .ok (.astore_n 3, 1) := by decide +kernel
theorem dX3_readRule_25 : decode cX3_readRule 25 = .ok (.iconst 1, 1) := by decide +kernel
theorem dX3_readRule_26 : decode cX3_readRule 26 = .ok (.istore 4, 2) := by decide +kernel
theorem dX3_readRule_28 : decode cX3_readRule 28 = .ok (.iconst 0, 1) := by decide +kernel
theorem dX3_readRule_29 : decode cX3_readRule 29 = .ok (.istore 5, 2) := by decide +kernel
theorem dX3_readRule_31 : decode cX3_readRule 31 = .ok (.iload 5, 2) := by decide +kernel
theorem dX3_readRule_33 : decode cX3_readRule 33 = .ok (.bipush 6, 2) := by decide +kernel
theorem dX3_readRule_35 : decode cX3_readRule 35 = .ok (.if_icmp .ge 47, 3) := by decide +kernel
theorem dX3_readRule_38 : decode cX3_readRule 38 = .ok (.iload 4, 2) := by decide +kernel
theorem dX3_readRule_40 : decode cX3_readRule 40 = .ok (.ifCond .eq 42, 3) := by decide +kernel
theorem dX3_readRule_43 : decode cX3_readRule 43 = .ok (.aload_n 3, 1) := by decide +kernel
theorem dX3_readRule_44 : decode cX3_readRule 44 = .ok (.aload_n 0, 1) := by decide +kernel
theorem dX3_readRule_45 : decode cX3_readRule 45 = .ok (.invokevirtual 38, 3) := by decide +kernel
theorem dX3_readRule_48 : decode cX3_readRule 48 = .ok (.invokevirtual 42, 3) := by decide +kernel
theorem dX3_readRule_51 : decode cX3_readRule 51 = .ok (.iload 5, 2) := by decide +kernel
theorem dX3_readRule_53 : decode cX3_readRule 53 = .ok (.iconst 1, 1) := by decide +kernel
theorem dX3_readRule_54 : decode cX3_readRule 54 = .ok (.iadd, 1) := by decide +kernel
theorem dX3_readRule_55 : decode cX3_readRule 55 = .ok (.bipush 6, 2) := by decide +kernel
theorem dX3_readRule_57 : decode cX3_readRule 57 = .ok (.if_icmp .ge 16, 3) := by decide +kernel
theorem dX3_readRule_60 : decode cX3_readRule 60 = .ok (.aload_n 0, 1) := by decide +kernel
theorem dX3_readRule_61 : decode cX3_readRule 61 = .ok (.bipush 59, 2) := by decide +kernel
theorem dX3_readRule_63 : decode cX3_readRule 63 = .ok (.invokevirtual 46, 3) := by decide +kernel
theorem dX3_readRule_66 : decode cX3_readRule 66 = .ok (.ifCond .eq 7, 3) := by decide +kernel
theorem dX3_readRule_69 : decode cX3_readRule 69 = .ok (.iconst 1, 1) := by decide +kernel
theorem dX3_readRule_70 : decode cX3_readRule 70 = .ok (.goto 4, 3) := by decide +kernel
theorem dX3_readRule_73 : decode cX3_readRule 73 = .ok (.iconst 0, 1) := by decide +kernel
theorem dX3_readRule_74 : decode cX3_readRule 74 = .ok (.istore 4, 2) := by decide +kernel
theorem dX3_readRule_76 : decode cX3_readRule 76 = .ok (.iinc 5 1, 3) := by decide +kernel
theorem dX3_readRule_79 : decode cX3_readRule 79 = .ok (.goto (-48), 3) := by decide +kernel
theorem dX3_readRule_82 : decode cX3_readRule 82 = .ok (.aload_n 3, 1) := by decide +kernel
theorem dX3_readRule_83 : decode cX3_readRule 83 = .ok (.aload_n 0, 1) := by decide +kernel
theorem dX3_readRule_84 : decode cX3_readRule 84 = .ok (.getfield 30, 3) := by decide +kernel
theorem dX3_readRule_87 : decode cX3_readRule 87 = .ok (.putfield 50, 3) := by decide +kernel
theorem dX3_readRule_90 : decode cX3_readRule 90 = .ok (.aload_n 0, 1) := by decide +kernel
theorem dX3_readRule_91 : decode cX3_readRule 91 = .ok (.getfield 26, 3) := by decide +kernel
theorem dX3_readRule_94 : decode cX3_readRule 94 = .ok (.ifCond .ne 14, 3) := by decide +kernel
theorem dX3_readRule_97 : decode cX3_readRule 97 = .ok (.aload_n 0, 1) := by decide +kernel
theorem dX3_readRule_98 : decode cX3_readRule 98 = .ok (.getfield 23, 3) := by decide +kernel
theorem dX3_readRule_101 : decode cX3_readRule 101 = .ok (.aload_n 0, 1) := by decide +kernel
theorem dX3_readRule_102 : decode cX3_readRule 102 = .ok (.getfield 19, 3) := by decide +kernel
theorem dX3_readRule_105 : decode cX3_readRule 105 = .ok (.if_icmp .ge 7, 3) := by decide +kernel
theorem dX3_readRule_108 : decode cX3_readRule 108 = .ok (.aconst_null, 1) := by decide +kernel
theorem dX3_readRule_109 : decode cX3_readRule 109 = .ok (.goto 4, 3) := by decide +kernel
theorem dX3_readRule_112 : decode cX3_readRule 112 = .ok (.aload_n 3, 1) := by decide +kernel
theorem dX3_readRule_113 : decode cX3_readRule 113 = .ok (.areturn, 1) := by decide +kernel
theorem dX3_readClause_0 : decode cX3_readClause 0 = .ok (.aload_n 0, 1) := by decide +kernel
theorem dX3_readClause_1 : decode cX3_readClause 1 = .ok (.invokevirtual 51, 3) := by decide +kernel
theorem dX3_readClause_4 : decode cX3_readClause 4 = .ok (.istore_n 1, 1) := by decide +kernel
theorem dX3_readClause_5 : decode cX3_readClause 5 = .ok (.iconst 0, 1) := by decide +kernel
theorem dX3_readClause_6 : decode cX3_readClause 6 = .ok (.istore_n 2, 1) := by decide +kernel
theorem dX3_readClause_7 : decode cX3_readClause 7 = .ok (.iload_n 1, 1) := by decide +kernel
theorem dX3_readClause_8 : decode cX3_readClause 8 = .ok (.iconst 2, 1) := by decide +kernel
theorem dX3_readClause_9 : decode cX3_readClause 9 = .ok (.if_icmp .ne 28, 3) := by decide +kernel
theorem dX3_readClause_12 : decode cX3_readClause 12 = .ok (.aload_n 0, 1) := by decide +kernel
theorem dX3_readClause_13 : decode cX3_readClause 13 = .ok (.ldc 55, 2) := by decide +kernel
theorem dX3_readClause_15 : decode cX3_readClause 15 = .ok (.invokevirtual 57, 3) := by decide +kernel
theorem dX3_readClause_18 : decode cX3_readClause 18 = .ok (.istore_n 2, 1) := by decide +kernel
theorem dX3_readClause_19 : decode cX3_readClause 19 = .ok (.aload_n 0, 1) := by decide +kernel
theorem dX3_readClause_20 : decode cX3_readClause 20 = .ok (.dup, 1) := by decide +kernel
theorem dX3_readClause_21 : decode cX3_readClause 21 = .ok (.getfield 30, 3) := by decide +kernel
theorem dX3_readClause_24 : decode cX3_readClause 24 = .ok (.iconst 1, 1) := by decide +kernel
theorem dX3_readClause_25 : decode cX3_readClause 25 = .ok (.iload_n 2, 1) := by decide +kernel
theorem dX3_readClause_26 : decode cX3_readClause 26 = .ok (.ishl, 1) := by decide +kernel
theorem dX3_readClause_27 : decode cX3_readClause 27 = .ok (.ior, 1) := by decide +kernel
theorem dX3_readClause_28 : decode cX3_readClause 28 = .ok (.putfield 30, 3) := by decide +kernel
theorem dX3_readClause_31 : decode cX3_readClause 31 = .ok (.aload_n 0, 1) := by decide +kernel
theorem dX3_readClause_32 : decode cX3_readClause 32 = .ok (.ldc 61, 2) := by decide +kernel
theorem dX3_readClause_34 : decode cX3_readClause 34 = .ok (.invokevirtual 63, 3) := by decide +kernel
theorem dX3_readClause_37 : decode cX3_readClause 37 = .ok (.aload_n 0, 1) := by decide +kernel
theorem dX3_readClause_38 : decode cX3_readClause 38 = .ok (.iconst 0, 1) := by decide +kernel
theorem dX3_readClause_39 : decode cX3_readClause 39 = .ok (.putfield 67, 3) := by decide +kernel
theorem dX3_readClause_42 : decode cX3_readClause 42 = .ok (.aload_n 0, 1) := by decide +kernel
theorem dX3_readClause_43 : decode cX3_readClause 43 = .ok (.iconst 0, 1) := by decide +kernel
theorem dX3_readClause_44 : decode cX3_readClause 44 = .ok (.invokevirtual 70, 3) := by decide +kernel
theorem dX3_readClause_47 : decode cX3_readClause 47 = .ok (.new 74, 3) := by decide +kernel
theorem dX3_readClause_50 : decode cX3_readClause 50 = .ok (.dup, 1) := by decide +kernel
theorem dX3_readClause_51 : decode cX3_readClause 51 = .ok (.iload_n 1, 1) := by decide +kernel
theorem dX3_readClause_52 : decode cX3_readClause 52 = .ok (.iload_n 2, 1) := by decide +kernel
theorem dX3_readClause_53 : decode cX3_readClause 53 = .ok (.aload_n 0, 1) := by decide +kernel
theorem dX3_readClause_54 : decode cX3_readClause 54 = .ok (.getfield 15, 3) := by decide +kernel
theorem dX3_readClause_57 : decode cX3_readClause 57 = .ok (.aload_n 0, 1) := by decide +kernel
theorem dX3_readClause_58 : decode cX3_readClause 58 = .ok (.getfield 67, 3) := by decide +kernel
theorem dX3_readClause_61 : decode cX3_readClause 61 = .ok (.iconst 0, 1) := by decide +kernel
theorem dX3_readClause_62 : decode cX3_readClause 62 = .ok (.invokestatic 76, 3) := by decide +kernel
theorem dX3_readClause_65 : decode cX3_readClause 65 = .ok (.invokestatic 82, 3) := by decide +kernel
theorem dX3_readClause_68 : decode cX3_readClause 68 = .ok (.invokespecial 88, 3) := by decide +kernel
theorem dX3_readClause_71 : decode cX3_readClause 71 = .ok (.areturn, 1) := by decide +kernel
theorem dX3_readSort_0 : decode cX3_readSort 0 = .ok (.aload_n 0, 1) := by decide +kernel
theorem dX3_readSort_1 : decode cX3_readSort 1 = .ok (.ldc 91, 2) := by decide +kernel
theorem dX3_readSort_3 : decode cX3_readSort 3 = .ok (.invokevirtual 57, 3) := by decide +kernel
theorem dX3_readSort_6 : decode cX3_readSort 6 = .ok (.istore_n 1, 1) := by decide +kernel
theorem dX3_readSort_7 : decode cX3_readSort 7 = .ok (.iload_n 1, 1) := by decide +kernel
theorem dX3_readSort_8 : decode cX3_readSort 8 = .ok (.tableswitch 55 0 2 #[28, 37, 46], 28) := by decide +kernel
theorem dX3_readSort_36 : decode cX3_readSort 36 = .ok (.aload_n 0, 1) := by decide +kernel
theorem dX3_readSort_37 : decode cX3_readSort 37 = .ok (.ldc 93, 2) := by decide +kernel
theorem dX3_readSort_39 : decode cX3_readSort 39 = .ok (.invokevirtual 63, 3) := by decide +kernel
theorem dX3_readSort_42 : decode cX3_readSort 42 = .ok (.goto 27, 3) := by decide +kernel
theorem dX3_readSort_45 : decode cX3_readSort 45 = .ok (.aload_n 0, 1) := by decide +kernel
theorem dX3_readSort_46 : decode cX3_readSort 46 = .ok (.ldc 95, 2) := by decide +kernel
theorem dX3_readSort_48 : decode cX3_readSort 48 = .ok (.invokevirtual 63, 3) := by decide +kernel
theorem dX3_readSort_51 : decode cX3_readSort 51 = .ok (.goto 18, 3) := by decide +kernel
theorem dX3_readSort_54 : decode cX3_readSort 54 = .ok (.aload_n 0, 1) := by decide +kernel
theorem dX3_readSort_55 : decode cX3_readSort 55 = .ok (.ldc 97, 2) := by decide +kernel
theorem dX3_readSort_57 : decode cX3_readSort 57 = .ok (.invokevirtual 63, 3) := by decide +kernel
theorem dX3_readSort_60 : decode cX3_readSort 60 = .ok (.goto 9, 3) := by decide +kernel
theorem dX3_readSort_63 : decode cX3_readSort 63 = .ok (.aload_n 0, 1) := by decide +kernel
theorem dX3_readSort_64 : decode cX3_readSort 64 = .ok (.ldc 99, 2) := by decide +kernel
theorem dX3_readSort_66 : decode cX3_readSort 66 = .ok (.invokevirtual 63, 3) := by decide +kernel
theorem dX3_readSort_69 : decode cX3_readSort 69 = .ok (.iload_n 1, 1) := by decide +kernel
theorem dX3_readSort_70 : decode cX3_readSort 70 = .ok (.ireturn, 1) := by decide +kernel
theorem dX3_readCondition_0 : decode cX3_readCondition 0 = .ok (.iconst 0, 1) := by decide +kernel
theorem dX3_readCondition_1 : decode cX3_readCondition 1 = .ok (.istore_n 2, 1) := by decide +kernel
theorem dX3_readCondition_2 : decode cX3_readCondition 2 = .ok (.aload_n 0, 1) := by decide +kernel
theorem dX3_readCondition_3 : decode cX3_readCondition 3 = .ok (.iload_n 1, 1) := by decide +kernel
theorem dX3_readCondition_4 : decode cX3_readCondition 4 = .ok (.invokevirtual 101, 3) := by decide +kernel
theorem dX3_readCondition_7 : decode cX3_readCondition 7 = .ok (.iconst 1, 1) := by decide +kernel
theorem dX3_readCondition_8 : decode cX3_readCondition 8 = .ok (.istore_n 3, 1) := by decide +kernel
theorem dX3_readCondition_9 : decode cX3_readCondition 9 = .ok (.iconst 0, 1) := by decide +kernel
theorem dX3_readCondition_10 : decode cX3_readCondition 10 = .ok (.istore 4, 2) := by decide +kernel
theorem dX3_readCondition_12 : decode cX3_readCondition 12 = .ok (.iload 4, 2) := by decide +kernel
theorem dX3_readCondition_14 : decode cX3_readCondition 14 = .ok (.bipush 100, 2) := by decide +kernel
theorem dX3_readCondition_16 : decode cX3_readCondition 16 = .ok (.if_icmp .ge 69, 3) := by decide +kernel
theorem dX3_readCondition_19 : decode cX3_readCondition 19 = .ok (.iload_n 3, 1) := by decide +kernel
theorem dX3_readCondition_20 : decode cX3_readCondition 20 = .ok (.ifCond .eq 65, 3) := by decide +kernel
theorem dX3_readCondition_23 : decode cX3_readCondition 23 = .ok (.aload_n 0, 1) := by decide +kernel
theorem dX3_readCondition_24 : decode cX3_readCondition 24 = .ok (.bipush 38, 2) := by decide +kernel
theorem dX3_readCondition_26 : decode cX3_readCondition 26 = .ok (.invokevirtual 46, 3) := by decide +kernel
theorem dX3_readCondition_29 : decode cX3_readCondition 29 = .ok (.ifCond .eq 18, 3) := by decide +kernel
theorem dX3_readCondition_32 : decode cX3_readCondition 32 = .ok (.aload_n 0, 1) := by decide +kernel
theorem dX3_readCondition_33 : decode cX3_readCondition 33 = .ok (.iload_n 1, 1) := by decide +kernel
theorem dX3_readCondition_34 : decode cX3_readCondition 34 = .ok (.invokevirtual 101, 3) := by decide +kernel
theorem dX3_readCondition_37 : decode cX3_readCondition 37 = .ok (.aload_n 0, 1) := by decide +kernel
theorem dX3_readCondition_38 : decode cX3_readCondition 38 = .ok (.bipush 22, 2) := by decide +kernel
theorem dX3_readCondition_40 : decode cX3_readCondition 40 = .ok (.iconst 0, 1) := by decide +kernel
theorem dX3_readCondition_41 : decode cX3_readCondition 41 = .ok (.invokevirtual 104, 3) := by decide +kernel
theorem dX3_readCondition_44 : decode cX3_readCondition 44 = .ok (.goto 35, 3) := by decide +kernel
theorem dX3_readCondition_47 : decode cX3_readCondition 47 = .ok (.aload_n 0, 1) := by decide +kernel
theorem dX3_readCondition_48 : decode cX3_readCondition 48 = .ok (.bipush 124, 2) := by decide +kernel
theorem dX3_readCondition_50 : decode cX3_readCondition 50 = .ok (.invokevirtual 46, 3) := by decide +kernel
theorem dX3_readCondition_53 : decode cX3_readCondition 53 = .ok (.ifCond .eq 24, 3) := by decide +kernel
theorem dX3_readCondition_56 : decode cX3_readCondition 56 = .ok (.iload_n 2, 1) := by decide +kernel
theorem dX3_readCondition_57 : decode cX3_readCondition 57 = .ok (.ifCond .eq 10, 3) := by decide +kernel
theorem dX3_readCondition_60 : decode cX3_readCondition 60 = .ok (.aload_n 0, 1) := by decide +kernel
theorem dX3_readCondition_61 : decode cX3_readCondition 61 = .ok (.bipush 23, 2) := by decide +kernel
theorem dX3_readCondition_63 : decode cX3_readCondition 63 = .ok (.iconst 0, 1) := by decide +kernel
theorem dX3_readCondition_64 : decode cX3_readCondition 64 = .ok (.invokevirtual 104, 3) := by decide +kernel
theorem dX3_readCondition_67 : decode cX3_readCondition 67 = .ok (.iconst 1, 1) := by decide +kernel
theorem dX3_readCondition_68 : decode cX3_readCondition 68 = .ok (.istore_n 2, 1) := by decide +kernel
theorem dX3_readCondition_69 : decode cX3_readCondition 69 = .ok (.aload_n 0, 1) := by decide +kernel
theorem dX3_readCondition_70 : decode cX3_readCondition 70 = .ok (.iload_n 1, 1) := by decide +kernel
theorem dX3_readCondition_71 : decode cX3_readCondition 71 = .ok (.invokevirtual 101, 3) := by decide +kernel
theorem dX3_readCondition_74 : decode cX3_readCondition 74 = .ok (.goto 5, 3) := by decide +kernel
theorem dX3_readCondition_77 : decode cX3_readCondition 77 = .ok (.iconst 0, 1) := by decide +kernel
theorem dX3_readCondition_78 : decode cX3_readCondition 78 = .ok (.istore_n 3, 1) := by decide +kernel
theorem dX3_readCondition_79 : decode cX3_readCondition 79 = .ok (.iinc 4 1, 3) := by decide +kernel
theorem dX3_readCondition_82 : decode cX3_readCondition 82 = .ok (.goto (-70), 3) := by decide +kernel
theorem dX3_readCondition_85 : decode cX3_readCondition 85 = .ok (.iload_n 2, 1) := by decide +kernel
theorem dX3_readCondition_86 : decode cX3_readCondition 86 = .ok (.ifCond .eq 10, 3) := by decide +kernel
theorem dX3_readCondition_89 : decode cX3_readCondition 89 = .ok (.aload_n 0, 1) := by decide +kernel
theorem dX3_readCondition_90 : decode cX3_readCondition 90 = .ok (.bipush 23, 2) := by decide +kernel
theorem dX3_readCondition_92 : decode cX3_readCondition 92 = .ok (.iconst 0, 1) := by decide +kernel
theorem dX3_readCondition_93 : decode cX3_readCondition 93 = .ok (.invokevirtual 104, 3) := by decide +kernel
theorem dX3_readCondition_96 : decode cX3_readCondition 96 = .ok (.return_, 1) := by decide +kernel
theorem dX3_readOne_0 : decode cX3_readOne 0 = .ok (.iload_n 1, 1) := by decide +kernel
theorem dX3_readOne_1 : decode cX3_readOne 1 = .ok (.iconst 4, 1) := by decide +kernel
theorem dX3_readOne_2 : decode cX3_readOne 2 = .ok (.if_icmp .ge 29, 3) := by decide +kernel
theorem dX3_readOne_5 : decode cX3_readOne 5 = .ok (.aload_n 0, 1) := by decide +kernel
theorem dX3_readOne_6 : decode cX3_readOne 6 = .ok (.bipush 33, 2) := by decide +kernel
theorem dX3_readOne_8 : decode cX3_readOne 8 = .ok (.invokevirtual 46, 3) := by decide +kernel
theorem dX3_readOne_11 : decode cX3_readOne 11 = .ok (.ifCond .eq 20, 3) := by decide +kernel
theorem dX3_readOne_14 : decode cX3_readOne 14 = .ok (.aload_n 0, 1) := by decide +kernel
theorem dX3_readOne_15 : decode cX3_readOne 15 = .ok (.iload_n 1, 1) := by decide +kernel
theorem dX3_readOne_16 : decode cX3_readOne 16 = .ok (.iconst 1, 1) := by decide +kernel
theorem dX3_readOne_17 : decode cX3_readOne 17 = .ok (.iadd, 1) := by decide +kernel
theorem dX3_readOne_18 : decode cX3_readOne 18 = .ok (.invokevirtual 101, 3) := by decide +kernel
theorem dX3_readOne_21 : decode cX3_readOne 21 = .ok (.aload_n 0, 1) := by decide +kernel
theorem dX3_readOne_22 : decode cX3_readOne 22 = .ok (.bipush 21, 2) := by decide +kernel
theorem dX3_readOne_24 : decode cX3_readOne 24 = .ok (.iconst 0, 1) := by decide +kernel
theorem dX3_readOne_25 : decode cX3_readOne 25 = .ok (.invokevirtual 104, 3) := by decide +kernel
theorem dX3_readOne_28 : decode cX3_readOne 28 = .ok (.goto 37, 3) := by decide +kernel
theorem dX3_readOne_31 : decode cX3_readOne 31 = .ok (.iload_n 1, 1) := by decide +kernel
theorem dX3_readOne_32 : decode cX3_readOne 32 = .ok (.iconst 4, 1) := by decide +kernel
theorem dX3_readOne_33 : decode cX3_readOne 33 = .ok (.if_icmp .ge 28, 3) := by decide +kernel
theorem dX3_readOne_36 : decode cX3_readOne 36 = .ok (.aload_n 0, 1) := by decide +kernel
theorem dX3_readOne_37 : decode cX3_readOne 37 = .ok (.bipush 40, 2) := by decide +kernel
theorem dX3_readOne_39 : decode cX3_readOne 39 = .ok (.invokevirtual 46, 3) := by decide +kernel
theorem dX3_readOne_42 : decode cX3_readOne 42 = .ok (.ifCond .eq 19, 3) := by decide +kernel
theorem dX3_readOne_45 : decode cX3_readOne 45 = .ok (.aload_n 0, 1) := by decide +kernel
theorem dX3_readOne_46 : decode cX3_readOne 46 = .ok (.iload_n 1, 1) := by decide +kernel
theorem dX3_readOne_47 : decode cX3_readOne 47 = .ok (.iconst 1, 1) := by decide +kernel
theorem dX3_readOne_48 : decode cX3_readOne 48 = .ok (.iadd, 1) := by decide +kernel
theorem dX3_readOne_49 : decode cX3_readOne 49 = .ok (.invokevirtual 70, 3) := by decide +kernel
theorem dX3_readOne_52 : decode cX3_readOne 52 = .ok (.aload_n 0, 1) := by decide +kernel
theorem dX3_readOne_53 : decode cX3_readOne 53 = .ok (.ldc 107, 2) := by decide +kernel
theorem dX3_readOne_55 : decode cX3_readOne 55 = .ok (.invokevirtual 63, 3) := by decide +kernel
theorem dX3_readOne_58 : decode cX3_readOne 58 = .ok (.goto 7, 3) := by decide +kernel
theorem dX3_readOne_61 : decode cX3_readOne 61 = .ok (.aload_n 0, 1) := by decide +kernel
theorem dX3_readOne_62 : decode cX3_readOne 62 = .ok (.invokevirtual 109, 3) := by decide +kernel
theorem dX3_readOne_65 : decode cX3_readOne 65 = .ok (.return_, 1) := by decide +kernel
theorem dX3_readTest_0 : decode cX3_readTest 0 = .ok (.aload_n 0, 1) := by decide +kernel
theorem dX3_readTest_1 : decode cX3_readTest 1 = .ok (.ldc 112, 2) := by decide +kernel
theorem dX3_readTest_3 : decode cX3_readTest 3 = .ok (.invokevirtual 57, 3) := by decide +kernel
theorem dX3_readTest_6 : decode cX3_readTest 6 = .ok (.istore_n 1, 1) := by decide +kernel
theorem dX3_readTest_7 : decode cX3_readTest 7 = .ok (.iconst 1, 1) := by decide +kernel
theorem dX3_readTest_8 : decode cX3_readTest 8 = .ok (.istore_n 2, 1) := by decide +kernel
theorem dX3_readTest_9 : decode cX3_readTest 9 = .ok (.iload_n 1, 1) := by decide +kernel
theorem dX3_readTest_10 : decode cX3_readTest 10 = .ok (.iconst 1, 1) := by decide +kernel
theorem dX3_readTest_11 : decode cX3_readTest 11 = .ok (.if_icmp .gt 13, 3) := by decide +kernel
theorem dX3_readTest_14 : decode cX3_readTest 14 = .ok (.aload_n 0, 1) := by decide +kernel
theorem dX3_readTest_15 : decode cX3_readTest 15 = .ok (.ldc 114, 2) := by decide +kernel
theorem dX3_readTest_17 : decode cX3_readTest 17 = .ok (.invokevirtual 57, 3) := by decide +kernel
theorem dX3_readTest_20 : decode cX3_readTest 20 = .ok (.istore_n 2, 1) := by decide +kernel
theorem dX3_readTest_21 : decode cX3_readTest 21 = .ok (.goto 10, 3) := by decide +kernel
theorem dX3_readTest_24 : decode cX3_readTest 24 = .ok (.aload_n 0, 1) := by decide +kernel
theorem dX3_readTest_25 : decode cX3_readTest 25 = .ok (.ldc 116, 2) := by decide +kernel
theorem dX3_readTest_27 : decode cX3_readTest 27 = .ok (.invokevirtual 57, 3) := by decide +kernel
theorem dX3_readTest_30 : decode cX3_readTest 30 = .ok (.pop, 1) := by decide +kernel
theorem dX3_readTest_31 : decode cX3_readTest 31 = .ok (.iconst 3, 1) := by decide +kernel
theorem dX3_readTest_32 : decode cX3_readTest 32 = .ok (.iload_n 1, 1) := by decide +kernel
theorem dX3_readTest_33 : decode cX3_readTest 33 = .ok (.imul, 1) := by decide +kernel
theorem dX3_readTest_34 : decode cX3_readTest 34 = .ok (.iload_n 2, 1) := by decide +kernel
theorem dX3_readTest_35 : decode cX3_readTest 35 = .ok (.iadd, 1) := by decide +kernel
theorem dX3_readTest_36 : decode cX3_readTest 36 = .ok (.istore_n 3, 1) := by decide +kernel
theorem dX3_readTest_37 : decode cX3_readTest 37 = .ok (.aload_n 0, 1) := by decide +kernel
theorem dX3_readTest_38 : decode cX3_readTest 38 = .ok (.ldc 55, 2) := by decide +kernel
theorem dX3_readTest_40 : decode cX3_readTest 40 = .ok (.invokevirtual 57, 3) := by decide +kernel
theorem dX3_readTest_43 : decode cX3_readTest 43 = .ok (.istore 4, 2) := by decide +kernel
theorem dX3_readTest_45 : decode cX3_readTest 45 = .ok (.iload_n 3, 1) := by decide +kernel
theorem dX3_readTest_46 : decode cX3_readTest 46 = .ok (.bipush 19, 2) := by decide +kernel
theorem dX3_readTest_48 : decode cX3_readTest 48 = .ok (.if_icmp .ne 16, 3) := by decide +kernel
theorem dX3_readTest_51 : decode cX3_readTest 51 = .ok (.aload_n 0, 1) := by decide +kernel
theorem dX3_readTest_52 : decode cX3_readTest 52 = .ok (.dup, 1) := by decide +kernel
theorem dX3_readTest_53 : decode cX3_readTest 53 = .ok (.getfield 30, 3) := by decide +kernel
theorem dX3_readTest_56 : decode cX3_readTest 56 = .ok (.iconst 1, 1) := by decide +kernel
theorem dX3_readTest_57 : decode cX3_readTest 57 = .ok (.iload 4, 2) := by decide +kernel
theorem dX3_readTest_59 : decode cX3_readTest 59 = .ok (.ishl, 1) := by decide +kernel
theorem dX3_readTest_60 : decode cX3_readTest 60 = .ok (.ior, 1) := by decide +kernel
theorem dX3_readTest_61 : decode cX3_readTest 61 = .ok (.putfield 30, 3) := by decide +kernel
theorem dX3_readTest_64 : decode cX3_readTest 64 = .ok (.aload_n 0, 1) := by decide +kernel
theorem dX3_readTest_65 : decode cX3_readTest 65 = .ok (.iload_n 3, 1) := by decide +kernel
theorem dX3_readTest_66 : decode cX3_readTest 66 = .ok (.iload 4, 2) := by decide +kernel
theorem dX3_readTest_68 : decode cX3_readTest 68 = .ok (.invokevirtual 104, 3) := by decide +kernel
theorem dX3_readTest_71 : decode cX3_readTest 71 = .ok (.return_, 1) := by decide +kernel
theorem dX3_peek_0 : decode cX3_peek 0 = .ok (.aload_n 0, 1) := by decide +kernel
theorem dX3_peek_1 : decode cX3_peek 1 = .ok (.getfield 26, 3) := by decide +kernel
theorem dX3_peek_4 : decode cX3_peek 4 = .ok (.ifCond .ne 37, 3) := by decide +kernel
theorem dX3_peek_7 : decode cX3_peek 7 = .ok (.aload_n 0, 1) := by decide +kernel
theorem dX3_peek_8 : decode cX3_peek 8 = .ok (.getfield 23, 3) := by decide +kernel
theorem dX3_peek_11 : decode cX3_peek 11 = .ok (.aload_n 0, 1) := by decide +kernel
theorem dX3_peek_12 : decode cX3_peek 12 = .ok (.getfield 19, 3) := by decide +kernel
theorem dX3_peek_15 : decode cX3_peek 15 = .ok (.if_icmp .ge 26, 3) := by decide +kernel
theorem dX3_peek_18 : decode cX3_peek 18 = .ok (.aload_n 0, 1) := by decide +kernel
theorem dX3_peek_19 : decode cX3_peek 19 = .ok (.getfield 23, 3) := by decide +kernel
theorem dX3_peek_22 : decode cX3_peek 22 = .ok (.ifCond .lt 19, 3) := by decide +kernel
theorem dX3_peek_25 : decode cX3_peek 25 = .ok (.aload_n 0, 1) := by decide +kernel
theorem dX3_peek_26 : decode cX3_peek 26 = .ok (.getfield 23, 3) := by decide +kernel
theorem dX3_peek_29 : decode cX3_peek 29 = .ok (.aload_n 0, 1) := by decide +kernel
theorem dX3_peek_30 : decode cX3_peek 30 = .ok (.getfield 9, 3) := by decide +kernel
theorem dX3_peek_33 : decode cX3_peek 33 = .ok (.arraylength, 1) := by decide +kernel
theorem dX3_peek_34 : decode cX3_peek 34 = .ok (.if_icmp .ge 7, 3) := by decide +kernel
theorem dX3_peek_37 : decode cX3_peek 37 = .ok (.iconst 1, 1) := by decide +kernel
theorem dX3_peek_38 : decode cX3_peek 38 = .ok (.goto 4, 3) := by decide +kernel
theorem dX3_peek_41 : decode cX3_peek 41 = .ok (.iconst 0, 1) := by decide +kernel
theorem dX3_peek_42 : decode cX3_peek 42 = .ok (.istore_n 1, 1) := by decide +kernel
theorem dX3_peek_43 : decode cX3_peek 43 = .ok (.iload_n 1, 1) := by decide +kernel
theorem dX3_peek_44 : decode cX3_peek 44 = .ok (.ifCond .eq 19, 3) := by decide +kernel
theorem dX3_peek_47 : decode cX3_peek 47 = .ok (.aload_n 0, 1) := by decide +kernel
theorem dX3_peek_48 : decode cX3_peek 48 = .ok (.getfield 9, 3) := by decide +kernel
theorem dX3_peek_51 : decode cX3_peek 51 = .ok (.aload_n 0, 1) := by decide +kernel
theorem dX3_peek_52 : decode cX3_peek 52 = .ok (.getfield 23, 3) := by decide +kernel
theorem dX3_peek_55 : decode cX3_peek 55 = .ok (.baload, 1) := by decide +kernel
theorem dX3_peek_56 : decode cX3_peek 56 = .ok (.sipush 255, 3) := by decide +kernel
theorem dX3_peek_59 : decode cX3_peek 59 = .ok (.iand, 1) := by decide +kernel
theorem dX3_peek_60 : decode cX3_peek 60 = .ok (.goto 4, 3) := by decide +kernel
theorem dX3_peek_63 : decode cX3_peek 63 = .ok (.iconst (-1), 1) := by decide +kernel
theorem dX3_peek_64 : decode cX3_peek 64 = .ok (.ireturn, 1) := by decide +kernel
theorem dX3_accept_0 : decode cX3_accept 0 = .ok (.aload_n 0, 1) := by decide +kernel
theorem dX3_accept_1 : decode cX3_accept 1 = .ok (.invokevirtual 118, 3) := by decide +kernel
theorem dX3_accept_4 : decode cX3_accept 4 = .ok (.iload_n 1, 1) := by decide +kernel
theorem dX3_accept_5 : decode cX3_accept 5 = .ok (.if_icmp .eq 5, 3) := by decide +kernel
theorem dX3_accept_8 : decode cX3_accept 8 = .ok (.iconst 0, 1) := by decide +kernel
theorem dX3_accept_9 : decode cX3_accept 9 = .ok (.ireturn, 1) := by decide +kernel
theorem dX3_accept_10 : decode cX3_accept 10 = .ok (.aload_n 0, 1) := by decide +kernel
theorem dX3_accept_11 : decode cX3_accept 11 = .ok (.dup, 1) := by decide +kernel
theorem dX3_accept_12 : decode cX3_accept 12 = .ok (.getfield 23, 3) := by decide +kernel
theorem dX3_accept_15 : decode cX3_accept 15 = .ok (.iconst 1, 1) := by decide +kernel
theorem dX3_accept_16 : decode cX3_accept 16 = .ok (.iadd, 1) := by decide +kernel
theorem dX3_accept_17 : decode cX3_accept 17 = .ok (.putfield 23, 3) := by decide +kernel
theorem dX3_accept_20 : decode cX3_accept 20 = .ok (.iconst 1, 1) := by decide +kernel
theorem dX3_accept_21 : decode cX3_accept 21 = .ok (.ireturn, 1) := by decide +kernel
theorem dX3_expectAll_0 : decode cX3_expectAll 0 = .ok (.iconst 0, 1) := by decide +kernel
theorem dX3_expectAll_1 : decode cX3_expectAll 1 = .ok (.istore_n 2, 1) := by decide +kernel
theorem dX3_expectAll_2 : decode cX3_expectAll 2 = .ok (.iload_n 2, 1) := by decide +kernel
theorem dX3_expectAll_3 : decode cX3_expectAll 3 = .ok (.aload_n 1, 1) := by decide +kernel
theorem dX3_expectAll_4 : decode cX3_expectAll 4 = .ok (.invokevirtual 121, 3) := by decide +kernel
theorem dX3_expectAll_7 : decode cX3_expectAll 7 = .ok (.if_icmp .ge 26, 3) := by decide +kernel
theorem dX3_expectAll_10 : decode cX3_expectAll 10 = .ok (.aload_n 0, 1) := by decide +kernel
theorem dX3_expectAll_11 : decode cX3_expectAll 11 = .ok (.aload_n 1, 1) := by decide +kernel
theorem dX3_expectAll_12 : decode cX3_expectAll 12 = .ok (.iload_n 2, 1) := by decide +kernel
theorem dX3_expectAll_13 : decode cX3_expectAll 13 = .ok (.invokevirtual 125, 3) := by decide +kernel
theorem dX3_expectAll_16 : decode cX3_expectAll 16 = .ok (.invokevirtual 46, 3) := by decide +kernel
theorem dX3_expectAll_19 : decode cX3_expectAll 19 = .ok (.ifCond .ne 8, 3) := by decide +kernel
theorem dX3_expectAll_22 : decode cX3_expectAll 22 = .ok (.aload_n 0, 1) := by decide +kernel
theorem dX3_expectAll_23 : decode cX3_expectAll 23 = .ok (.iconst 1, 1) := by decide +kernel
theorem dX3_expectAll_24 : decode cX3_expectAll 24 = .ok (.putfield 26, 3) := by decide +kernel
theorem dX3_expectAll_27 : decode cX3_expectAll 27 = .ok (.iinc 2 1, 3) := by decide +kernel
theorem dX3_expectAll_30 : decode cX3_expectAll 30 = .ok (.goto (-28), 3) := by decide +kernel
theorem dX3_expectAll_33 : decode cX3_expectAll 33 = .ok (.return_, 1) := by decide +kernel
theorem dX3_pick_0 : decode cX3_pick 0 = .ok (.aload_n 0, 1) := by decide +kernel
theorem dX3_pick_1 : decode cX3_pick 1 = .ok (.invokevirtual 118, 3) := by decide +kernel
theorem dX3_pick_4 : decode cX3_pick 4 = .ok (.istore_n 2, 1) := by decide +kernel
theorem dX3_pick_5 : decode cX3_pick 5 = .ok (.iload_n 2, 1) := by decide +kernel
theorem dX3_pick_6 : decode cX3_pick 6 = .ok (.ifCond .ge 7, 3) := by decide +kernel
theorem dX3_pick_9 : decode cX3_pick 9 = .ok (.iconst (-1), 1) := by decide +kernel
theorem dX3_pick_10 : decode cX3_pick 10 = .ok (.goto 9, 3) := by decide +kernel
theorem dX3_pick_13 : decode cX3_pick 13 = .ok (.aload_n 1, 1) := by decide +kernel
theorem dX3_pick_14 : decode cX3_pick 14 = .ok (.iload_n 2, 1) := by decide +kernel
theorem dX3_pick_15 : decode cX3_pick 15 = .ok (.i2c, 1) := by decide +kernel
theorem dX3_pick_16 : decode cX3_pick 16 = .ok (.invokevirtual 129, 3) := by decide +kernel
theorem dX3_pick_19 : decode cX3_pick 19 = .ok (.istore_n 3, 1) := by decide +kernel
theorem dX3_pick_20 : decode cX3_pick 20 = .ok (.iload_n 3, 1) := by decide +kernel
theorem dX3_pick_21 : decode cX3_pick 21 = .ok (.ifCond .ge 10, 3) := by decide +kernel
theorem dX3_pick_24 : decode cX3_pick 24 = .ok (.aload_n 0, 1) := by decide +kernel
theorem dX3_pick_25 : decode cX3_pick 25 = .ok (.iconst 1, 1) := by decide +kernel
theorem dX3_pick_26 : decode cX3_pick 26 = .ok (.putfield 26, 3) := by decide +kernel
theorem dX3_pick_29 : decode cX3_pick 29 = .ok (.iconst 0, 1) := by decide +kernel
theorem dX3_pick_30 : decode cX3_pick 30 = .ok (.ireturn, 1) := by decide +kernel
theorem dX3_pick_31 : decode cX3_pick 31 = .ok (.aload_n 0, 1) := by decide +kernel
theorem dX3_pick_32 : decode cX3_pick 32 = .ok (.dup, 1) := by decide +kernel
theorem dX3_pick_33 : decode cX3_pick 33 = .ok (.getfield 23, 3) := by decide +kernel
theorem dX3_pick_36 : decode cX3_pick 36 = .ok (.iconst 1, 1) := by decide +kernel
theorem dX3_pick_37 : decode cX3_pick 37 = .ok (.iadd, 1) := by decide +kernel
theorem dX3_pick_38 : decode cX3_pick 38 = .ok (.putfield 23, 3) := by decide +kernel
theorem dX3_pick_41 : decode cX3_pick 41 = .ok (.iload_n 3, 1) := by decide +kernel
theorem dX3_pick_42 : decode cX3_pick 42 = .ok (.ireturn, 1) := by decide +kernel
theorem dX3_put_0 : decode cX3_put 0 = .ok (.aload_n 0, 1) := by decide +kernel
theorem dX3_put_1 : decode cX3_put 1 = .ok (.getfield 67, 3) := by decide +kernel
theorem dX3_put_4 : decode cX3_put 4 = .ok (.ifCond .lt 40, 3) := by decide +kernel
theorem dX3_put_7 : decode cX3_put 7 = .ok (.aload_n 0, 1) := by decide +kernel
theorem dX3_put_8 : decode cX3_put 8 = .ok (.getfield 67, 3) := by decide +kernel
theorem dX3_put_11 : decode cX3_put 11 = .ok (.aload_n 0, 1) := by decide +kernel
theorem dX3_put_12 : decode cX3_put 12 = .ok (.getfield 15, 3) := by decide +kernel
theorem dX3_put_15 : decode cX3_put 15 = .ok (.arraylength, 1) := by decide +kernel
theorem dX3_put_16 : decode cX3_put 16 = .ok (.if_icmp .ge 28, 3) := by decide +kernel
theorem dX3_put_19 : decode cX3_put 19 = .ok (.aload_n 0, 1) := by decide +kernel
theorem dX3_put_20 : decode cX3_put 20 = .ok (.getfield 15, 3) := by decide +kernel
theorem dX3_put_23 : decode cX3_put 23 = .ok (.aload_n 0, 1) := by decide +kernel
theorem dX3_put_24 : decode cX3_put 24 = .ok (.getfield 67, 3) := by decide +kernel
theorem dX3_put_27 : decode cX3_put 27 = .ok (.bipush 10, 2) := by decide +kernel
theorem dX3_put_29 : decode cX3_put 29 = .ok (.iload_n 1, 1) := by decide +kernel
theorem dX3_put_30 : decode cX3_put 30 = .ok (.imul, 1) := by decide +kernel
theorem dX3_put_31 : decode cX3_put 31 = .ok (.iload_n 2, 1) := by decide +kernel
theorem dX3_put_32 : decode cX3_put 32 = .ok (.iadd, 1) := by decide +kernel
theorem dX3_put_33 : decode cX3_put 33 = .ok (.iastore, 1) := by decide +kernel
theorem dX3_put_34 : decode cX3_put 34 = .ok (.aload_n 0, 1) := by decide +kernel
theorem dX3_put_35 : decode cX3_put 35 = .ok (.dup, 1) := by decide +kernel
theorem dX3_put_36 : decode cX3_put 36 = .ok (.getfield 67, 3) := by decide +kernel
theorem dX3_put_39 : decode cX3_put 39 = .ok (.iconst 1, 1) := by decide +kernel
theorem dX3_put_40 : decode cX3_put 40 = .ok (.iadd, 1) := by decide +kernel
theorem dX3_put_41 : decode cX3_put 41 = .ok (.putfield 67, 3) := by decide +kernel
theorem dX3_put_44 : decode cX3_put 44 = .ok (.return_, 1) := by decide +kernel
theorem dX4_init_0 : decode cX4_init 0 = .ok (.aload_n 0, 1) := by decide +kernel
theorem dX4_init_1 : decode cX4_init 1 = .ok (.invokespecial 3, 3) := by decide +kernel
theorem dX4_init_4 : decode cX4_init 4 = .ok (.aload_n 0, 1) := by decide +kernel
theorem dX4_init_5 : decode cX4_init 5 = .ok (.new 9, 3) := by decide +kernel
theorem dX4_init_8 : decode cX4_init 8 = .ok (.dup, 1) := by decide +kernel
theorem dX4_init_9 : decode cX4_init 9 = .ok (.invokespecial 11, 3) := by decide +kernel
theorem dX4_init_12 : decode cX4_init 12 = .ok (.putfield 12, 3) := by decide +kernel
theorem dX4_init_15 : decode cX4_init 15 = .ok (.aload_n 0, 1) := by decide +kernel
theorem dX4_init_16 : decode cX4_init 16 = .ok (.iload_n 1, 1) := by decide +kernel
theorem dX4_init_17 : decode cX4_init 17 = .ok (.putfield 18, 3) := by decide +kernel
theorem dX4_init_20 : decode cX4_init 20 = .ok (.aload_n 0, 1) := by decide +kernel
theorem dX4_init_21 : decode cX4_init 21 = .ok (.iload_n 2, 1) := by decide +kernel
theorem dX4_init_22 : decode cX4_init 22 = .ok (.putfield 22, 3) := by decide +kernel
theorem dX4_init_25 : decode cX4_init 25 = .ok (.return_, 1) := by decide +kernel
theorem dX4_add_0 : decode cX4_add 0 = .ok (.iconst 1, 1) := by decide +kernel
theorem dX4_add_1 : decode cX4_add 1 = .ok (.aload_n 0, 1) := by decide +kernel
theorem dX4_add_2 : decode cX4_add 2 = .ok (.getfield 12, 3) := by decide +kernel
theorem dX4_add_5 : decode cX4_add 5 = .ok (.invokevirtual 25, 3) := by decide +kernel
theorem dX4_add_8 : decode cX4_add 8 = .ok (.ishl, 1) := by decide +kernel
theorem dX4_add_9 : decode cX4_add 9 = .ok (.istore_n 2, 1) := by decide +kernel
theorem dX4_add_10 : decode cX4_add 10 = .ok (.aload_n 0, 1) := by decide +kernel
theorem dX4_add_11 : decode cX4_add 11 = .ok (.getfield 12, 3) := by decide +kernel
theorem dX4_add_14 : decode cX4_add 14 = .ok (.aload_n 1, 1) := by decide +kernel
theorem dX4_add_15 : decode cX4_add 15 = .ok (.invokevirtual 29, 3) := by decide +kernel
theorem dX4_add_18 : decode cX4_add 18 = .ok (.pop, 1) := by decide +kernel
theorem dX4_add_19 : decode cX4_add 19 = .ok (.aload_n 1, 1) := by decide +kernel
theorem dX4_add_20 : decode cX4_add 20 = .ok (.getfield 33, 3) := by decide +kernel
theorem dX4_add_23 : decode cX4_add 23 = .ok (.ifCond .ne 16, 3) := by decide +kernel
theorem dX4_add_26 : decode cX4_add 26 = .ok (.aload_n 0, 1) := by decide +kernel
theorem dX4_add_27 : decode cX4_add 27 = .ok (.dup, 1) := by decide +kernel
theorem dX4_add_28 : decode cX4_add 28 = .ok (.getfield 38, 3) := by decide +kernel
theorem dX4_add_31 : decode cX4_add 31 = .ok (.iload_n 2, 1) := by decide +kernel
theorem dX4_add_32 : decode cX4_add 32 = .ok (.ior, 1) := by decide +kernel
theorem dX4_add_33 : decode cX4_add 33 = .ok (.putfield 38, 3) := by decide +kernel
theorem dX4_add_36 : decode cX4_add 36 = .ok (.goto 42, 3) := by decide +kernel
theorem dX4_add_39 : decode cX4_add 39 = .ok (.aload_n 1, 1) := by decide +kernel
theorem dX4_add_40 : decode cX4_add 40 = .ok (.getfield 33, 3) := by decide +kernel
theorem dX4_add_43 : decode cX4_add 43 = .ok (.iconst 1, 1) := by decide +kernel
theorem dX4_add_44 : decode cX4_add 44 = .ok (.if_icmp .ne 16, 3) := by decide +kernel
theorem dX4_add_47 : decode cX4_add 47 = .ok (.aload_n 0, 1) := by decide +kernel
theorem dX4_add_48 : decode cX4_add 48 = .ok (.dup, 1) := by decide +kernel
theorem dX4_add_49 : decode cX4_add 49 = .ok (.getfield 41, 3) := by decide +kernel
theorem dX4_add_52 : decode cX4_add 52 = .ok (.iload_n 2, 1) := by decide +kernel
theorem dX4_add_53 : decode cX4_add 53 = .ok (.ior, 1) := by decide +kernel
theorem dX4_add_54 : decode cX4_add 54 = .ok (.putfield 41, 3) := by decide +kernel
theorem dX4_add_57 : decode cX4_add 57 = .ok (.goto 21, 3) := by decide +kernel
theorem dX4_add_60 : decode cX4_add 60 = .ok (.aload_n 1, 1) := by decide +kernel
theorem dX4_add_61 : decode cX4_add 61 = .ok (.getfield 33, 3) := by decide +kernel
theorem dX4_add_64 : decode cX4_add 64 = .ok (.iconst 3, 1) := by decide +kernel
theorem dX4_add_65 : decode cX4_add 65 = .ok (.if_icmp .ne 13, 3) := by decide +kernel
theorem dX4_add_68 : decode cX4_add 68 = .ok (.aload_n 0, 1) := by decide +kernel
theorem dX4_add_69 : decode cX4_add 69 = .ok (.dup, 1) := by decide +kernel
theorem dX4_add_70 : decode cX4_add 70 = .ok (.getfield 44, 3) := by decide +kernel
theorem dX4_add_73 : decode cX4_add 73 = .ok (.iload_n 2, 1) := by decide +kernel
theorem dX4_add_74 : decode cX4_add 74 = .ok (.ior, 1) := by decide +kernel
theorem dX4_add_75 : decode cX4_add 75 = .ok (.putfield 44, 3) := by decide +kernel
theorem dX4_add_78 : decode cX4_add 78 = .ok (.return_, 1) := by decide +kernel
theorem dX4_holding_0 : decode cX4_holding 0 = .ok (.aload_n 1, 1) := by decide +kernel
theorem dX4_holding_1 : decode cX4_holding 1 = .ok (.getfield 47, 3) := by decide +kernel
theorem dX4_holding_4 : decode cX4_holding 4 = .ok (.getfield 53, 3) := by decide +kernel
theorem dX4_holding_7 : decode cX4_holding 7 = .ok (.aload_n 3, 1) := by decide +kernel
theorem dX4_holding_8 : decode cX4_holding 8 = .ok (.getfield 58, 3) := by decide +kernel
theorem dX4_holding_11 : decode cX4_holding 11 = .ok (.iand, 1) := by decide +kernel
theorem dX4_holding_12 : decode cX4_holding 12 = .ok (.invokestatic 63, 3) := by decide +kernel
theorem dX4_holding_15 : decode cX4_holding 15 = .ok (.istore 4, 2) := by decide +kernel
theorem dX4_holding_17 : decode cX4_holding 17 = .ok (.iconst 0, 1) := by decide +kernel
theorem dX4_holding_18 : decode cX4_holding 18 = .ok (.istore 5, 2) := by decide +kernel
theorem dX4_holding_20 : decode cX4_holding 20 = .ok (.iconst 0, 1) := by decide +kernel
theorem dX4_holding_21 : decode cX4_holding 21 = .ok (.istore 6, 2) := by decide +kernel
theorem dX4_holding_23 : decode cX4_holding 23 = .ok (.iload 6, 2) := by decide +kernel
theorem dX4_holding_25 : decode cX4_holding 25 = .ok (.aload_n 0, 1) := by decide +kernel
theorem dX4_holding_26 : decode cX4_holding 26 = .ok (.getfield 12, 3) := by decide +kernel
theorem dX4_holding_29 : decode cX4_holding 29 = .ok (.invokevirtual 25, 3) := by decide +kernel
theorem dX4_holding_32 : decode cX4_holding 32 = .ok (.if_icmp .ge 44, 3) := by decide +kernel
theorem dX4_holding_35 : decode cX4_holding 35 = .ok (.aload_n 0, 1) := by decide +kernel
theorem dX4_holding_36 : decode cX4_holding 36 = .ok (.getfield 12, 3) := by decide +kernel
theorem dX4_holding_39 : decode cX4_holding 39 = .ok (.iload 6, 2) := by decide +kernel
theorem dX4_holding_41 : decode cX4_holding 41 = .ok (.invokevirtual 69, 3) := by decide +kernel
theorem dX4_holding_44 : decode cX4_holding 44 = .ok (.checkcast 34, 3) := by decide +kernel
theorem dX4_holding_47 : decode cX4_holding 47 = .ok (.aload_n 1, 1) := by decide +kernel
theorem dX4_holding_48 : decode cX4_holding 48 = .ok (.iload_n 2, 1) := by decide +kernel
theorem dX4_holding_49 : decode cX4_holding 49 = .ok (.aload_n 3, 1) := by decide +kernel
theorem dX4_holding_50 : decode cX4_holding 50 = .ok (.getfield 73, 3) := by decide +kernel
theorem dX4_holding_53 : decode cX4_holding 53 = .ok (.iload 4, 2) := by decide +kernel
theorem dX4_holding_55 : decode cX4_holding 55 = .ok (.invokevirtual 76, 3) := by decide +kernel
theorem dX4_holding_58 : decode cX4_holding 58 = .ok (.ifCond .eq 12, 3) := by decide +kernel
theorem dX4_holding_61 : decode cX4_holding 61 = .ok (.iload 5, 2) := by decide +kernel
theorem dX4_holding_63 : decode cX4_holding 63 = .ok (.iconst 1, 1) := by decide +kernel
theorem dX4_holding_64 : decode cX4_holding 64 = .ok (.iload 6, 2) := by decide +kernel
theorem dX4_holding_66 : decode cX4_holding 66 = .ok (.ishl, 1) := by decide +kernel
theorem dX4_holding_67 : decode cX4_holding 67 = .ok (.ior, 1) := by decide +kernel
theorem dX4_holding_68 : decode cX4_holding 68 = .ok (.istore 5, 2) := by decide +kernel
theorem dX4_holding_70 : decode cX4_holding 70 = .ok (.iinc 6 1, 3) := by decide +kernel
theorem dX4_holding_73 : decode cX4_holding 73 = .ok (.goto (-50), 3) := by decide +kernel
theorem dX4_holding_76 : decode cX4_holding 76 = .ok (.iload 5, 2) := by decide +kernel
theorem dX4_holding_78 : decode cX4_holding 78 = .ok (.ireturn, 1) := by decide +kernel
theorem dX4_keepsOut_0 : decode cX4_keepsOut 0 = .ok (.iload_n 1, 1) := by decide +kernel
theorem dX4_keepsOut_1 : decode cX4_keepsOut 1 = .ok (.aload_n 0, 1) := by decide +kernel
theorem dX4_keepsOut_2 : decode cX4_keepsOut 2 = .ok (.getfield 38, 3) := by decide +kernel
theorem dX4_keepsOut_5 : decode cX4_keepsOut 5 = .ok (.iand, 1) := by decide +kernel
theorem dX4_keepsOut_6 : decode cX4_keepsOut 6 = .ok (.ifCond .eq 14, 3) := by decide +kernel
theorem dX4_keepsOut_9 : decode cX4_keepsOut 9 = .ok (.iload_n 1, 1) := by decide +kernel
theorem dX4_keepsOut_10 : decode cX4_keepsOut 10 = .ok (.aload_n 0, 1) := by decide +kernel
theorem dX4_keepsOut_11 : decode cX4_keepsOut 11 = .ok (.getfield 41, 3) := by decide +kernel
theorem dX4_keepsOut_14 : decode cX4_keepsOut 14 = .ok (.iand, 1) := by decide +kernel
theorem dX4_keepsOut_15 : decode cX4_keepsOut 15 = .ok (.ifCond .ne 5, 3) := by decide +kernel
theorem dX4_keepsOut_18 : decode cX4_keepsOut 18 = .ok (.iconst 1, 1) := by decide +kernel
theorem dX4_keepsOut_19 : decode cX4_keepsOut 19 = .ok (.ireturn, 1) := by decide +kernel
theorem dX4_keepsOut_20 : decode cX4_keepsOut 20 = .ok (.iload_n 1, 1) := by decide +kernel
theorem dX4_keepsOut_21 : decode cX4_keepsOut 21 = .ok (.aload_n 0, 1) := by decide +kernel
theorem dX4_keepsOut_22 : decode cX4_keepsOut 22 = .ok (.getfield 44, 3) := by decide +kernel
theorem dX4_keepsOut_25 : decode cX4_keepsOut 25 = .ok (.iand, 1) := by decide +kernel
theorem dX4_keepsOut_26 : decode cX4_keepsOut 26 = .ok (.ifCond .eq 19, 3) := by decide +kernel
theorem dX4_keepsOut_29 : decode cX4_keepsOut 29 = .ok (.aload_n 2, 1) := by decide +kernel
theorem dX4_keepsOut_30 : decode cX4_keepsOut 30 = .ok (.getfield 80, 3) := by decide +kernel
theorem dX4_keepsOut_33 : decode cX4_keepsOut 33 = .ok (.aload_n 0, 1) := by decide +kernel
theorem dX4_keepsOut_34 : decode cX4_keepsOut 34 = .ok (.getfield 18, 3) := by decide +kernel
theorem dX4_keepsOut_37 : decode cX4_keepsOut 37 = .ok (.invokestatic 83, 3) := by decide +kernel
theorem dX4_keepsOut_40 : decode cX4_keepsOut 40 = .ok (.ifCond .ne 5, 3) := by decide +kernel
theorem dX4_keepsOut_43 : decode cX4_keepsOut 43 = .ok (.iconst 1, 1) := by decide +kernel
theorem dX4_keepsOut_44 : decode cX4_keepsOut 44 = .ok (.ireturn, 1) := by decide +kernel
theorem dX4_keepsOut_45 : decode cX4_keepsOut 45 = .ok (.iload_n 1, 1) := by decide +kernel
theorem dX4_keepsOut_46 : decode cX4_keepsOut 46 = .ok (.aload_n 0, 1) := by decide +kernel
theorem dX4_keepsOut_47 : decode cX4_keepsOut 47 = .ok (.aload_n 2, 1) := by decide +kernel
theorem dX4_keepsOut_48 : decode cX4_keepsOut 48 = .ok (.invokevirtual 87, 3) := by decide +kernel
theorem dX4_keepsOut_51 : decode cX4_keepsOut 51 = .ok (.iand, 1) := by decide +kernel
theorem dX4_keepsOut_52 : decode cX4_keepsOut 52 = .ok (.ifCond .eq 7, 3) := by decide +kernel
theorem dX4_keepsOut_55 : decode cX4_keepsOut 55 = .ok (.iconst 1, 1) := by decide +kernel
theorem dX4_keepsOut_56 : decode cX4_keepsOut 56 = .ok (.goto 4, 3) := by decide +kernel
theorem dX4_keepsOut_59 : decode cX4_keepsOut 59 = .ok (.iconst 0, 1) := by decide +kernel
theorem dX4_keepsOut_60 : decode cX4_keepsOut 60 = .ok (.ireturn, 1) := by decide +kernel
theorem dX4_unmetNeeds_0 : decode cX4_unmetNeeds 0 = .ok (.iconst 0, 1) := by decide +kernel
theorem dX4_unmetNeeds_1 : decode cX4_unmetNeeds 1 = .ok (.istore_n 2, 1) := by decide +kernel
theorem dX4_unmetNeeds_2 : decode cX4_unmetNeeds 2 = .ok (.iconst 0, 1) := by decide +kernel
theorem dX4_unmetNeeds_3 : decode cX4_unmetNeeds 3 = .ok (.istore_n 3, 1) := by decide +kernel
theorem dX4_unmetNeeds_4 : decode cX4_unmetNeeds 4 = .ok (.iload_n 3, 1) := by decide +kernel
theorem dX4_unmetNeeds_5 : decode cX4_unmetNeeds 5 = .ok (.aload_n 0, 1) := by decide +kernel
theorem dX4_unmetNeeds_6 : decode cX4_unmetNeeds 6 = .ok (.getfield 12, 3) := by decide +kernel
theorem dX4_unmetNeeds_9 : decode cX4_unmetNeeds 9 = .ok (.invokevirtual 25, 3) := by decide +kernel
theorem dX4_unmetNeeds_12 : decode cX4_unmetNeeds 12 = .ok (.if_icmp .ge 52, 3) := by decide +kernel
theorem dX4_unmetNeeds_15 : decode cX4_unmetNeeds 15 = .ok (.aload_n 0, 1) := by decide +kernel
theorem dX4_unmetNeeds_16 : decode cX4_unmetNeeds 16 = .ok (.getfield 12, 3) := by decide +kernel
theorem dX4_unmetNeeds_19 : decode cX4_unmetNeeds 19 = .ok (.iload_n 3, 1) := by decide +kernel
theorem dX4_unmetNeeds_20 : decode cX4_unmetNeeds 20 = .ok (.invokevirtual 69, 3) := by decide +kernel
theorem dX4_unmetNeeds_23 : decode cX4_unmetNeeds 23 = .ok (.checkcast 34, 3) := by decide +kernel
theorem dX4_unmetNeeds_26 : decode cX4_unmetNeeds 26 = .ok (.astore 4, 2) := by decide +kernel
theorem dX4_unmetNeeds_28 : decode cX4_unmetNeeds 28 = .ok (.aload 4, 2) := by decide +kernel
theorem dX4_unmetNeeds_30 : decode cX4_unmetNeeds 30 = .ok (.getfield 33, 3) := by decide +kernel
theorem dX4_unmetNeeds_33 : decode cX4_unmetNeeds 33 = .ok (.iconst 2, 1) := by decide +kernel
theorem dX4_unmetNeeds_34 : decode cX4_unmetNeeds 34 = .ok (.if_icmp .ne 24, 3) := by decide +kernel
theorem dX4_unmetNeeds_37 : decode cX4_unmetNeeds 37 = .ok (.aload_n 1, 1) := by decide +kernel
theorem dX4_unmetNeeds_38 : decode cX4_unmetNeeds 38 = .ok (.getfield 73, 3) := by decide +kernel
theorem dX4_unmetNeeds_41 : decode cX4_unmetNeeds 41 = .ok (.aload 4, 2) := by decide +kernel
theorem dX4_unmetNeeds_43 : decode cX4_unmetNeeds 43 = .ok (.getfield 91, 3) := by decide +kernel
theorem dX4_unmetNeeds_46 : decode cX4_unmetNeeds 46 = .ok (.invokestatic 83, 3) := by decide +kernel
theorem dX4_unmetNeeds_49 : decode cX4_unmetNeeds 49 = .ok (.ifCond .ne 9, 3) := by decide +kernel
theorem dX4_unmetNeeds_52 : decode cX4_unmetNeeds 52 = .ok (.iload_n 2, 1) := by decide +kernel
theorem dX4_unmetNeeds_53 : decode cX4_unmetNeeds 53 = .ok (.iconst 1, 1) := by decide +kernel
theorem dX4_unmetNeeds_54 : decode cX4_unmetNeeds 54 = .ok (.iload_n 3, 1) := by decide +kernel
theorem dX4_unmetNeeds_55 : decode cX4_unmetNeeds 55 = .ok (.ishl, 1) := by decide +kernel
theorem dX4_unmetNeeds_56 : decode cX4_unmetNeeds 56 = .ok (.ior, 1) := by decide +kernel
theorem dX4_unmetNeeds_57 : decode cX4_unmetNeeds 57 = .ok (.istore_n 2, 1) := by decide +kernel
theorem dX4_unmetNeeds_58 : decode cX4_unmetNeeds 58 = .ok (.iinc 3 1, 3) := by decide +kernel
theorem dX4_unmetNeeds_61 : decode cX4_unmetNeeds 61 = .ok (.goto (-57), 3) := by decide +kernel
theorem dX4_unmetNeeds_64 : decode cX4_unmetNeeds 64 = .ok (.iload_n 2, 1) := by decide +kernel
theorem dX4_unmetNeeds_65 : decode cX4_unmetNeeds 65 = .ok (.ireturn, 1) := by decide +kernel
theorem dX4_clauseOfWay_0 : decode cX4_clauseOfWay 0 = .ok (.iload_n 1, 1) := by decide +kernel
theorem dX4_clauseOfWay_1 : decode cX4_clauseOfWay 1 = .ok (.aload_n 0, 1) := by decide +kernel
theorem dX4_clauseOfWay_2 : decode cX4_clauseOfWay 2 = .ok (.getfield 38, 3) := by decide +kernel
theorem dX4_clauseOfWay_5 : decode cX4_clauseOfWay 5 = .ok (.iand, 1) := by decide +kernel
theorem dX4_clauseOfWay_6 : decode cX4_clauseOfWay 6 = .ok (.ifCond .eq 12, 3) := by decide +kernel
theorem dX4_clauseOfWay_9 : decode cX4_clauseOfWay 9 = .ok (.iload_n 1, 1) := by decide +kernel
theorem dX4_clauseOfWay_10 : decode cX4_clauseOfWay 10 = .ok (.aload_n 0, 1) := by decide +kernel
theorem dX4_clauseOfWay_11 : decode cX4_clauseOfWay 11 = .ok (.getfield 41, 3) := by decide +kernel
theorem dX4_clauseOfWay_14 : decode cX4_clauseOfWay 14 = .ok (.iand, 1) := by decide +kernel
theorem dX4_clauseOfWay_15 : decode cX4_clauseOfWay 15 = .ok (.ifCond .ne 5, 3) := by decide +kernel
theorem dX4_clauseOfWay_18 : decode cX4_clauseOfWay 18 = .ok (.iconst (-1), 1) := by decide +kernel
theorem dX4_clauseOfWay_19 : decode cX4_clauseOfWay 19 = .ok (.ireturn, 1) := by decide +kernel
theorem dX4_clauseOfWay_20 : decode cX4_clauseOfWay 20 = .ok (.iload_n 1, 1) := by decide +kernel
theorem dX4_clauseOfWay_21 : decode cX4_clauseOfWay 21 = .ok (.aload_n 0, 1) := by decide +kernel
theorem dX4_clauseOfWay_22 : decode cX4_clauseOfWay 22 = .ok (.getfield 41, 3) := by decide +kernel
theorem dX4_clauseOfWay_25 : decode cX4_clauseOfWay 25 = .ok (.iand, 1) := by decide +kernel
theorem dX4_clauseOfWay_26 : decode cX4_clauseOfWay 26 = .ok (.invokestatic 94, 3) := by decide +kernel
theorem dX4_clauseOfWay_29 : decode cX4_clauseOfWay 29 = .ok (.ireturn, 1) := by decide +kernel
theorem dX5_init_0 : decode cX5_init 0 = .ok (.aload_n 0, 1) := by decide +kernel
theorem dX5_init_1 : decode cX5_init 1 = .ok (.invokespecial 1, 3) := by decide +kernel
theorem dX5_init_4 : decode cX5_init 4 = .ok (.return_, 1) := by decide +kernel
theorem dX6_init_0 : decode cX6_init 0 = .ok (.aload_n 0, 1) := by decide +kernel
theorem dX6_init_1 : decode cX6_init 1 = .ok (.invokespecial 3, 3) := by decide +kernel
theorem dX6_init_4 : decode cX6_init 4 = .ok (.aload_n 0, 1) := by decide +kernel
theorem dX6_init_5 : decode cX6_init 5 = .ok (.bipush 60, 2) := by decide +kernel
theorem dX6_init_7 : decode cX6_init 7 = .ok (.newarray .long, 2) := by decide +kernel
theorem dX6_init_9 : decode cX6_init 9 = .ok (.putfield 9, 3) := by decide +kernel
theorem dX6_init_12 : decode cX6_init 12 = .ok (.aload_n 0, 1) := by decide +kernel
theorem dX6_init_13 : decode cX6_init 13 = .ok (.iconst (-1), 1) := by decide +kernel
theorem dX6_init_14 : decode cX6_init 14 = .ok (.putfield 15, 3) := by decide +kernel
theorem dX6_init_17 : decode cX6_init 17 = .ok (.return_, 1) := by decide +kernel
theorem dX6_become_0 : decode cX6_become 0 = .ok (.aload_n 0, 1) := by decide +kernel
theorem dX6_become_1 : decode cX6_become 1 = .ok (.iload_n 1, 1) := by decide +kernel
theorem dX6_become_2 : decode cX6_become 2 = .ok (.putfield 15, 3) := by decide +kernel
theorem dX6_become_5 : decode cX6_become 5 = .ok (.aload_n 0, 1) := by decide +kernel
theorem dX6_become_6 : decode cX6_become 6 = .ok (.iload_n 2, 1) := by decide +kernel
theorem dX6_become_7 : decode cX6_become 7 = .ok (.putfield 19, 3) := by decide +kernel
theorem dX6_become_10 : decode cX6_become 10 = .ok (.aload_n 0, 1) := by decide +kernel
theorem dX6_become_11 : decode cX6_become 11 = .ok (.getfield 9, 3) := by decide +kernel
theorem dX6_become_14 : decode cX6_become 14 = .ok (.lconst 0, 1) := by decide +kernel
theorem dX6_become_15 : decode cX6_become 15 = .ok (.invokestatic 22, 3) := by decide +kernel
theorem dX6_become_18 : decode cX6_become 18 = .ok (.return_, 1) := by decide +kernel
theorem dX6_hasPlace_0 : decode cX6_hasPlace 0 = .ok (.iload_n 1, 1) := by decide +kernel
theorem dX6_hasPlace_1 : decode cX6_hasPlace 1 = .ok (.ifCond .lt 24, 3) := by decide +kernel
theorem dX6_hasPlace_4 : decode cX6_hasPlace 4 = .ok (.iload_n 1, 1) := by decide +kernel
theorem dX6_hasPlace_5 : decode cX6_hasPlace 5 = .ok (.aload_n 0, 1) := by decide +kernel
theorem dX6_hasPlace_6 : decode cX6_hasPlace 6 = .ok (.getfield 19, 3) := by decide +kernel
theorem dX6_hasPlace_9 : decode cX6_hasPlace 9 = .ok (.if_icmp .ge 16, 3) := by decide +kernel
theorem dX6_hasPlace_12 : decode cX6_hasPlace 12 = .ok (.iload_n 1, 1) := by decide +kernel
theorem dX6_hasPlace_13 : decode cX6_hasPlace 13 = .ok (.aload_n 0, 1) := by decide +kernel
theorem dX6_hasPlace_14 : decode cX6_hasPlace 14 = .ok (.getfield 9, 3) := by decide +kernel
theorem dX6_hasPlace_17 : decode cX6_hasPlace 17 = .ok (.arraylength, 1) := by decide +kernel
theorem dX6_hasPlace_18 : decode cX6_hasPlace 18 = .ok (.if_icmp .ge 7, 3) := by decide +kernel
theorem dX6_hasPlace_21 : decode cX6_hasPlace 21 = .ok (.iconst 1, 1) := by decide +kernel
theorem dX6_hasPlace_22 : decode cX6_hasPlace 22 = .ok (.goto 4, 3) := by decide +kernel
theorem dX6_hasPlace_25 : decode cX6_hasPlace 25 = .ok (.iconst 0, 1) := by decide +kernel
theorem dX6_hasPlace_26 : decode cX6_hasPlace 26 = .ok (.ireturn, 1) := by decide +kernel
theorem dX6_hasStretch_0 : decode cX6_hasStretch 0 = .ok (.iload_n 2, 1) := by decide +kernel
theorem dX6_hasStretch_1 : decode cX6_hasStretch 1 = .ok (.ifCond .lt 41, 3) := by decide +kernel
theorem dX6_hasStretch_4 : decode cX6_hasStretch 4 = .ok (.iload_n 1, 1) := by decide +kernel
theorem dX6_hasStretch_5 : decode cX6_hasStretch 5 = .ok (.ifCond .lt 37, 3) := by decide +kernel
theorem dX6_hasStretch_8 : decode cX6_hasStretch 8 = .ok (.iload_n 1, 1) := by decide +kernel
theorem dX6_hasStretch_9 : decode cX6_hasStretch 9 = .ok (.aload_n 0, 1) := by decide +kernel
theorem dX6_hasStretch_10 : decode cX6_hasStretch 10 = .ok (.getfield 19, 3) := by decide +kernel
theorem dX6_hasStretch_13 : decode cX6_hasStretch 13 = .ok (.if_icmp .gt 29, 3) := by decide +kernel
theorem dX6_hasStretch_16 : decode cX6_hasStretch 16 = .ok (.iload_n 2, 1) := by decide +kernel
theorem dX6_hasStretch_17 : decode cX6_hasStretch 17 = .ok (.aload_n 0, 1) := by decide +kernel
theorem dX6_hasStretch_18 : decode cX6_hasStretch 18 = .ok (.getfield 19, 3) := by decide +kernel
theorem dX6_hasStretch_21 : decode cX6_hasStretch 21 = .ok (.iload_n 1, 1) := by decide +kernel
theorem dX6_hasStretch_22 : decode cX6_hasStretch 22 = .ok (.isub, 1) := by decide +kernel
theorem dX6_hasStretch_23 : decode cX6_hasStretch 23 = .ok (.if_icmp .gt 19, 3) := by decide +kernel
theorem dX6_hasStretch_26 : decode cX6_hasStretch 26 = .ok (.aload_n 0, 1) := by decide +kernel
theorem dX6_hasStretch_27 : decode cX6_hasStretch 27 = .ok (.getfield 19, 3) := by decide +kernel
theorem dX6_hasStretch_30 : decode cX6_hasStretch 30 = .ok (.aload_n 0, 1) := by decide +kernel
theorem dX6_hasStretch_31 : decode cX6_hasStretch 31 = .ok (.getfield 9, 3) := by decide +kernel
theorem dX6_hasStretch_34 : decode cX6_hasStretch 34 = .ok (.arraylength, 1) := by decide +kernel
theorem dX6_hasStretch_35 : decode cX6_hasStretch 35 = .ok (.if_icmp .gt 7, 3) := by decide +kernel
theorem dX6_hasStretch_38 : decode cX6_hasStretch 38 = .ok (.iconst 1, 1) := by decide +kernel
theorem dX6_hasStretch_39 : decode cX6_hasStretch 39 = .ok (.goto 4, 3) := by decide +kernel
theorem dX6_hasStretch_42 : decode cX6_hasStretch 42 = .ok (.iconst 0, 1) := by decide +kernel
theorem dX6_hasStretch_43 : decode cX6_hasStretch 43 = .ok (.ireturn, 1) := by decide +kernel
theorem dX6_get_0 : decode cX6_get 0 = .ok (.aload_n 0, 1) := by decide +kernel
theorem dX6_get_1 : decode cX6_get 1 = .ok (.iload_n 1, 1) := by decide +kernel
theorem dX6_get_2 : decode cX6_get 2 = .ok (.invokevirtual 28, 3) := by decide +kernel
theorem dX6_get_5 : decode cX6_get 5 = .ok (.ifCond .eq 12, 3) := by decide +kernel
theorem dX6_get_8 : decode cX6_get 8 = .ok (.aload_n 0, 1) := by decide +kernel
theorem dX6_get_9 : decode cX6_get 9 = .ok (.getfield 9, 3) := by decide +kernel
theorem dX6_get_12 : decode cX6_get 12 = .ok (.iload_n 1, 1) := by decide +kernel
theorem dX6_get_13 : decode cX6_get 13 = .ok (.laload, 1) := by decide +kernel
theorem dX6_get_14 : decode cX6_get 14 = .ok (.goto 6, 3) := by decide +kernel
theorem dX6_get_17 : decode cX6_get 17 = .ok (.ldc2_w 32, 3) := by decide +kernel
theorem dX6_get_20 : decode cX6_get 20 = .ok (.lreturn, 1) := by decide +kernel
theorem dX6_put_0 : decode cX6_put 0 = .ok (.aload_n 0, 1) := by decide +kernel
theorem dX6_put_1 : decode cX6_put 1 = .ok (.iload_n 1, 1) := by decide +kernel
theorem dX6_put_2 : decode cX6_put 2 = .ok (.invokevirtual 28, 3) := by decide +kernel
theorem dX6_put_5 : decode cX6_put 5 = .ok (.ifCond .eq 14, 3) := by decide +kernel
theorem dX6_put_8 : decode cX6_put 8 = .ok (.aload_n 0, 1) := by decide +kernel
theorem dX6_put_9 : decode cX6_put 9 = .ok (.getfield 9, 3) := by decide +kernel
theorem dX6_put_12 : decode cX6_put 12 = .ok (.iload_n 1, 1) := by decide +kernel
theorem dX6_put_13 : decode cX6_put 13 = .ok (.aload_n 0, 1) := by decide +kernel
theorem dX6_put_14 : decode cX6_put 14 = .ok (.lload_n 2, 1) := by decide +kernel
theorem dX6_put_15 : decode cX6_put 15 = .ok (.invokevirtual 34, 3) := by decide +kernel
theorem dX6_put_18 : decode cX6_put 18 = .ok (.lastore, 1) := by decide +kernel
theorem dX6_put_19 : decode cX6_put 19 = .ok (.return_, 1) := by decide +kernel
theorem dX6_fitted_0 : decode cX6_fitted 0 = .ok (.aload_n 0, 1) := by decide +kernel
theorem dX6_fitted_1 : decode cX6_fitted 1 = .ok (.getfield 15, 3) := by decide +kernel
theorem dX6_fitted_4 : decode cX6_fitted 4 = .ok (.tableswitch 48 0 3 #[32, 37, 42, 46], 32) := by decide +kernel
theorem dX6_fitted_36 : decode cX6_fitted 36 = .ok (.lload_n 1, 1) := by decide +kernel
theorem dX6_fitted_37 : decode cX6_fitted 37 = .ok (.l2i, 1) := by decide +kernel
theorem dX6_fitted_38 : decode cX6_fitted 38 = .ok (.i2b, 1) := by decide +kernel
theorem dX6_fitted_39 : decode cX6_fitted 39 = .ok (.i2l, 1) := by decide +kernel
theorem dX6_fitted_40 : decode cX6_fitted 40 = .ok (.lreturn, 1) := by decide +kernel
theorem dX6_fitted_41 : decode cX6_fitted 41 = .ok (.lload_n 1, 1) := by decide +kernel
theorem dX6_fitted_42 : decode cX6_fitted 42 = .ok (.l2i, 1) := by decide +kernel
theorem dX6_fitted_43 : decode cX6_fitted 43 = .ok (.i2s, 1) := by decide +kernel
theorem dX6_fitted_44 : decode cX6_fitted 44 = .ok (.i2l, 1) := by decide +kernel
theorem dX6_fitted_45 : decode cX6_fitted 45 = .ok (.lreturn, 1) := by decide +kernel
theorem dX6_fitted_46 : decode cX6_fitted 46 = .ok (.lload_n 1, 1) := by decide +kernel
theorem dX6_fitted_47 : decode cX6_fitted 47 = .ok (.l2i, 1) := by decide +kernel
theorem dX6_fitted_48 : decode cX6_fitted 48 = .ok (.i2l, 1) := by decide +kernel
theorem dX6_fitted_49 : decode cX6_fitted 49 = .ok (.lreturn, 1) := by decide +kernel
theorem dX6_fitted_50 : decode cX6_fitted 50 = .ok (.lload_n 1, 1) := by decide +kernel
theorem dX6_fitted_51 : decode cX6_fitted 51 = .ok (.lreturn, 1) := by decide +kernel
theorem dX6_fitted_52 : decode cX6_fitted 52 = .ok (.lload_n 1, 1) := by decide +kernel
theorem dX6_fitted_53 : decode cX6_fitted 53 = .ok (.lconst 0, 1) := by decide +kernel
theorem dX6_fitted_54 : decode cX6_fitted 54 = .ok (.lcmp, 1) := by decide +kernel
theorem dX6_fitted_55 : decode cX6_fitted 55 = .ok (.ifCond .eq 7, 3) := by decide +kernel
theorem dX6_fitted_58 : decode cX6_fitted 58 = .ok (.lconst 1, 1) := by decide +kernel
theorem dX6_fitted_59 : decode cX6_fitted 59 = .ok (.goto 4, 3) := by decide +kernel
theorem dX6_fitted_62 : decode cX6_fitted 62 = .ok (.lconst 0, 1) := by decide +kernel
theorem dX6_fitted_63 : decode cX6_fitted 63 = .ok (.lreturn, 1) := by decide +kernel
theorem dX7_init_0 : decode cX7_init 0 = .ok (.aload_n 0, 1) := by decide +kernel
theorem dX7_init_1 : decode cX7_init 1 = .ok (.invokespecial 3, 3) := by decide +kernel
theorem dX7_init_4 : decode cX7_init 4 = .ok (.aload_n 0, 1) := by decide +kernel
theorem dX7_init_5 : decode cX7_init 5 = .ok (.new 9, 3) := by decide +kernel
theorem dX7_init_8 : decode cX7_init 8 = .ok (.dup, 1) := by decide +kernel
theorem dX7_init_9 : decode cX7_init 9 = .ok (.invokespecial 11, 3) := by decide +kernel
theorem dX7_init_12 : decode cX7_init 12 = .ok (.putfield 12, 3) := by decide +kernel
theorem dX7_init_15 : decode cX7_init 15 = .ok (.aload_n 0, 1) := by decide +kernel
theorem dX7_init_16 : decode cX7_init 16 = .ok (.iload_n 1, 1) := by decide +kernel
theorem dX7_init_17 : decode cX7_init 17 = .ok (.putfield 18, 3) := by decide +kernel
theorem dX7_init_20 : decode cX7_init 20 = .ok (.aload_n 0, 1) := by decide +kernel
theorem dX7_init_21 : decode cX7_init 21 = .ok (.iload_n 2, 1) := by decide +kernel
theorem dX7_init_22 : decode cX7_init 22 = .ok (.putfield 22, 3) := by decide +kernel
theorem dX7_init_25 : decode cX7_init 25 = .ok (.aload_n 0, 1) := by decide +kernel
theorem dX7_init_26 : decode cX7_init 26 = .ok (.aload_n 3, 1) := by decide +kernel
theorem dX7_init_27 : decode cX7_init 27 = .ok (.putfield 25, 3) := by decide +kernel
theorem dX7_init_30 : decode cX7_init 30 = .ok (.aload_n 0, 1) := by decide +kernel
theorem dX7_init_31 : decode cX7_init 31 = .ok (.iload 4, 2) := by decide +kernel
theorem dX7_init_33 : decode cX7_init 33 = .ok (.putfield 29, 3) := by decide +kernel
theorem dX7_init_36 : decode cX7_init 36 = .ok (.aload_n 0, 1) := by decide +kernel
theorem dX7_init_37 : decode cX7_init 37 = .ok (.iconst 1, 1) := by decide +kernel
theorem dX7_init_38 : decode cX7_init 38 = .ok (.iload_n 2, 1) := by decide +kernel
theorem dX7_init_39 : decode cX7_init 39 = .ok (.ishl, 1) := by decide +kernel
theorem dX7_init_40 : decode cX7_init 40 = .ok (.iconst 1, 1) := by decide +kernel
theorem dX7_init_41 : decode cX7_init 41 = .ok (.iload_n 2, 1) := by decide +kernel
theorem dX7_init_42 : decode cX7_init 42 = .ok (.invokestatic 32, 3) := by decide +kernel
theorem dX7_init_45 : decode cX7_init 45 = .ok (.ishl, 1) := by decide +kernel
theorem dX7_init_46 : decode cX7_init 46 = .ok (.ior, 1) := by decide +kernel
theorem dX7_init_47 : decode cX7_init 47 = .ok (.iconst 1, 1) := by decide +kernel
theorem dX7_init_48 : decode cX7_init 48 = .ok (.iload_n 2, 1) := by decide +kernel
theorem dX7_init_49 : decode cX7_init 49 = .ok (.invokestatic 32, 3) := by decide +kernel
theorem dX7_init_52 : decode cX7_init 52 = .ok (.invokestatic 32, 3) := by decide +kernel
theorem dX7_init_55 : decode cX7_init 55 = .ok (.ishl, 1) := by decide +kernel
theorem dX7_init_56 : decode cX7_init 56 = .ok (.ior, 1) := by decide +kernel
theorem dX7_init_57 : decode cX7_init 57 = .ok (.iconst 1, 1) := by decide +kernel
theorem dX7_init_58 : decode cX7_init 58 = .ok (.ior, 1) := by decide +kernel
theorem dX7_init_59 : decode cX7_init 59 = .ok (.putfield 36, 3) := by decide +kernel
theorem dX7_init_62 : decode cX7_init 62 = .ok (.return_, 1) := by decide +kernel
theorem dX7_mayHold_0 : decode cX7_mayHold 0 = .ok (.aload_n 0, 1) := by decide +kernel
theorem dX7_mayHold_1 : decode cX7_mayHold 1 = .ok (.getfield 22, 3) := by decide +kernel
theorem dX7_mayHold_4 : decode cX7_mayHold 4 = .ok (.bipush 6, 2) := by decide +kernel
theorem dX7_mayHold_6 : decode cX7_mayHold 6 = .ok (.if_icmp .ne 5, 3) := by decide +kernel
theorem dX7_mayHold_9 : decode cX7_mayHold 9 = .ok (.iconst 1, 1) := by decide +kernel
theorem dX7_mayHold_10 : decode cX7_mayHold 10 = .ok (.ireturn, 1) := by decide +kernel
theorem dX7_mayHold_11 : decode cX7_mayHold 11 = .ok (.aload_n 0, 1) := by decide +kernel
theorem dX7_mayHold_12 : decode cX7_mayHold 12 = .ok (.getfield 22, 3) := by decide +kernel
theorem dX7_mayHold_15 : decode cX7_mayHold 15 = .ok (.iconst 2, 1) := by decide +kernel
theorem dX7_mayHold_16 : decode cX7_mayHold 16 = .ok (.if_icmp .eq 11, 3) := by decide +kernel
theorem dX7_mayHold_19 : decode cX7_mayHold 19 = .ok (.aload_n 0, 1) := by decide +kernel
theorem dX7_mayHold_20 : decode cX7_mayHold 20 = .ok (.getfield 22, 3) := by decide +kernel
theorem dX7_mayHold_23 : decode cX7_mayHold 23 = .ok (.iconst 5, 1) := by decide +kernel
theorem dX7_mayHold_24 : decode cX7_mayHold 24 = .ok (.if_icmp .ne 7, 3) := by decide +kernel
theorem dX7_mayHold_27 : decode cX7_mayHold 27 = .ok (.iconst 4, 1) := by decide +kernel
theorem dX7_mayHold_28 : decode cX7_mayHold 28 = .ok (.goto 4, 3) := by decide +kernel
theorem dX7_mayHold_31 : decode cX7_mayHold 31 = .ok (.iconst 0, 1) := by decide +kernel
theorem dX7_mayHold_32 : decode cX7_mayHold 32 = .ok (.ireturn, 1) := by decide +kernel
theorem dX7_partAt_0 : decode cX7_partAt 0 = .ok (.iload_n 1, 1) := by decide +kernel
theorem dX7_partAt_1 : decode cX7_partAt 1 = .ok (.ifCond .lt 28, 3) := by decide +kernel
theorem dX7_partAt_4 : decode cX7_partAt 4 = .ok (.iload_n 1, 1) := by decide +kernel
theorem dX7_partAt_5 : decode cX7_partAt 5 = .ok (.aload_n 0, 1) := by decide +kernel
theorem dX7_partAt_6 : decode cX7_partAt 6 = .ok (.getfield 12, 3) := by decide +kernel
theorem dX7_partAt_9 : decode cX7_partAt 9 = .ok (.invokevirtual 39, 3) := by decide +kernel
theorem dX7_partAt_12 : decode cX7_partAt 12 = .ok (.if_icmp .ge 17, 3) := by decide +kernel
theorem dX7_partAt_15 : decode cX7_partAt 15 = .ok (.aload_n 0, 1) := by decide +kernel
theorem dX7_partAt_16 : decode cX7_partAt 16 = .ok (.getfield 12, 3) := by decide +kernel
theorem dX7_partAt_19 : decode cX7_partAt 19 = .ok (.iload_n 1, 1) := by decide +kernel
theorem dX7_partAt_20 : decode cX7_partAt 20 = .ok (.invokevirtual 43, 3) := by decide +kernel
theorem dX7_partAt_23 : decode cX7_partAt 23 = .ok (.checkcast 13, 3) := by decide +kernel
theorem dX7_partAt_26 : decode cX7_partAt 26 = .ok (.goto 4, 3) := by decide +kernel
theorem dX7_partAt_29 : decode cX7_partAt 29 = .ok (.aconst_null, 1) := by decide +kernel
theorem dX7_partAt_30 : decode cX7_partAt 30 = .ok (.areturn, 1) := by decide +kernel
theorem dX7_factsLeft_0 : decode cX7_factsLeft 0 = .ok (.aload_n 0, 1) := by decide +kernel
theorem dX7_factsLeft_1 : decode cX7_factsLeft 1 = .ok (.getfield 29, 3) := by decide +kernel
theorem dX7_factsLeft_4 : decode cX7_factsLeft 4 = .ok (.istore_n 2, 1) := by decide +kernel
theorem dX7_factsLeft_5 : decode cX7_factsLeft 5 = .ok (.iconst 0, 1) := by decide +kernel
theorem dX7_factsLeft_6 : decode cX7_factsLeft 6 = .ok (.istore_n 3, 1) := by decide +kernel
theorem dX7_factsLeft_7 : decode cX7_factsLeft 7 = .ok (.iload_n 3, 1) := by decide +kernel
theorem dX7_factsLeft_8 : decode cX7_factsLeft 8 = .ok (.aload_n 0, 1) := by decide +kernel
theorem dX7_factsLeft_9 : decode cX7_factsLeft 9 = .ok (.getfield 12, 3) := by decide +kernel
theorem dX7_factsLeft_12 : decode cX7_factsLeft 12 = .ok (.invokevirtual 39, 3) := by decide +kernel
theorem dX7_factsLeft_15 : decode cX7_factsLeft 15 = .ok (.if_icmp .ge 36, 3) := by decide +kernel
theorem dX7_factsLeft_18 : decode cX7_factsLeft 18 = .ok (.iload_n 1, 1) := by decide +kernel
theorem dX7_factsLeft_19 : decode cX7_factsLeft 19 = .ok (.iload_n 3, 1) := by decide +kernel
theorem dX7_factsLeft_20 : decode cX7_factsLeft 20 = .ok (.invokestatic 47, 3) := by decide +kernel
theorem dX7_factsLeft_23 : decode cX7_factsLeft 23 = .ok (.ifCond .eq 22, 3) := by decide +kernel
theorem dX7_factsLeft_26 : decode cX7_factsLeft 26 = .ok (.iload_n 2, 1) := by decide +kernel
theorem dX7_factsLeft_27 : decode cX7_factsLeft 27 = .ok (.aload_n 0, 1) := by decide +kernel
theorem dX7_factsLeft_28 : decode cX7_factsLeft 28 = .ok (.getfield 12, 3) := by decide +kernel
theorem dX7_factsLeft_31 : decode cX7_factsLeft 31 = .ok (.iload_n 3, 1) := by decide +kernel
theorem dX7_factsLeft_32 : decode cX7_factsLeft 32 = .ok (.invokevirtual 43, 3) := by decide +kernel
theorem dX7_factsLeft_35 : decode cX7_factsLeft 35 = .ok (.checkcast 13, 3) := by decide +kernel
theorem dX7_factsLeft_38 : decode cX7_factsLeft 38 = .ok (.getfield 29, 3) := by decide +kernel
theorem dX7_factsLeft_41 : decode cX7_factsLeft 41 = .ok (.iconst (-1), 1) := by decide +kernel
theorem dX7_factsLeft_42 : decode cX7_factsLeft 42 = .ok (.ixor, 1) := by decide +kernel
theorem dX7_factsLeft_43 : decode cX7_factsLeft 43 = .ok (.iand, 1) := by decide +kernel
theorem dX7_factsLeft_44 : decode cX7_factsLeft 44 = .ok (.istore_n 2, 1) := by decide +kernel
theorem dX7_factsLeft_45 : decode cX7_factsLeft 45 = .ok (.iinc 3 1, 3) := by decide +kernel
theorem dX7_factsLeft_48 : decode cX7_factsLeft 48 = .ok (.goto (-41), 3) := by decide +kernel
theorem dX7_factsLeft_51 : decode cX7_factsLeft 51 = .ok (.iload_n 2, 1) := by decide +kernel
theorem dX7_factsLeft_52 : decode cX7_factsLeft 52 = .ok (.ireturn, 1) := by decide +kernel
theorem dX8_init_0 : decode cX8_init 0 = .ok (.aload_n 0, 1) := by decide +kernel
theorem dX8_init_1 : decode cX8_init 1 = .ok (.invokespecial 3, 3) := by decide +kernel
theorem dX8_init_4 : decode cX8_init 4 = .ok (.aload_n 0, 1) := by decide +kernel
theorem dX8_init_5 : decode cX8_init 5 = .ok (.bipush 8, 2) := by decide +kernel
theorem dX8_init_7 : decode cX8_init 7 = .ok (.anewarray 11, 3) := by decide +kernel
theorem dX8_init_10 : decode cX8_init 10 = .ok (.putfield 13, 3) := by decide +kernel
theorem dX8_init_13 : decode cX8_init 13 = .ok (.aload_n 0, 1) := by decide +kernel
theorem dX8_init_14 : decode cX8_init 14 = .ok (.new 17, 3) := by decide +kernel
theorem dX8_init_17 : decode cX8_init 17 = .ok (.dup, 1) := by decide +kernel
theorem dX8_init_18 : decode cX8_init 18 = .ok (.invokespecial 19, 3) := by decide +kernel
theorem dX8_init_21 : decode cX8_init 21 = .ok (.putfield 20, 3) := by decide +kernel
theorem dX8_init_24 : decode cX8_init 24 = .ok (.aload_n 0, 1) := by decide +kernel
theorem dX8_init_25 : decode cX8_init 25 = .ok (.new 17, 3) := by decide +kernel
theorem dX8_init_28 : decode cX8_init 28 = .ok (.dup, 1) := by decide +kernel
theorem dX8_init_29 : decode cX8_init 29 = .ok (.invokespecial 19, 3) := by decide +kernel
theorem dX8_init_32 : decode cX8_init 32 = .ok (.putfield 24, 3) := by decide +kernel
theorem dX8_init_35 : decode cX8_init 35 = .ok (.aload_n 0, 1) := by decide +kernel
theorem dX8_init_36 : decode cX8_init 36 = .ok (.new 27, 3) := by decide +kernel
theorem dX8_init_39 : decode cX8_init 39 = .ok (.dup, 1) := by decide +kernel
theorem dX8_init_40 : decode cX8_init 40 = .ok (.invokespecial 29, 3) := by decide +kernel
theorem dX8_init_43 : decode cX8_init 43 = .ok (.putfield 30, 3) := by decide +kernel
theorem dX8_init_46 : decode cX8_init 46 = .ok (.aload_n 0, 1) := by decide +kernel
theorem dX8_init_47 : decode cX8_init 47 = .ok (.new 34, 3) := by decide +kernel
theorem dX8_init_50 : decode cX8_init 50 = .ok (.dup, 1) := by decide +kernel
theorem dX8_init_51 : decode cX8_init 51 = .ok (.invokespecial 36, 3) := by decide +kernel
theorem dX8_init_54 : decode cX8_init 54 = .ok (.putfield 37, 3) := by decide +kernel
theorem dX8_init_57 : decode cX8_init 57 = .ok (.aload_n 0, 1) := by decide +kernel
theorem dX8_init_58 : decode cX8_init 58 = .ok (.new 34, 3) := by decide +kernel
theorem dX8_init_61 : decode cX8_init 61 = .ok (.dup, 1) := by decide +kernel
theorem dX8_init_62 : decode cX8_init 62 = .ok (.invokespecial 36, 3) := by decide +kernel
theorem dX8_init_65 : decode cX8_init 65 = .ok (.putfield 41, 3) := by decide +kernel
theorem dX8_init_68 : decode cX8_init 68 = .ok (.aload_n 0, 1) := by decide +kernel
theorem dX8_init_69 : decode cX8_init 69 = .ok (.bipush 6, 2) := by decide +kernel
theorem dX8_init_71 : decode cX8_init 71 = .ok (.anewarray 44, 3) := by decide +kernel
theorem dX8_init_74 : decode cX8_init 74 = .ok (.putfield 46, 3) := by decide +kernel
theorem dX8_init_77 : decode cX8_init 77 = .ok (.aload_n 0, 1) := by decide +kernel
theorem dX8_init_78 : decode cX8_init 78 = .ok (.new 50, 3) := by decide +kernel
theorem dX8_init_81 : decode cX8_init 81 = .ok (.dup, 1) := by decide +kernel
theorem dX8_init_82 : decode cX8_init 82 = .ok (.invokespecial 52, 3) := by decide +kernel
theorem dX8_init_85 : decode cX8_init 85 = .ok (.putfield 53, 3) := by decide +kernel
theorem dX8_init_88 : decode cX8_init 88 = .ok (.aload_n 0, 1) := by decide +kernel
theorem dX8_init_89 : decode cX8_init 89 = .ok (.new 17, 3) := by decide +kernel
theorem dX8_init_92 : decode cX8_init 92 = .ok (.dup, 1) := by decide +kernel
theorem dX8_init_93 : decode cX8_init 93 = .ok (.invokespecial 19, 3) := by decide +kernel
theorem dX8_init_96 : decode cX8_init 96 = .ok (.putfield 57, 3) := by decide +kernel
theorem dX8_init_99 : decode cX8_init 99 = .ok (.aload_n 0, 1) := by decide +kernel
theorem dX8_init_100 : decode cX8_init 100 = .ok (.bipush 32, 2) := by decide +kernel
theorem dX8_init_102 : decode cX8_init 102 = .ok (.newarray .int, 2) := by decide +kernel
theorem dX8_init_104 : decode cX8_init 104 = .ok (.putfield 60, 3) := by decide +kernel
theorem dX8_init_107 : decode cX8_init 107 = .ok (.iconst 0, 1) := by decide +kernel
theorem dX8_init_108 : decode cX8_init 108 = .ok (.istore_n 1, 1) := by decide +kernel
theorem dX8_init_109 : decode cX8_init 109 = .ok (.iload_n 1, 1) := by decide +kernel
theorem dX8_init_110 : decode cX8_init 110 = .ok (.aload_n 0, 1) := by decide +kernel
theorem dX8_init_111 : decode cX8_init 111 = .ok (.getfield 13, 3) := by decide +kernel
theorem dX8_init_114 : decode cX8_init 114 = .ok (.arraylength, 1) := by decide +kernel
theorem dX8_init_115 : decode cX8_init 115 = .ok (.if_icmp .ge 23, 3) := by decide +kernel
theorem dX8_init_118 : decode cX8_init 118 = .ok (.aload_n 0, 1) := by decide +kernel
theorem dX8_init_119 : decode cX8_init 119 = .ok (.getfield 13, 3) := by decide +kernel
theorem dX8_init_122 : decode cX8_init 122 = .ok (.iload_n 1, 1) := by decide +kernel
theorem dX8_init_123 : decode cX8_init 123 = .ok (.new 11, 3) := by decide +kernel
theorem dX8_init_126 : decode cX8_init 126 = .ok (.dup, 1) := by decide +kernel
theorem dX8_init_127 : decode cX8_init 127 = .ok (.iload_n 1, 1) := by decide +kernel
theorem dX8_init_128 : decode cX8_init 128 = .ok (.invokespecial 64, 3) := by decide +kernel
theorem dX8_init_131 : decode cX8_init 131 = .ok (.aastore, 1) := by decide +kernel
theorem dX8_init_132 : decode cX8_init 132 = .ok (.iinc 1 1, 3) := by decide +kernel
theorem dX8_init_135 : decode cX8_init 135 = .ok (.goto (-26), 3) := by decide +kernel
theorem dX8_init_138 : decode cX8_init 138 = .ok (.iconst 0, 1) := by decide +kernel
theorem dX8_init_139 : decode cX8_init 139 = .ok (.istore_n 1, 1) := by decide +kernel
theorem dX8_init_140 : decode cX8_init 140 = .ok (.iload_n 1, 1) := by decide +kernel
theorem dX8_init_141 : decode cX8_init 141 = .ok (.aload_n 0, 1) := by decide +kernel
theorem dX8_init_142 : decode cX8_init 142 = .ok (.getfield 46, 3) := by decide +kernel
theorem dX8_init_145 : decode cX8_init 145 = .ok (.arraylength, 1) := by decide +kernel
theorem dX8_init_146 : decode cX8_init 146 = .ok (.if_icmp .ge 22, 3) := by decide +kernel
theorem dX8_init_149 : decode cX8_init 149 = .ok (.aload_n 0, 1) := by decide +kernel
theorem dX8_init_150 : decode cX8_init 150 = .ok (.getfield 46, 3) := by decide +kernel
theorem dX8_init_153 : decode cX8_init 153 = .ok (.iload_n 1, 1) := by decide +kernel
theorem dX8_init_154 : decode cX8_init 154 = .ok (.new 44, 3) := by decide +kernel
theorem dX8_init_157 : decode cX8_init 157 = .ok (.dup, 1) := by decide +kernel
theorem dX8_init_158 : decode cX8_init 158 = .ok (.invokespecial 67, 3) := by decide +kernel
theorem dX8_init_161 : decode cX8_init 161 = .ok (.aastore, 1) := by decide +kernel
theorem dX8_init_162 : decode cX8_init 162 = .ok (.iinc 1 1, 3) := by decide +kernel
theorem dX8_init_165 : decode cX8_init 165 = .ok (.goto (-25), 3) := by decide +kernel
theorem dX8_init_168 : decode cX8_init 168 = .ok (.return_, 1) := by decide +kernel
theorem dX8_known_0 : decode cX8_known 0 = .ok (.aload_n 0, 1) := by decide +kernel
theorem dX8_known_1 : decode cX8_known 1 = .ok (.iload_n 1, 1) := by decide +kernel
theorem dX8_known_2 : decode cX8_known 2 = .ok (.invokevirtual 68, 3) := by decide +kernel
theorem dX8_known_5 : decode cX8_known 5 = .ok (.astore_n 3, 1) := by decide +kernel
theorem dX8_known_6 : decode cX8_known 6 = .ok (.aload_n 3, 1) := by decide +kernel
theorem dX8_known_7 : decode cX8_known 7 = .ok (.ifnonnull 5, 3) := by decide +kernel
theorem dX8_known_10 : decode cX8_known 10 = .ok (.iconst (-1), 1) := by decide +kernel
theorem dX8_known_11 : decode cX8_known 11 = .ok (.ireturn, 1) := by decide +kernel
theorem dX8_known_12 : decode cX8_known 12 = .ok (.iload_n 2, 1) := by decide +kernel
theorem dX8_known_13 : decode cX8_known 13 = .ok (.bipush 64, 2) := by decide +kernel
theorem dX8_known_15 : decode cX8_known 15 = .ok (.invokestatic 72, 3) := by decide +kernel
theorem dX8_known_18 : decode cX8_known 18 = .ok (.ifCond .ne 6, 3) := by decide +kernel
theorem dX8_known_21 : decode cX8_known 21 = .ok (.bipush (-2), 2) := by decide +kernel
theorem dX8_known_23 : decode cX8_known 23 = .ok (.ireturn, 1) := by decide +kernel
theorem dX8_known_24 : decode cX8_known 24 = .ok (.aload_n 3, 1) := by decide +kernel
theorem dX8_known_25 : decode cX8_known 25 = .ok (.getfield 76, 3) := by decide +kernel
theorem dX8_known_28 : decode cX8_known 28 = .ok (.istore 4, 2) := by decide +kernel
theorem dX8_known_30 : decode cX8_known 30 = .ok (.aload_n 3, 1) := by decide +kernel
theorem dX8_known_31 : decode cX8_known 31 = .ok (.iload_n 2, 1) := by decide +kernel
theorem dX8_known_32 : decode cX8_known 32 = .ok (.putfield 76, 3) := by decide +kernel
theorem dX8_known_35 : decode cX8_known 35 = .ok (.iload 4, 2) := by decide +kernel
theorem dX8_known_37 : decode cX8_known 37 = .ok (.ireturn, 1) := by decide +kernel
theorem dX8_word_0 : decode cX8_word 0 = .ok (.aload_n 0, 1) := by decide +kernel
theorem dX8_word_1 : decode cX8_word 1 = .ok (.iload_n 2, 1) := by decide +kernel
theorem dX8_word_2 : decode cX8_word 2 = .ok (.invokevirtual 68, 3) := by decide +kernel
theorem dX8_word_5 : decode cX8_word 5 = .ok (.astore 4, 2) := by decide +kernel
theorem dX8_word_7 : decode cX8_word 7 = .ok (.aload 4, 2) := by decide +kernel
theorem dX8_word_9 : decode cX8_word 9 = .ok (.ifnull 12, 3) := by decide +kernel
theorem dX8_word_12 : decode cX8_word 12 = .ok (.iload_n 1, 1) := by decide +kernel
theorem dX8_word_13 : decode cX8_word 13 = .ok (.bipush 7, 2) := by decide +kernel
theorem dX8_word_15 : decode cX8_word 15 = .ok (.invokestatic 72, 3) := by decide +kernel
theorem dX8_word_18 : decode cX8_word 18 = .ok (.ifCond .ne 5, 3) := by decide +kernel
theorem dX8_word_21 : decode cX8_word 21 = .ok (.iconst (-1), 1) := by decide +kernel
theorem dX8_word_22 : decode cX8_word 22 = .ok (.ireturn, 1) := by decide +kernel
theorem dX8_word_23 : decode cX8_word 23 = .ok (.iload_n 3, 1) := by decide +kernel
theorem dX8_word_24 : decode cX8_word 24 = .ok (.sipush 1024, 3) := by decide +kernel
theorem dX8_word_27 : decode cX8_word 27 = .ok (.invokestatic 72, 3) := by decide +kernel
theorem dX8_word_30 : decode cX8_word 30 = .ok (.ifCond .ne 6, 3) := by decide +kernel
theorem dX8_word_33 : decode cX8_word 33 = .ok (.bipush (-2), 2) := by decide +kernel
theorem dX8_word_35 : decode cX8_word 35 = .ok (.ireturn, 1) := by decide +kernel
theorem dX8_word_36 : decode cX8_word 36 = .ok (.aload_n 0, 1) := by decide +kernel
theorem dX8_word_37 : decode cX8_word 37 = .ok (.getfield 20, 3) := by decide +kernel
theorem dX8_word_40 : decode cX8_word 40 = .ok (.invokevirtual 80, 3) := by decide +kernel
theorem dX8_word_43 : decode cX8_word 43 = .ok (.istore 5, 2) := by decide +kernel
theorem dX8_word_45 : decode cX8_word 45 = .ok (.iload 5, 2) := by decide +kernel
theorem dX8_word_47 : decode cX8_word 47 = .ok (.bipush 14, 2) := by decide +kernel
theorem dX8_word_49 : decode cX8_word 49 = .ok (.if_icmp .lt 6, 3) := by decide +kernel
theorem dX8_word_52 : decode cX8_word 52 = .ok (.bipush (-4), 2) := by decide +kernel
theorem dX8_word_54 : decode cX8_word 54 = .ok (.ireturn, 1) := by decide +kernel
theorem dX8_word_55 : decode cX8_word 55 = .ok (.aload_n 0, 1) := by decide +kernel
theorem dX8_word_56 : decode cX8_word 56 = .ok (.getfield 20, 3) := by decide +kernel
theorem dX8_word_59 : decode cX8_word 59 = .ok (.new 84, 3) := by decide +kernel
theorem dX8_word_62 : decode cX8_word 62 = .ok (.dup, 1) := by decide +kernel
theorem dX8_word_63 : decode cX8_word 63 = .ok (.iload 5, 2) := by decide +kernel
theorem dX8_word_65 : decode cX8_word 65 = .ok (.iload_n 1, 1) := by decide +kernel
theorem dX8_word_66 : decode cX8_word 66 = .ok (.aload 4, 2) := by decide +kernel
theorem dX8_word_68 : decode cX8_word 68 = .ok (.iload_n 3, 1) := by decide +kernel
theorem dX8_word_69 : decode cX8_word 69 = .ok (.invokespecial 86, 3) := by decide +kernel
theorem dX8_word_72 : decode cX8_word 72 = .ok (.invokevirtual 89, 3) := by decide +kernel
theorem dX8_word_75 : decode cX8_word 75 = .ok (.pop, 1) := by decide +kernel
theorem dX8_word_76 : decode cX8_word 76 = .ok (.aload 4, 2) := by decide +kernel
theorem dX8_word_78 : decode cX8_word 78 = .ok (.dup, 1) := by decide +kernel
theorem dX8_word_79 : decode cX8_word 79 = .ok (.getfield 93, 3) := by decide +kernel
theorem dX8_word_82 : decode cX8_word 82 = .ok (.iconst 1, 1) := by decide +kernel
theorem dX8_word_83 : decode cX8_word 83 = .ok (.iload 5, 2) := by decide +kernel
theorem dX8_word_85 : decode cX8_word 85 = .ok (.ishl, 1) := by decide +kernel
theorem dX8_word_86 : decode cX8_word 86 = .ok (.ior, 1) := by decide +kernel
theorem dX8_word_87 : decode cX8_word 87 = .ok (.putfield 93, 3) := by decide +kernel
theorem dX8_word_90 : decode cX8_word 90 = .ok (.iload 5, 2) := by decide +kernel
theorem dX8_word_92 : decode cX8_word 92 = .ok (.ireturn, 1) := by decide +kernel
theorem dX8_hold_0 : decode cX8_hold 0 = .ok (.aload_n 0, 1) := by decide +kernel
theorem dX8_hold_1 : decode cX8_hold 1 = .ok (.iload_n 1, 1) := by decide +kernel
theorem dX8_hold_2 : decode cX8_hold 2 = .ok (.invokevirtual 95, 3) := by decide +kernel
theorem dX8_hold_5 : decode cX8_hold 5 = .ok (.astore_n 3, 1) := by decide +kernel
theorem dX8_hold_6 : decode cX8_hold 6 = .ok (.aload_n 0, 1) := by decide +kernel
theorem dX8_hold_7 : decode cX8_hold 7 = .ok (.iload_n 2, 1) := by decide +kernel
theorem dX8_hold_8 : decode cX8_hold 8 = .ok (.invokevirtual 95, 3) := by decide +kernel
theorem dX8_hold_11 : decode cX8_hold 11 = .ok (.astore 4, 2) := by decide +kernel
theorem dX8_hold_13 : decode cX8_hold 13 = .ok (.aload_n 3, 1) := by decide +kernel
theorem dX8_hold_14 : decode cX8_hold 14 = .ok (.ifnull 8, 3) := by decide +kernel
theorem dX8_hold_17 : decode cX8_hold 17 = .ok (.aload 4, 2) := by decide +kernel
theorem dX8_hold_19 : decode cX8_hold 19 = .ok (.ifnonnull 5, 3) := by decide +kernel
theorem dX8_hold_22 : decode cX8_hold 22 = .ok (.iconst (-1), 1) := by decide +kernel
theorem dX8_hold_23 : decode cX8_hold 23 = .ok (.ireturn, 1) := by decide +kernel
theorem dX8_hold_24 : decode cX8_hold 24 = .ok (.iload_n 2, 1) := by decide +kernel
theorem dX8_hold_25 : decode cX8_hold 25 = .ok (.iload_n 1, 1) := by decide +kernel
theorem dX8_hold_26 : decode cX8_hold 26 = .ok (.if_icmp .lt 6, 3) := by decide +kernel
theorem dX8_hold_29 : decode cX8_hold 29 = .ok (.bipush (-2), 2) := by decide +kernel
theorem dX8_hold_31 : decode cX8_hold 31 = .ok (.ireturn, 1) := by decide +kernel
theorem dX8_hold_32 : decode cX8_hold 32 = .ok (.aload_n 3, 1) := by decide +kernel
theorem dX8_hold_33 : decode cX8_hold 33 = .ok (.invokevirtual 99, 3) := by decide +kernel
theorem dX8_hold_36 : decode cX8_hold 36 = .ok (.ifCond .ne 6, 3) := by decide +kernel
theorem dX8_hold_39 : decode cX8_hold 39 = .ok (.bipush (-12), 2) := by decide +kernel
theorem dX8_hold_41 : decode cX8_hold 41 = .ok (.ireturn, 1) := by decide +kernel
theorem dX8_hold_42 : decode cX8_hold 42 = .ok (.aload_n 3, 1) := by decide +kernel
theorem dX8_hold_43 : decode cX8_hold 43 = .ok (.getfield 102, 3) := by decide +kernel
theorem dX8_hold_46 : decode cX8_hold 46 = .ok (.iload_n 2, 1) := by decide +kernel
theorem dX8_hold_47 : decode cX8_hold 47 = .ok (.invokestatic 105, 3) := by decide +kernel
theorem dX8_hold_50 : decode cX8_hold 50 = .ok (.ifCond .eq 6, 3) := by decide +kernel
theorem dX8_hold_53 : decode cX8_hold 53 = .ok (.bipush (-3), 2) := by decide +kernel
theorem dX8_hold_55 : decode cX8_hold 55 = .ok (.ireturn, 1) := by decide +kernel
theorem dX8_hold_56 : decode cX8_hold 56 = .ok (.aload_n 3, 1) := by decide +kernel
theorem dX8_hold_57 : decode cX8_hold 57 = .ok (.getfield 108, 3) := by decide +kernel
theorem dX8_hold_60 : decode cX8_hold 60 = .ok (.invokevirtual 80, 3) := by decide +kernel
theorem dX8_hold_63 : decode cX8_hold 63 = .ok (.aload_n 3, 1) := by decide +kernel
theorem dX8_hold_64 : decode cX8_hold 64 = .ok (.invokevirtual 99, 3) := by decide +kernel
theorem dX8_hold_67 : decode cX8_hold 67 = .ok (.if_icmp .lt 6, 3) := by decide +kernel
theorem dX8_hold_70 : decode cX8_hold 70 = .ok (.bipush (-4), 2) := by decide +kernel
theorem dX8_hold_72 : decode cX8_hold 72 = .ok (.ireturn, 1) := by decide +kernel
theorem dX8_hold_73 : decode cX8_hold 73 = .ok (.aload_n 3, 1) := by decide +kernel
theorem dX8_hold_74 : decode cX8_hold 74 = .ok (.getfield 108, 3) := by decide +kernel
theorem dX8_hold_77 : decode cX8_hold 77 = .ok (.aload 4, 2) := by decide +kernel
theorem dX8_hold_79 : decode cX8_hold 79 = .ok (.invokevirtual 89, 3) := by decide +kernel
theorem dX8_hold_82 : decode cX8_hold 82 = .ok (.pop, 1) := by decide +kernel
theorem dX8_hold_83 : decode cX8_hold 83 = .ok (.aload_n 3, 1) := by decide +kernel
theorem dX8_hold_84 : decode cX8_hold 84 = .ok (.dup, 1) := by decide +kernel
theorem dX8_hold_85 : decode cX8_hold 85 = .ok (.getfield 102, 3) := by decide +kernel
theorem dX8_hold_88 : decode cX8_hold 88 = .ok (.iconst 1, 1) := by decide +kernel
theorem dX8_hold_89 : decode cX8_hold 89 = .ok (.iload_n 2, 1) := by decide +kernel
theorem dX8_hold_90 : decode cX8_hold 90 = .ok (.ishl, 1) := by decide +kernel
theorem dX8_hold_91 : decode cX8_hold 91 = .ok (.ior, 1) := by decide +kernel
theorem dX8_hold_92 : decode cX8_hold 92 = .ok (.putfield 102, 3) := by decide +kernel
theorem dX8_hold_95 : decode cX8_hold 95 = .ok (.aload_n 3, 1) := by decide +kernel
theorem dX8_hold_96 : decode cX8_hold 96 = .ok (.getfield 108, 3) := by decide +kernel
theorem dX8_hold_99 : decode cX8_hold 99 = .ok (.invokevirtual 80, 3) := by decide +kernel
theorem dX8_hold_102 : decode cX8_hold 102 = .ok (.ireturn, 1) := by decide +kernel
theorem dX8_of_0 : decode cX8_of 0 = .ok (.aload_n 0, 1) := by decide +kernel
theorem dX8_of_1 : decode cX8_of 1 = .ok (.iload_n 1, 1) := by decide +kernel
theorem dX8_of_2 : decode cX8_of 2 = .ok (.invokevirtual 95, 3) := by decide +kernel
theorem dX8_of_5 : decode cX8_of 5 = .ok (.astore_n 3, 1) := by decide +kernel
theorem dX8_of_6 : decode cX8_of 6 = .ok (.aload_n 3, 1) := by decide +kernel
theorem dX8_of_7 : decode cX8_of 7 = .ok (.ifnull 12, 3) := by decide +kernel
theorem dX8_of_10 : decode cX8_of 10 = .ok (.iload_n 2, 1) := by decide +kernel
theorem dX8_of_11 : decode cX8_of 11 = .ok (.bipush 8, 2) := by decide +kernel
theorem dX8_of_13 : decode cX8_of 13 = .ok (.invokestatic 72, 3) := by decide +kernel
theorem dX8_of_16 : decode cX8_of 16 = .ok (.ifCond .ne 5, 3) := by decide +kernel
theorem dX8_of_19 : decode cX8_of 19 = .ok (.iconst (-1), 1) := by decide +kernel
theorem dX8_of_20 : decode cX8_of 20 = .ok (.ireturn, 1) := by decide +kernel
theorem dX8_of_21 : decode cX8_of 21 = .ok (.iload_n 2, 1) := by decide +kernel
theorem dX8_of_22 : decode cX8_of 22 = .ok (.tableswitch 56 0 3 #[30, 35, 43, 48], 30) := by decide +kernel
theorem dX8_of_52 : decode cX8_of 52 = .ok (.aload_n 3, 1) := by decide +kernel
theorem dX8_of_53 : decode cX8_of 53 = .ok (.getfield 111, 3) := by decide +kernel
theorem dX8_of_56 : decode cX8_of 56 = .ok (.ireturn, 1) := by decide +kernel
theorem dX8_of_57 : decode cX8_of 57 = .ok (.aload_n 3, 1) := by decide +kernel
theorem dX8_of_58 : decode cX8_of 58 = .ok (.getfield 114, 3) := by decide +kernel
theorem dX8_of_61 : decode cX8_of 61 = .ok (.getfield 118, 3) := by decide +kernel
theorem dX8_of_64 : decode cX8_of 64 = .ok (.ireturn, 1) := by decide +kernel
theorem dX8_of_65 : decode cX8_of 65 = .ok (.aload_n 3, 1) := by decide +kernel
theorem dX8_of_66 : decode cX8_of 66 = .ok (.getfield 121, 3) := by decide +kernel
theorem dX8_of_69 : decode cX8_of 69 = .ok (.ireturn, 1) := by decide +kernel
theorem dX8_of_70 : decode cX8_of 70 = .ok (.aload_n 3, 1) := by decide +kernel
theorem dX8_of_71 : decode cX8_of 71 = .ok (.getfield 108, 3) := by decide +kernel
theorem dX8_of_74 : decode cX8_of 74 = .ok (.invokevirtual 80, 3) := by decide +kernel
theorem dX8_of_77 : decode cX8_of 77 = .ok (.ireturn, 1) := by decide +kernel
theorem dX8_of_78 : decode cX8_of 78 = .ok (.aload_n 3, 1) := by decide +kernel
theorem dX8_of_79 : decode cX8_of 79 = .ok (.iload_n 2, 1) := by decide +kernel
theorem dX8_of_80 : decode cX8_of 80 = .ok (.iconst 4, 1) := by decide +kernel
theorem dX8_of_81 : decode cX8_of 81 = .ok (.isub, 1) := by decide +kernel
theorem dX8_of_82 : decode cX8_of 82 = .ok (.invokevirtual 124, 3) := by decide +kernel
theorem dX8_of_85 : decode cX8_of 85 = .ok (.astore 4, 2) := by decide +kernel
theorem dX8_of_87 : decode cX8_of 87 = .ok (.aload 4, 2) := by decide +kernel
theorem dX8_of_89 : decode cX8_of 89 = .ok (.ifnonnull 8, 3) := by decide +kernel
theorem dX8_of_92 : decode cX8_of 92 = .ok (.bipush (-5), 2) := by decide +kernel
theorem dX8_of_94 : decode cX8_of 94 = .ok (.goto 8, 3) := by decide +kernel
theorem dX8_of_97 : decode cX8_of 97 = .ok (.aload 4, 2) := by decide +kernel
theorem dX8_of_99 : decode cX8_of 99 = .ok (.getfield 127, 3) := by decide +kernel
theorem dX8_of_102 : decode cX8_of 102 = .ok (.ireturn, 1) := by decide +kernel
theorem dX8_show_0 : decode cX8_show 0 = .ok (.iload_n 1, 1) := by decide +kernel
theorem dX8_show_1 : decode cX8_show 1 = .ok (.sipush 1024, 3) := by decide +kernel
theorem dX8_show_4 : decode cX8_show 4 = .ok (.invokestatic 72, 3) := by decide +kernel
theorem dX8_show_7 : decode cX8_show 7 = .ok (.ifCond .ne 6, 3) := by decide +kernel
theorem dX8_show_10 : decode cX8_show 10 = .ok (.bipush (-2), 2) := by decide +kernel
theorem dX8_show_12 : decode cX8_show 12 = .ok (.ireturn, 1) := by decide +kernel
theorem dX8_show_13 : decode cX8_show 13 = .ok (.aload_n 0, 1) := by decide +kernel
theorem dX8_show_14 : decode cX8_show 14 = .ok (.getfield 37, 3) := by decide +kernel
theorem dX8_show_17 : decode cX8_show 17 = .ok (.getfield 128, 3) := by decide +kernel
theorem dX8_show_20 : decode cX8_show 20 = .ok (.istore_n 2, 1) := by decide +kernel
theorem dX8_show_21 : decode cX8_show 21 = .ok (.aload_n 0, 1) := by decide +kernel
theorem dX8_show_22 : decode cX8_show 22 = .ok (.getfield 37, 3) := by decide +kernel
theorem dX8_show_25 : decode cX8_show 25 = .ok (.iload_n 1, 1) := by decide +kernel
theorem dX8_show_26 : decode cX8_show 26 = .ok (.putfield 128, 3) := by decide +kernel
theorem dX8_show_29 : decode cX8_show 29 = .ok (.iload_n 2, 1) := by decide +kernel
theorem dX8_show_30 : decode cX8_show 30 = .ok (.ireturn, 1) := by decide +kernel
theorem dX8_feed_0 : decode cX8_feed 0 = .ok (.iload_n 2, 1) := by decide +kernel
theorem dX8_feed_1 : decode cX8_feed 1 = .ok (.iconst 5, 1) := by decide +kernel
theorem dX8_feed_2 : decode cX8_feed 2 = .ok (.invokestatic 72, 3) := by decide +kernel
theorem dX8_feed_5 : decode cX8_feed 5 = .ok (.ifCond .ne 6, 3) := by decide +kernel
theorem dX8_feed_8 : decode cX8_feed 8 = .ok (.bipush (-2), 2) := by decide +kernel
theorem dX8_feed_10 : decode cX8_feed 10 = .ok (.ireturn, 1) := by decide +kernel
theorem dX8_feed_11 : decode cX8_feed 11 = .ok (.aload_n 0, 1) := by decide +kernel
theorem dX8_feed_12 : decode cX8_feed 12 = .ok (.getfield 30, 3) := by decide +kernel
theorem dX8_feed_15 : decode cX8_feed 15 = .ok (.getfield 131, 3) := by decide +kernel
theorem dX8_feed_18 : decode cX8_feed 18 = .ok (.iload_n 2, 1) := by decide +kernel
theorem dX8_feed_19 : decode cX8_feed 19 = .ok (.iadd, 1) := by decide +kernel
theorem dX8_feed_20 : decode cX8_feed 20 = .ok (.bipush 100, 2) := by decide +kernel
theorem dX8_feed_22 : decode cX8_feed 22 = .ok (.if_icmp .le 6, 3) := by decide +kernel
theorem dX8_feed_25 : decode cX8_feed 25 = .ok (.bipush (-4), 2) := by decide +kernel
theorem dX8_feed_27 : decode cX8_feed 27 = .ok (.ireturn, 1) := by decide +kernel
theorem dX8_feed_28 : decode cX8_feed 28 = .ok (.iload_n 2, 1) := by decide +kernel
theorem dX8_feed_29 : decode cX8_feed 29 = .ok (.iconst 1, 1) := by decide +kernel
theorem dX8_feed_30 : decode cX8_feed 30 = .ok (.isub, 1) := by decide +kernel
theorem dX8_feed_31 : decode cX8_feed 31 = .ok (.istore_n 3, 1) := by decide +kernel
theorem dX8_feed_32 : decode cX8_feed 32 = .ok (.iload_n 3, 1) := by decide +kernel
theorem dX8_feed_33 : decode cX8_feed 33 = .ok (.ifCond .lt 23, 3) := by decide +kernel
theorem dX8_feed_36 : decode cX8_feed 36 = .ok (.aload_n 0, 1) := by decide +kernel
theorem dX8_feed_37 : decode cX8_feed 37 = .ok (.getfield 30, 3) := by decide +kernel
theorem dX8_feed_40 : decode cX8_feed 40 = .ok (.iload_n 1, 1) := by decide +kernel
theorem dX8_feed_41 : decode cX8_feed 41 = .ok (.bipush 8, 2) := by decide +kernel
theorem dX8_feed_43 : decode cX8_feed 43 = .ok (.iload_n 3, 1) := by decide +kernel
theorem dX8_feed_44 : decode cX8_feed 44 = .ok (.imul, 1) := by decide +kernel
theorem dX8_feed_45 : decode cX8_feed 45 = .ok (.ishr, 1) := by decide +kernel
theorem dX8_feed_46 : decode cX8_feed 46 = .ok (.i2b, 1) := by decide +kernel
theorem dX8_feed_47 : decode cX8_feed 47 = .ok (.invokevirtual 134, 3) := by decide +kernel
theorem dX8_feed_50 : decode cX8_feed 50 = .ok (.iinc 3 (-1), 3) := by decide +kernel
theorem dX8_feed_53 : decode cX8_feed 53 = .ok (.goto (-21), 3) := by decide +kernel
theorem dX8_feed_56 : decode cX8_feed 56 = .ok (.aload_n 0, 1) := by decide +kernel
theorem dX8_feed_57 : decode cX8_feed 57 = .ok (.getfield 30, 3) := by decide +kernel
theorem dX8_feed_60 : decode cX8_feed 60 = .ok (.getfield 131, 3) := by decide +kernel
theorem dX8_feed_63 : decode cX8_feed 63 = .ok (.ireturn, 1) := by decide +kernel
theorem dX8_rule_0 : decode cX8_rule 0 = .ok (.iload_n 1, 1) := by decide +kernel
theorem dX8_rule_1 : decode cX8_rule 1 = .ok (.iconst 2, 1) := by decide +kernel
theorem dX8_rule_2 : decode cX8_rule 2 = .ok (.invokestatic 72, 3) := by decide +kernel
theorem dX8_rule_5 : decode cX8_rule 5 = .ok (.ifCond .ne 5, 3) := by decide +kernel
theorem dX8_rule_8 : decode cX8_rule 8 = .ok (.iconst (-1), 1) := by decide +kernel
theorem dX8_rule_9 : decode cX8_rule 9 = .ok (.ireturn, 1) := by decide +kernel
theorem dX8_rule_10 : decode cX8_rule 10 = .ok (.aload_n 0, 1) := by decide +kernel
theorem dX8_rule_11 : decode cX8_rule 11 = .ok (.getfield 24, 3) := by decide +kernel
theorem dX8_rule_14 : decode cX8_rule 14 = .ok (.invokevirtual 80, 3) := by decide +kernel
theorem dX8_rule_17 : decode cX8_rule 17 = .ok (.istore_n 2, 1) := by decide +kernel
theorem dX8_rule_18 : decode cX8_rule 18 = .ok (.iload_n 2, 1) := by decide +kernel
theorem dX8_rule_19 : decode cX8_rule 19 = .ok (.bipush 10, 2) := by decide +kernel
theorem dX8_rule_21 : decode cX8_rule 21 = .ok (.if_icmp .lt 6, 3) := by decide +kernel
theorem dX8_rule_24 : decode cX8_rule 24 = .ok (.bipush (-4), 2) := by decide +kernel
theorem dX8_rule_26 : decode cX8_rule 26 = .ok (.ireturn, 1) := by decide +kernel
theorem dX8_rule_27 : decode cX8_rule 27 = .ok (.aload_n 0, 1) := by decide +kernel
theorem dX8_rule_28 : decode cX8_rule 28 = .ok (.getfield 30, 3) := by decide +kernel
theorem dX8_rule_31 : decode cX8_rule 31 = .ok (.iload_n 2, 1) := by decide +kernel
theorem dX8_rule_32 : decode cX8_rule 32 = .ok (.iload_n 1, 1) := by decide +kernel
theorem dX8_rule_33 : decode cX8_rule 33 = .ok (.invokevirtual 138, 3) := by decide +kernel
theorem dX8_rule_36 : decode cX8_rule 36 = .ok (.astore_n 3, 1) := by decide +kernel
theorem dX8_rule_37 : decode cX8_rule 37 = .ok (.aload_n 0, 1) := by decide +kernel
theorem dX8_rule_38 : decode cX8_rule 38 = .ok (.getfield 30, 3) := by decide +kernel
theorem dX8_rule_41 : decode cX8_rule 41 = .ok (.iconst 0, 1) := by decide +kernel
theorem dX8_rule_42 : decode cX8_rule 42 = .ok (.putfield 131, 3) := by decide +kernel
theorem dX8_rule_45 : decode cX8_rule 45 = .ok (.aload_n 3, 1) := by decide +kernel
theorem dX8_rule_46 : decode cX8_rule 46 = .ok (.ifnonnull 14, 3) := by decide +kernel
theorem dX8_rule_49 : decode cX8_rule 49 = .ok (.bipush (-10), 2) := by decide +kernel
theorem dX8_rule_51 : decode cX8_rule 51 = .ok (.aload_n 0, 1) := by decide +kernel
theorem dX8_rule_52 : decode cX8_rule 52 = .ok (.getfield 30, 3) := by decide +kernel
theorem dX8_rule_55 : decode cX8_rule 55 = .ok (.getfield 142, 3) := by decide +kernel
theorem dX8_rule_58 : decode cX8_rule 58 = .ok (.isub, 1) := by decide +kernel
theorem dX8_rule_59 : decode cX8_rule 59 = .ok (.ireturn, 1) := by decide +kernel
theorem dX8_rule_60 : decode cX8_rule 60 = .ok (.aload_n 0, 1) := by decide +kernel
theorem dX8_rule_61 : decode cX8_rule 61 = .ok (.getfield 24, 3) := by decide +kernel
theorem dX8_rule_64 : decode cX8_rule 64 = .ok (.aload_n 3, 1) := by decide +kernel
theorem dX8_rule_65 : decode cX8_rule 65 = .ok (.invokevirtual 89, 3) := by decide +kernel
theorem dX8_rule_68 : decode cX8_rule 68 = .ok (.pop, 1) := by decide +kernel
theorem dX8_rule_69 : decode cX8_rule 69 = .ok (.iload_n 2, 1) := by decide +kernel
theorem dX8_rule_70 : decode cX8_rule 70 = .ok (.ireturn, 1) := by decide +kernel
theorem dX8_judge_0 : decode cX8_judge 0 = .ok (.iload_n 1, 1) := by decide +kernel
theorem dX8_judge_1 : decode cX8_judge 1 = .ok (.iconst 1, 1) := by decide +kernel
theorem dX8_judge_2 : decode cX8_judge 2 = .ok (.aload_n 0, 1) := by decide +kernel
theorem dX8_judge_3 : decode cX8_judge 3 = .ok (.getfield 24, 3) := by decide +kernel
theorem dX8_judge_6 : decode cX8_judge 6 = .ok (.invokevirtual 80, 3) := by decide +kernel
theorem dX8_judge_9 : decode cX8_judge 9 = .ok (.ishl, 1) := by decide +kernel
theorem dX8_judge_10 : decode cX8_judge 10 = .ok (.invokestatic 72, 3) := by decide +kernel
theorem dX8_judge_13 : decode cX8_judge 13 = .ok (.ifCond .ne 6, 3) := by decide +kernel
theorem dX8_judge_16 : decode cX8_judge 16 = .ok (.bipush (-2), 2) := by decide +kernel
theorem dX8_judge_18 : decode cX8_judge 18 = .ok (.ireturn, 1) := by decide +kernel
theorem dX8_judge_19 : decode cX8_judge 19 = .ok (.aload_n 0, 1) := by decide +kernel
theorem dX8_judge_20 : decode cX8_judge 20 = .ok (.getfield 37, 3) := by decide +kernel
theorem dX8_judge_23 : decode cX8_judge 23 = .ok (.getfield 145, 3) := by decide +kernel
theorem dX8_judge_26 : decode cX8_judge 26 = .ok (.istore_n 2, 1) := by decide +kernel
theorem dX8_judge_27 : decode cX8_judge 27 = .ok (.aload_n 0, 1) := by decide +kernel
theorem dX8_judge_28 : decode cX8_judge 28 = .ok (.getfield 37, 3) := by decide +kernel
theorem dX8_judge_31 : decode cX8_judge 31 = .ok (.iload_n 1, 1) := by decide +kernel
theorem dX8_judge_32 : decode cX8_judge 32 = .ok (.putfield 145, 3) := by decide +kernel
theorem dX8_judge_35 : decode cX8_judge 35 = .ok (.iload_n 2, 1) := by decide +kernel
theorem dX8_judge_36 : decode cX8_judge 36 = .ok (.ireturn, 1) := by decide +kernel
theorem dX8_meets_0 : decode cX8_meets 0 = .ok (.aload_n 0, 1) := by decide +kernel
theorem dX8_meets_1 : decode cX8_meets 1 = .ok (.iload_n 1, 1) := by decide +kernel
theorem dX8_meets_2 : decode cX8_meets 2 = .ok (.invokevirtual 148, 3) := by decide +kernel
theorem dX8_meets_5 : decode cX8_meets 5 = .ok (.astore 5, 2) := by decide +kernel
theorem dX8_meets_7 : decode cX8_meets 7 = .ok (.aload_n 0, 1) := by decide +kernel
theorem dX8_meets_8 : decode cX8_meets 8 = .ok (.iload_n 2, 1) := by decide +kernel
theorem dX8_meets_9 : decode cX8_meets 9 = .ok (.invokevirtual 95, 3) := by decide +kernel
theorem dX8_meets_12 : decode cX8_meets 12 = .ok (.astore 6, 2) := by decide +kernel
theorem dX8_meets_14 : decode cX8_meets 14 = .ok (.aload 5, 2) := by decide +kernel
theorem dX8_meets_16 : decode cX8_meets 16 = .ok (.ifnull 25, 3) := by decide +kernel
theorem dX8_meets_19 : decode cX8_meets 19 = .ok (.aload 6, 2) := by decide +kernel
theorem dX8_meets_21 : decode cX8_meets 21 = .ok (.ifnull 20, 3) := by decide +kernel
theorem dX8_meets_24 : decode cX8_meets 24 = .ok (.iload_n 3, 1) := by decide +kernel
theorem dX8_meets_25 : decode cX8_meets 25 = .ok (.iconst 4, 1) := by decide +kernel
theorem dX8_meets_26 : decode cX8_meets 26 = .ok (.invokestatic 72, 3) := by decide +kernel
theorem dX8_meets_29 : decode cX8_meets 29 = .ok (.ifCond .eq 12, 3) := by decide +kernel
theorem dX8_meets_32 : decode cX8_meets 32 = .ok (.iload 4, 2) := by decide +kernel
theorem dX8_meets_34 : decode cX8_meets 34 = .ok (.iconst 3, 1) := by decide +kernel
theorem dX8_meets_35 : decode cX8_meets 35 = .ok (.invokestatic 72, 3) := by decide +kernel
theorem dX8_meets_38 : decode cX8_meets 38 = .ok (.ifCond .ne 5, 3) := by decide +kernel
theorem dX8_meets_41 : decode cX8_meets 41 = .ok (.iconst (-1), 1) := by decide +kernel
theorem dX8_meets_42 : decode cX8_meets 42 = .ok (.ireturn, 1) := by decide +kernel
theorem dX8_meets_43 : decode cX8_meets 43 = .ok (.aload 5, 2) := by decide +kernel
theorem dX8_meets_45 : decode cX8_meets 45 = .ok (.aload 6, 2) := by decide +kernel
theorem dX8_meets_47 : decode cX8_meets 47 = .ok (.iload_n 3, 1) := by decide +kernel
theorem dX8_meets_48 : decode cX8_meets 48 = .ok (.aload_n 0, 1) := by decide +kernel
theorem dX8_meets_49 : decode cX8_meets 49 = .ok (.getfield 37, 3) := by decide +kernel
theorem dX8_meets_52 : decode cX8_meets 52 = .ok (.invokevirtual 152, 3) := by decide +kernel
theorem dX8_meets_55 : decode cX8_meets 55 = .ok (.istore 7, 2) := by decide +kernel
theorem dX8_meets_57 : decode cX8_meets 57 = .ok (.iload 4, 2) := by decide +kernel
theorem dX8_meets_59 : decode cX8_meets 59 = .ok (.ifCond .ne 14, 3) := by decide +kernel
theorem dX8_meets_62 : decode cX8_meets 62 = .ok (.iload 7, 2) := by decide +kernel
theorem dX8_meets_64 : decode cX8_meets 64 = .ok (.ifCond .eq 7, 3) := by decide +kernel
theorem dX8_meets_67 : decode cX8_meets 67 = .ok (.iconst 1, 1) := by decide +kernel
theorem dX8_meets_68 : decode cX8_meets 68 = .ok (.goto 4, 3) := by decide +kernel
theorem dX8_meets_71 : decode cX8_meets 71 = .ok (.iconst 0, 1) := by decide +kernel
theorem dX8_meets_72 : decode cX8_meets 72 = .ok (.ireturn, 1) := by decide +kernel
theorem dX8_meets_73 : decode cX8_meets 73 = .ok (.iload 4, 2) := by decide +kernel
theorem dX8_meets_75 : decode cX8_meets 75 = .ok (.iconst 1, 1) := by decide +kernel
theorem dX8_meets_76 : decode cX8_meets 76 = .ok (.if_icmp .ne 23, 3) := by decide +kernel
theorem dX8_meets_79 : decode cX8_meets 79 = .ok (.aload 5, 2) := by decide +kernel
theorem dX8_meets_81 : decode cX8_meets 81 = .ok (.iload 7, 2) := by decide +kernel
theorem dX8_meets_83 : decode cX8_meets 83 = .ok (.aload_n 0, 1) := by decide +kernel
theorem dX8_meets_84 : decode cX8_meets 84 = .ok (.getfield 37, 3) := by decide +kernel
theorem dX8_meets_87 : decode cX8_meets 87 = .ok (.invokevirtual 158, 3) := by decide +kernel
theorem dX8_meets_90 : decode cX8_meets 90 = .ok (.ifCond .eq 7, 3) := by decide +kernel
theorem dX8_meets_93 : decode cX8_meets 93 = .ok (.iconst 1, 1) := by decide +kernel
theorem dX8_meets_94 : decode cX8_meets 94 = .ok (.goto 4, 3) := by decide +kernel
theorem dX8_meets_97 : decode cX8_meets 97 = .ok (.iconst 0, 1) := by decide +kernel
theorem dX8_meets_98 : decode cX8_meets 98 = .ok (.ireturn, 1) := by decide +kernel
theorem dX8_meets_99 : decode cX8_meets 99 = .ok (.aload 5, 2) := by decide +kernel
theorem dX8_meets_101 : decode cX8_meets 101 = .ok (.iload 7, 2) := by decide +kernel
theorem dX8_meets_103 : decode cX8_meets 103 = .ok (.invokevirtual 162, 3) := by decide +kernel
theorem dX8_meets_106 : decode cX8_meets 106 = .ok (.istore 8, 2) := by decide +kernel
theorem dX8_meets_108 : decode cX8_meets 108 = .ok (.iload 8, 2) := by decide +kernel
theorem dX8_meets_110 : decode cX8_meets 110 = .ok (.ifCond .ge 8, 3) := by decide +kernel
theorem dX8_meets_113 : decode cX8_meets 113 = .ok (.bipush (-5), 2) := by decide +kernel
theorem dX8_meets_115 : decode cX8_meets 115 = .ok (.goto 5, 3) := by decide +kernel
theorem dX8_meets_118 : decode cX8_meets 118 = .ok (.iload 8, 2) := by decide +kernel
theorem dX8_meets_120 : decode cX8_meets 120 = .ok (.ireturn, 1) := by decide +kernel
theorem dX8_heard_0 : decode cX8_heard 0 = .ok (.aload_n 0, 1) := by decide +kernel
theorem dX8_heard_1 : decode cX8_heard 1 = .ok (.iload_n 1, 1) := by decide +kernel
theorem dX8_heard_2 : decode cX8_heard 2 = .ok (.invokevirtual 95, 3) := by decide +kernel
theorem dX8_heard_5 : decode cX8_heard 5 = .ok (.astore 4, 2) := by decide +kernel
theorem dX8_heard_7 : decode cX8_heard 7 = .ok (.aload 4, 2) := by decide +kernel
theorem dX8_heard_9 : decode cX8_heard 9 = .ok (.ifnull 11, 3) := by decide +kernel
theorem dX8_heard_12 : decode cX8_heard 12 = .ok (.iload_n 2, 1) := by decide +kernel
theorem dX8_heard_13 : decode cX8_heard 13 = .ok (.iload_n 3, 1) := by decide +kernel
theorem dX8_heard_14 : decode cX8_heard 14 = .ok (.invokestatic 166, 3) := by decide +kernel
theorem dX8_heard_17 : decode cX8_heard 17 = .ok (.ifCond .ne 5, 3) := by decide +kernel
theorem dX8_heard_20 : decode cX8_heard 20 = .ok (.iconst (-1), 1) := by decide +kernel
theorem dX8_heard_21 : decode cX8_heard 21 = .ok (.ireturn, 1) := by decide +kernel
theorem dX8_heard_22 : decode cX8_heard 22 = .ok (.aload_n 0, 1) := by decide +kernel
theorem dX8_heard_23 : decode cX8_heard 23 = .ok (.aload 4, 2) := by decide +kernel
theorem dX8_heard_25 : decode cX8_heard 25 = .ok (.iload_n 2, 1) := by decide +kernel
theorem dX8_heard_26 : decode cX8_heard 26 = .ok (.iload_n 3, 1) := by decide +kernel
theorem dX8_heard_27 : decode cX8_heard 27 = .ok (.aload_n 0, 1) := by decide +kernel
theorem dX8_heard_28 : decode cX8_heard 28 = .ok (.getfield 37, 3) := by decide +kernel
theorem dX8_heard_31 : decode cX8_heard 31 = .ok (.invokevirtual 169, 3) := by decide +kernel
theorem dX8_heard_34 : decode cX8_heard 34 = .ok (.ifCond .eq 7, 3) := by decide +kernel
theorem dX8_heard_37 : decode cX8_heard 37 = .ok (.iconst 1, 1) := by decide +kernel
theorem dX8_heard_38 : decode cX8_heard 38 = .ok (.goto 4, 3) := by decide +kernel
theorem dX8_heard_41 : decode cX8_heard 41 = .ok (.iconst 0, 1) := by decide +kernel
theorem dX8_heard_42 : decode cX8_heard 42 = .ok (.ireturn, 1) := by decide +kernel
theorem dX8_why_0 : decode cX8_why 0 = .ok (.aload_n 0, 1) := by decide +kernel
theorem dX8_why_1 : decode cX8_why 1 = .ok (.iload_n 1, 1) := by decide +kernel
theorem dX8_why_2 : decode cX8_why 2 = .ok (.invokevirtual 95, 3) := by decide +kernel
theorem dX8_why_5 : decode cX8_why 5 = .ok (.astore 4, 2) := by decide +kernel
theorem dX8_why_7 : decode cX8_why 7 = .ok (.aload 4, 2) := by decide +kernel
theorem dX8_why_9 : decode cX8_why 9 = .ok (.ifnull 11, 3) := by decide +kernel
theorem dX8_why_12 : decode cX8_why 12 = .ok (.iload_n 2, 1) := by decide +kernel
theorem dX8_why_13 : decode cX8_why 13 = .ok (.iload_n 3, 1) := by decide +kernel
theorem dX8_why_14 : decode cX8_why 14 = .ok (.invokestatic 166, 3) := by decide +kernel
theorem dX8_why_17 : decode cX8_why 17 = .ok (.ifCond .ne 5, 3) := by decide +kernel
theorem dX8_why_20 : decode cX8_why 20 = .ok (.iconst (-1), 1) := by decide +kernel
theorem dX8_why_21 : decode cX8_why 21 = .ok (.ireturn, 1) := by decide +kernel
theorem dX8_why_22 : decode cX8_why 22 = .ok (.aload_n 0, 1) := by decide +kernel
theorem dX8_why_23 : decode cX8_why 23 = .ok (.aload 4, 2) := by decide +kernel
theorem dX8_why_25 : decode cX8_why 25 = .ok (.iload_n 2, 1) := by decide +kernel
theorem dX8_why_26 : decode cX8_why 26 = .ok (.iload_n 3, 1) := by decide +kernel
theorem dX8_why_27 : decode cX8_why 27 = .ok (.aload_n 0, 1) := by decide +kernel
theorem dX8_why_28 : decode cX8_why 28 = .ok (.getfield 37, 3) := by decide +kernel
theorem dX8_why_31 : decode cX8_why 31 = .ok (.invokevirtual 173, 3) := by decide +kernel
theorem dX8_why_34 : decode cX8_why 34 = .ok (.istore 5, 2) := by decide +kernel
theorem dX8_why_36 : decode cX8_why 36 = .ok (.iload 5, 2) := by decide +kernel
theorem dX8_why_38 : decode cX8_why 38 = .ok (.ifCond .lt 11, 3) := by decide +kernel
theorem dX8_why_41 : decode cX8_why 41 = .ok (.bipush 100, 2) := by decide +kernel
theorem dX8_why_43 : decode cX8_why 43 = .ok (.iload_n 1, 1) := by decide +kernel
theorem dX8_why_44 : decode cX8_why 44 = .ok (.imul, 1) := by decide +kernel
theorem dX8_why_45 : decode cX8_why 45 = .ok (.iload 5, 2) := by decide +kernel
theorem dX8_why_47 : decode cX8_why 47 = .ok (.iadd, 1) := by decide +kernel
theorem dX8_why_48 : decode cX8_why 48 = .ok (.ireturn, 1) := by decide +kernel
theorem dX8_why_49 : decode cX8_why 49 = .ok (.aload_n 0, 1) := by decide +kernel
theorem dX8_why_50 : decode cX8_why 50 = .ok (.aload_n 0, 1) := by decide +kernel
theorem dX8_why_51 : decode cX8_why 51 = .ok (.aload 4, 2) := by decide +kernel
theorem dX8_why_53 : decode cX8_why 53 = .ok (.getfield 102, 3) := by decide +kernel
theorem dX8_why_56 : decode cX8_why 56 = .ok (.invokevirtual 177, 3) := by decide +kernel
theorem dX8_why_59 : decode cX8_why 59 = .ok (.iload_n 3, 1) := by decide +kernel
theorem dX8_why_60 : decode cX8_why 60 = .ok (.aload_n 0, 1) := by decide +kernel
theorem dX8_why_61 : decode cX8_why 61 = .ok (.getfield 37, 3) := by decide +kernel
theorem dX8_why_64 : decode cX8_why 64 = .ok (.invokevirtual 180, 3) := by decide +kernel
theorem dX8_why_67 : decode cX8_why 67 = .ok (.istore 6, 2) := by decide +kernel
theorem dX8_why_69 : decode cX8_why 69 = .ok (.iconst 0, 1) := by decide +kernel
theorem dX8_why_70 : decode cX8_why 70 = .ok (.istore 7, 2) := by decide +kernel
theorem dX8_why_72 : decode cX8_why 72 = .ok (.iload 7, 2) := by decide +kernel
theorem dX8_why_74 : decode cX8_why 74 = .ok (.bipush 14, 2) := by decide +kernel
theorem dX8_why_76 : decode cX8_why 76 = .ok (.if_icmp .ge 62, 3) := by decide +kernel
theorem dX8_why_79 : decode cX8_why 79 = .ok (.iload_n 2, 1) := by decide +kernel
theorem dX8_why_80 : decode cX8_why 80 = .ok (.iconst 1, 1) := by decide +kernel
theorem dX8_why_81 : decode cX8_why 81 = .ok (.if_icmp .eq 57, 3) := by decide +kernel
theorem dX8_why_84 : decode cX8_why 84 = .ok (.aload 4, 2) := by decide +kernel
theorem dX8_why_86 : decode cX8_why 86 = .ok (.iload 6, 2) := by decide +kernel
theorem dX8_why_88 : decode cX8_why 88 = .ok (.invokestatic 184, 3) := by decide +kernel
theorem dX8_why_91 : decode cX8_why 91 = .ok (.astore 4, 2) := by decide +kernel
theorem dX8_why_93 : decode cX8_why 93 = .ok (.aload 4, 2) := by decide +kernel
theorem dX8_why_95 : decode cX8_why 95 = .ok (.ifnonnull 6, 3) := by decide +kernel
theorem dX8_why_98 : decode cX8_why 98 = .ok (.bipush (-5), 2) := by decide +kernel
theorem dX8_why_100 : decode cX8_why 100 = .ok (.ireturn, 1) := by decide +kernel
theorem dX8_why_101 : decode cX8_why 101 = .ok (.aload_n 0, 1) := by decide +kernel
theorem dX8_why_102 : decode cX8_why 102 = .ok (.aload 4, 2) := by decide +kernel
theorem dX8_why_104 : decode cX8_why 104 = .ok (.iconst 0, 1) := by decide +kernel
theorem dX8_why_105 : decode cX8_why 105 = .ok (.iload_n 3, 1) := by decide +kernel
theorem dX8_why_106 : decode cX8_why 106 = .ok (.aload_n 0, 1) := by decide +kernel
theorem dX8_why_107 : decode cX8_why 107 = .ok (.getfield 37, 3) := by decide +kernel
theorem dX8_why_110 : decode cX8_why 110 = .ok (.invokevirtual 173, 3) := by decide +kernel
theorem dX8_why_113 : decode cX8_why 113 = .ok (.istore 5, 2) := by decide +kernel
theorem dX8_why_115 : decode cX8_why 115 = .ok (.iload 5, 2) := by decide +kernel
theorem dX8_why_117 : decode cX8_why 117 = .ok (.ifCond .lt 15, 3) := by decide +kernel
theorem dX8_why_120 : decode cX8_why 120 = .ok (.bipush 100, 2) := by decide +kernel
theorem dX8_why_122 : decode cX8_why 122 = .ok (.aload 4, 2) := by decide +kernel
theorem dX8_why_124 : decode cX8_why 124 = .ok (.getfield 127, 3) := by decide +kernel
theorem dX8_why_127 : decode cX8_why 127 = .ok (.imul, 1) := by decide +kernel
theorem dX8_why_128 : decode cX8_why 128 = .ok (.iload 5, 2) := by decide +kernel
theorem dX8_why_130 : decode cX8_why 130 = .ok (.iadd, 1) := by decide +kernel
theorem dX8_why_131 : decode cX8_why 131 = .ok (.ireturn, 1) := by decide +kernel
theorem dX8_why_132 : decode cX8_why 132 = .ok (.iinc 7 1, 3) := by decide +kernel
theorem dX8_why_135 : decode cX8_why 135 = .ok (.goto (-63), 3) := by decide +kernel
theorem dX8_why_138 : decode cX8_why 138 = .ok (.bipush (-5), 2) := by decide +kernel
theorem dX8_why_140 : decode cX8_why 140 = .ok (.ireturn, 1) := by decide +kernel
theorem dX8_least_0 : decode cX8_least 0 = .ok (.aload_n 0, 1) := by decide +kernel
theorem dX8_least_1 : decode cX8_least 1 = .ok (.iload_n 1, 1) := by decide +kernel
theorem dX8_least_2 : decode cX8_least 2 = .ok (.invokevirtual 95, 3) := by decide +kernel
theorem dX8_least_5 : decode cX8_least 5 = .ok (.astore 5, 2) := by decide +kernel
theorem dX8_least_7 : decode cX8_least 7 = .ok (.aload 5, 2) := by decide +kernel
theorem dX8_least_9 : decode cX8_least 9 = .ok (.ifnull 20, 3) := by decide +kernel
theorem dX8_least_12 : decode cX8_least 12 = .ok (.iload_n 2, 1) := by decide +kernel
theorem dX8_least_13 : decode cX8_least 13 = .ok (.iload_n 3, 1) := by decide +kernel
theorem dX8_least_14 : decode cX8_least 14 = .ok (.invokestatic 166, 3) := by decide +kernel
theorem dX8_least_17 : decode cX8_least 17 = .ok (.ifCond .eq 12, 3) := by decide +kernel
theorem dX8_least_20 : decode cX8_least 20 = .ok (.iload 4, 2) := by decide +kernel
theorem dX8_least_22 : decode cX8_least 22 = .ok (.iconst 2, 1) := by decide +kernel
theorem dX8_least_23 : decode cX8_least 23 = .ok (.invokestatic 72, 3) := by decide +kernel
theorem dX8_least_26 : decode cX8_least 26 = .ok (.ifCond .ne 5, 3) := by decide +kernel
theorem dX8_least_29 : decode cX8_least 29 = .ok (.iconst (-1), 1) := by decide +kernel
theorem dX8_least_30 : decode cX8_least 30 = .ok (.ireturn, 1) := by decide +kernel
theorem dX8_least_31 : decode cX8_least 31 = .ok (.aload_n 0, 1) := by decide +kernel
theorem dX8_least_32 : decode cX8_least 32 = .ok (.iload_n 3, 1) := by decide +kernel
theorem dX8_least_33 : decode cX8_least 33 = .ok (.invokevirtual 188, 3) := by decide +kernel
theorem dX8_least_36 : decode cX8_least 36 = .ok (.aload_n 0, 1) := by decide +kernel
theorem dX8_least_37 : decode cX8_least 37 = .ok (.getfield 37, 3) := by decide +kernel
theorem dX8_least_40 : decode cX8_least 40 = .ok (.getfield 128, 3) := by decide +kernel
theorem dX8_least_43 : decode cX8_least 43 = .ok (.iconst (-1), 1) := by decide +kernel
theorem dX8_least_44 : decode cX8_least 44 = .ok (.ixor, 1) := by decide +kernel
theorem dX8_least_45 : decode cX8_least 45 = .ok (.iand, 1) := by decide +kernel
theorem dX8_least_46 : decode cX8_least 46 = .ok (.istore 6, 2) := by decide +kernel
theorem dX8_least_48 : decode cX8_least 48 = .ok (.bipush 11, 2) := by decide +kernel
theorem dX8_least_50 : decode cX8_least 50 = .ok (.istore 7, 2) := by decide +kernel
theorem dX8_least_52 : decode cX8_least 52 = .ok (.bipush (-5), 2) := by decide +kernel
theorem dX8_least_54 : decode cX8_least 54 = .ok (.istore 8, 2) := by decide +kernel
theorem dX8_least_56 : decode cX8_least 56 = .ok (.iconst 0, 1) := by decide +kernel
theorem dX8_least_57 : decode cX8_least 57 = .ok (.istore 9, 2) := by decide +kernel
theorem dX8_least_59 : decode cX8_least 59 = .ok (.iconst 0, 1) := by decide +kernel
theorem dX8_least_60 : decode cX8_least 60 = .ok (.istore 10, 2) := by decide +kernel
theorem dX8_least_62 : decode cX8_least 62 = .ok (.iload 10, 2) := by decide +kernel
theorem dX8_least_64 : decode cX8_least 64 = .ok (.sipush 1024, 3) := by decide +kernel
theorem dX8_least_67 : decode cX8_least 67 = .ok (.if_icmp .ge 93, 3) := by decide +kernel
theorem dX8_least_70 : decode cX8_least 70 = .ok (.iload 10, 2) := by decide +kernel
theorem dX8_least_72 : decode cX8_least 72 = .ok (.invokestatic 191, 3) := by decide +kernel
theorem dX8_least_75 : decode cX8_least 75 = .ok (.istore 11, 2) := by decide +kernel
theorem dX8_least_77 : decode cX8_least 77 = .ok (.iload 10, 2) := by decide +kernel
theorem dX8_least_79 : decode cX8_least 79 = .ok (.iload 6, 2) := by decide +kernel
theorem dX8_least_81 : decode cX8_least 81 = .ok (.iconst (-1), 1) := by decide +kernel
theorem dX8_least_82 : decode cX8_least 82 = .ok (.ixor, 1) := by decide +kernel
theorem dX8_least_83 : decode cX8_least 83 = .ok (.iand, 1) := by decide +kernel
theorem dX8_least_84 : decode cX8_least 84 = .ok (.ifCond .ne 70, 3) := by decide +kernel
theorem dX8_least_87 : decode cX8_least 87 = .ok (.iload 11, 2) := by decide +kernel
theorem dX8_least_89 : decode cX8_least 89 = .ok (.iload 7, 2) := by decide +kernel
theorem dX8_least_91 : decode cX8_least 91 = .ok (.if_icmp .le 6, 3) := by decide +kernel
theorem dX8_least_94 : decode cX8_least 94 = .ok (.goto 60, 3) := by decide +kernel
theorem dX8_least_97 : decode cX8_least 97 = .ok (.aload_n 0, 1) := by decide +kernel
theorem dX8_least_98 : decode cX8_least 98 = .ok (.aload 5, 2) := by decide +kernel
theorem dX8_least_100 : decode cX8_least 100 = .ok (.iload_n 2, 1) := by decide +kernel
theorem dX8_least_101 : decode cX8_least 101 = .ok (.iload_n 3, 1) := by decide +kernel
theorem dX8_least_102 : decode cX8_least 102 = .ok (.aload_n 0, 1) := by decide +kernel
theorem dX8_least_103 : decode cX8_least 103 = .ok (.aload_n 0, 1) := by decide +kernel
theorem dX8_least_104 : decode cX8_least 104 = .ok (.getfield 37, 3) := by decide +kernel
theorem dX8_least_107 : decode cX8_least 107 = .ok (.getfield 128, 3) := by decide +kernel
theorem dX8_least_110 : decode cX8_least 110 = .ok (.iload 10, 2) := by decide +kernel
theorem dX8_least_112 : decode cX8_least 112 = .ok (.ior, 1) := by decide +kernel
theorem dX8_least_113 : decode cX8_least 113 = .ok (.aload_n 0, 1) := by decide +kernel
theorem dX8_least_114 : decode cX8_least 114 = .ok (.getfield 37, 3) := by decide +kernel
theorem dX8_least_117 : decode cX8_least 117 = .ok (.getfield 145, 3) := by decide +kernel
theorem dX8_least_120 : decode cX8_least 120 = .ok (.iconst 0, 1) := by decide +kernel
theorem dX8_least_121 : decode cX8_least 121 = .ok (.invokevirtual 196, 3) := by decide +kernel
theorem dX8_least_124 : decode cX8_least 124 = .ok (.invokevirtual 169, 3) := by decide +kernel
theorem dX8_least_127 : decode cX8_least 127 = .ok (.ifCond .ne 6, 3) := by decide +kernel
theorem dX8_least_130 : decode cX8_least 130 = .ok (.goto 24, 3) := by decide +kernel
theorem dX8_least_133 : decode cX8_least 133 = .ok (.iload 11, 2) := by decide +kernel
theorem dX8_least_135 : decode cX8_least 135 = .ok (.iload 7, 2) := by decide +kernel
theorem dX8_least_137 : decode cX8_least 137 = .ok (.if_icmp .ge 14, 3) := by decide +kernel
theorem dX8_least_140 : decode cX8_least 140 = .ok (.iload 11, 2) := by decide +kernel
theorem dX8_least_142 : decode cX8_least 142 = .ok (.istore 7, 2) := by decide +kernel
theorem dX8_least_144 : decode cX8_least 144 = .ok (.iload 10, 2) := by decide +kernel
theorem dX8_least_146 : decode cX8_least 146 = .ok (.istore 8, 2) := by decide +kernel
theorem dX8_least_148 : decode cX8_least 148 = .ok (.iconst 0, 1) := by decide +kernel
theorem dX8_least_149 : decode cX8_least 149 = .ok (.istore 9, 2) := by decide +kernel
theorem dX8_least_151 : decode cX8_least 151 = .ok (.iinc 9 1, 3) := by decide +kernel
theorem dX8_least_154 : decode cX8_least 154 = .ok (.iinc 10 1, 3) := by decide +kernel
theorem dX8_least_157 : decode cX8_least 157 = .ok (.goto (-95), 3) := by decide +kernel
theorem dX8_least_160 : decode cX8_least 160 = .ok (.iload 4, 2) := by decide +kernel
theorem dX8_least_162 : decode cX8_least 162 = .ok (.ifCond .ne 8, 3) := by decide +kernel
theorem dX8_least_165 : decode cX8_least 165 = .ok (.iload 8, 2) := by decide +kernel
theorem dX8_least_167 : decode cX8_least 167 = .ok (.goto 5, 3) := by decide +kernel
theorem dX8_least_170 : decode cX8_least 170 = .ok (.iload 9, 2) := by decide +kernel
theorem dX8_least_172 : decode cX8_least 172 = .ok (.ireturn, 1) := by decide +kernel
theorem dX8_ends_0 : decode cX8_ends 0 = .ok (.aload_n 0, 1) := by decide +kernel
theorem dX8_ends_1 : decode cX8_ends 1 = .ok (.iload_n 1, 1) := by decide +kernel
theorem dX8_ends_2 : decode cX8_ends 2 = .ok (.invokevirtual 95, 3) := by decide +kernel
theorem dX8_ends_5 : decode cX8_ends 5 = .ok (.astore_n 3, 1) := by decide +kernel
theorem dX8_ends_6 : decode cX8_ends 6 = .ok (.aload_n 3, 1) := by decide +kernel
theorem dX8_ends_7 : decode cX8_ends 7 = .ok (.ifnull 11, 3) := by decide +kernel
theorem dX8_ends_10 : decode cX8_ends 10 = .ok (.iload_n 2, 1) := by decide +kernel
theorem dX8_ends_11 : decode cX8_ends 11 = .ok (.iconst 2, 1) := by decide +kernel
theorem dX8_ends_12 : decode cX8_ends 12 = .ok (.invokestatic 72, 3) := by decide +kernel
theorem dX8_ends_15 : decode cX8_ends 15 = .ok (.ifCond .ne 5, 3) := by decide +kernel
theorem dX8_ends_18 : decode cX8_ends 18 = .ok (.iconst (-1), 1) := by decide +kernel
theorem dX8_ends_19 : decode cX8_ends 19 = .ok (.ireturn, 1) := by decide +kernel
theorem dX8_ends_20 : decode cX8_ends 20 = .ok (.iconst 0, 1) := by decide +kernel
theorem dX8_ends_21 : decode cX8_ends 21 = .ok (.istore 4, 2) := by decide +kernel
theorem dX8_ends_23 : decode cX8_ends 23 = .ok (.iconst 0, 1) := by decide +kernel
theorem dX8_ends_24 : decode cX8_ends 24 = .ok (.istore 5, 2) := by decide +kernel
theorem dX8_ends_26 : decode cX8_ends 26 = .ok (.iload 5, 2) := by decide +kernel
theorem dX8_ends_28 : decode cX8_ends 28 = .ok (.iconst 4, 1) := by decide +kernel
theorem dX8_ends_29 : decode cX8_ends 29 = .ok (.if_icmp .ge 33, 3) := by decide +kernel
theorem dX8_ends_32 : decode cX8_ends 32 = .ok (.aload_n 0, 1) := by decide +kernel
theorem dX8_ends_33 : decode cX8_ends 33 = .ok (.aload_n 3, 1) := by decide +kernel
theorem dX8_ends_34 : decode cX8_ends 34 = .ok (.iload 5, 2) := by decide +kernel
theorem dX8_ends_36 : decode cX8_ends 36 = .ok (.iload_n 2, 1) := by decide +kernel
theorem dX8_ends_37 : decode cX8_ends 37 = .ok (.aload_n 0, 1) := by decide +kernel
theorem dX8_ends_38 : decode cX8_ends 38 = .ok (.getfield 37, 3) := by decide +kernel
theorem dX8_ends_41 : decode cX8_ends 41 = .ok (.invokevirtual 169, 3) := by decide +kernel
theorem dX8_ends_44 : decode cX8_ends 44 = .ok (.ifCond .eq 12, 3) := by decide +kernel
theorem dX8_ends_47 : decode cX8_ends 47 = .ok (.iload 4, 2) := by decide +kernel
theorem dX8_ends_49 : decode cX8_ends 49 = .ok (.iconst 1, 1) := by decide +kernel
theorem dX8_ends_50 : decode cX8_ends 50 = .ok (.iload 5, 2) := by decide +kernel
theorem dX8_ends_52 : decode cX8_ends 52 = .ok (.ishl, 1) := by decide +kernel
theorem dX8_ends_53 : decode cX8_ends 53 = .ok (.ior, 1) := by decide +kernel
theorem dX8_ends_54 : decode cX8_ends 54 = .ok (.istore 4, 2) := by decide +kernel
theorem dX8_ends_56 : decode cX8_ends 56 = .ok (.iinc 5 1, 3) := by decide +kernel
theorem dX8_ends_59 : decode cX8_ends 59 = .ok (.goto (-33), 3) := by decide +kernel
theorem dX8_ends_62 : decode cX8_ends 62 = .ok (.iload 4, 2) := by decide +kernel
theorem dX8_ends_64 : decode cX8_ends 64 = .ok (.ireturn, 1) := by decide +kernel
theorem dX8_cut_0 : decode cX8_cut 0 = .ok (.aload_n 0, 1) := by decide +kernel
theorem dX8_cut_1 : decode cX8_cut 1 = .ok (.iload_n 1, 1) := by decide +kernel
theorem dX8_cut_2 : decode cX8_cut 2 = .ok (.invokevirtual 95, 3) := by decide +kernel
theorem dX8_cut_5 : decode cX8_cut 5 = .ok (.astore 5, 2) := by decide +kernel
theorem dX8_cut_7 : decode cX8_cut 7 = .ok (.aload 5, 2) := by decide +kernel
theorem dX8_cut_9 : decode cX8_cut 9 = .ok (.ifnull 20, 3) := by decide +kernel
theorem dX8_cut_12 : decode cX8_cut 12 = .ok (.iload_n 2, 1) := by decide +kernel
theorem dX8_cut_13 : decode cX8_cut 13 = .ok (.iload_n 3, 1) := by decide +kernel
theorem dX8_cut_14 : decode cX8_cut 14 = .ok (.invokestatic 166, 3) := by decide +kernel
theorem dX8_cut_17 : decode cX8_cut 17 = .ok (.ifCond .eq 12, 3) := by decide +kernel
theorem dX8_cut_20 : decode cX8_cut 20 = .ok (.iload 4, 2) := by decide +kernel
theorem dX8_cut_22 : decode cX8_cut 22 = .ok (.iconst 2, 1) := by decide +kernel
theorem dX8_cut_23 : decode cX8_cut 23 = .ok (.invokestatic 72, 3) := by decide +kernel
theorem dX8_cut_26 : decode cX8_cut 26 = .ok (.ifCond .ne 5, 3) := by decide +kernel
theorem dX8_cut_29 : decode cX8_cut 29 = .ok (.iconst (-1), 1) := by decide +kernel
theorem dX8_cut_30 : decode cX8_cut 30 = .ok (.ireturn, 1) := by decide +kernel
theorem dX8_cut_31 : decode cX8_cut 31 = .ok (.aload_n 0, 1) := by decide +kernel
theorem dX8_cut_32 : decode cX8_cut 32 = .ok (.aload 5, 2) := by decide +kernel
theorem dX8_cut_34 : decode cX8_cut 34 = .ok (.iload_n 2, 1) := by decide +kernel
theorem dX8_cut_35 : decode cX8_cut 35 = .ok (.iload_n 3, 1) := by decide +kernel
theorem dX8_cut_36 : decode cX8_cut 36 = .ok (.aload_n 0, 1) := by decide +kernel
theorem dX8_cut_37 : decode cX8_cut 37 = .ok (.getfield 37, 3) := by decide +kernel
theorem dX8_cut_40 : decode cX8_cut 40 = .ok (.invokevirtual 173, 3) := by decide +kernel
theorem dX8_cut_43 : decode cX8_cut 43 = .ok (.ifCond .lt 6, 3) := by decide +kernel
theorem dX8_cut_46 : decode cX8_cut 46 = .ok (.bipush (-5), 2) := by decide +kernel
theorem dX8_cut_48 : decode cX8_cut 48 = .ok (.ireturn, 1) := by decide +kernel
theorem dX8_cut_49 : decode cX8_cut 49 = .ok (.aload_n 0, 1) := by decide +kernel
theorem dX8_cut_50 : decode cX8_cut 50 = .ok (.aload_n 0, 1) := by decide +kernel
theorem dX8_cut_51 : decode cX8_cut 51 = .ok (.aload 5, 2) := by decide +kernel
theorem dX8_cut_53 : decode cX8_cut 53 = .ok (.getfield 102, 3) := by decide +kernel
theorem dX8_cut_56 : decode cX8_cut 56 = .ok (.invokevirtual 177, 3) := by decide +kernel
theorem dX8_cut_59 : decode cX8_cut 59 = .ok (.iload_n 3, 1) := by decide +kernel
theorem dX8_cut_60 : decode cX8_cut 60 = .ok (.aload_n 0, 1) := by decide +kernel
theorem dX8_cut_61 : decode cX8_cut 61 = .ok (.getfield 37, 3) := by decide +kernel
theorem dX8_cut_64 : decode cX8_cut 64 = .ok (.invokevirtual 180, 3) := by decide +kernel
theorem dX8_cut_67 : decode cX8_cut 67 = .ok (.istore 6, 2) := by decide +kernel
theorem dX8_cut_69 : decode cX8_cut 69 = .ok (.iload_n 2, 1) := by decide +kernel
theorem dX8_cut_70 : decode cX8_cut 70 = .ok (.iconst 1, 1) := by decide +kernel
theorem dX8_cut_71 : decode cX8_cut 71 = .ok (.if_icmp .ne 7, 3) := by decide +kernel
theorem dX8_cut_74 : decode cX8_cut 74 = .ok (.iconst 0, 1) := by decide +kernel
theorem dX8_cut_75 : decode cX8_cut 75 = .ok (.goto 10, 3) := by decide +kernel
theorem dX8_cut_78 : decode cX8_cut 78 = .ok (.aload 5, 2) := by decide +kernel
theorem dX8_cut_80 : decode cX8_cut 80 = .ok (.iload 6, 2) := by decide +kernel
theorem dX8_cut_82 : decode cX8_cut 82 = .ok (.invokestatic 200, 3) := by decide +kernel
theorem dX8_cut_85 : decode cX8_cut 85 = .ok (.istore 7, 2) := by decide +kernel
theorem dX8_cut_87 : decode cX8_cut 87 = .ok (.iload 4, 2) := by decide +kernel
theorem dX8_cut_89 : decode cX8_cut 89 = .ok (.ifCond .ne 8, 3) := by decide +kernel
theorem dX8_cut_92 : decode cX8_cut 92 = .ok (.iload 7, 2) := by decide +kernel
theorem dX8_cut_94 : decode cX8_cut 94 = .ok (.goto 10, 3) := by decide +kernel
theorem dX8_cut_97 : decode cX8_cut 97 = .ok (.aload 5, 2) := by decide +kernel
theorem dX8_cut_99 : decode cX8_cut 99 = .ok (.iload 7, 2) := by decide +kernel
theorem dX8_cut_101 : decode cX8_cut 101 = .ok (.invokevirtual 204, 3) := by decide +kernel
theorem dX8_cut_104 : decode cX8_cut 104 = .ok (.ireturn, 1) := by decide +kernel
theorem dX8_opened_0 : decode cX8_opened 0 = .ok (.aload_n 0, 1) := by decide +kernel
theorem dX8_opened_1 : decode cX8_opened 1 = .ok (.iload_n 1, 1) := by decide +kernel
theorem dX8_opened_2 : decode cX8_opened 2 = .ok (.invokevirtual 95, 3) := by decide +kernel
theorem dX8_opened_5 : decode cX8_opened 5 = .ok (.astore_n 3, 1) := by decide +kernel
theorem dX8_opened_6 : decode cX8_opened 6 = .ok (.aload_n 3, 1) := by decide +kernel
theorem dX8_opened_7 : decode cX8_opened 7 = .ok (.ifnull 11, 3) := by decide +kernel
theorem dX8_opened_10 : decode cX8_opened 10 = .ok (.iload_n 2, 1) := by decide +kernel
theorem dX8_opened_11 : decode cX8_opened 11 = .ok (.iconst 2, 1) := by decide +kernel
theorem dX8_opened_12 : decode cX8_opened 12 = .ok (.invokestatic 72, 3) := by decide +kernel
theorem dX8_opened_15 : decode cX8_opened 15 = .ok (.ifCond .ne 5, 3) := by decide +kernel
theorem dX8_opened_18 : decode cX8_opened 18 = .ok (.iconst (-1), 1) := by decide +kernel
theorem dX8_opened_19 : decode cX8_opened 19 = .ok (.ireturn, 1) := by decide +kernel
theorem dX8_opened_20 : decode cX8_opened 20 = .ok (.aload_n 0, 1) := by decide +kernel
theorem dX8_opened_21 : decode cX8_opened 21 = .ok (.aload_n 0, 1) := by decide +kernel
theorem dX8_opened_22 : decode cX8_opened 22 = .ok (.invokevirtual 207, 3) := by decide +kernel
theorem dX8_opened_25 : decode cX8_opened 25 = .ok (.iload_n 2, 1) := by decide +kernel
theorem dX8_opened_26 : decode cX8_opened 26 = .ok (.aload_n 0, 1) := by decide +kernel
theorem dX8_opened_27 : decode cX8_opened 27 = .ok (.getfield 37, 3) := by decide +kernel
theorem dX8_opened_30 : decode cX8_opened 30 = .ok (.invokevirtual 180, 3) := by decide +kernel
theorem dX8_opened_33 : decode cX8_opened 33 = .ok (.istore 4, 2) := by decide +kernel
theorem dX8_opened_35 : decode cX8_opened 35 = .ok (.iload 4, 2) := by decide +kernel
theorem dX8_opened_37 : decode cX8_opened 37 = .ok (.iload_n 1, 1) := by decide +kernel
theorem dX8_opened_38 : decode cX8_opened 38 = .ok (.invokestatic 105, 3) := by decide +kernel
theorem dX8_opened_41 : decode cX8_opened 41 = .ok (.ifCond .ne 6, 3) := by decide +kernel
theorem dX8_opened_44 : decode cX8_opened 44 = .ok (.bipush (-3), 2) := by decide +kernel
theorem dX8_opened_46 : decode cX8_opened 46 = .ok (.ireturn, 1) := by decide +kernel
theorem dX8_opened_47 : decode cX8_opened 47 = .ok (.aload_n 0, 1) := by decide +kernel
theorem dX8_opened_48 : decode cX8_opened 48 = .ok (.aload_n 0, 1) := by decide +kernel
theorem dX8_opened_49 : decode cX8_opened 49 = .ok (.getfield 37, 3) := by decide +kernel
theorem dX8_opened_52 : decode cX8_opened 52 = .ok (.getfield 128, 3) := by decide +kernel
theorem dX8_opened_55 : decode cX8_opened 55 = .ok (.aload_n 3, 1) := by decide +kernel
theorem dX8_opened_56 : decode cX8_opened 56 = .ok (.getfield 121, 3) := by decide +kernel
theorem dX8_opened_59 : decode cX8_opened 59 = .ok (.ior, 1) := by decide +kernel
theorem dX8_opened_60 : decode cX8_opened 60 = .ok (.aload_n 0, 1) := by decide +kernel
theorem dX8_opened_61 : decode cX8_opened 61 = .ok (.getfield 37, 3) := by decide +kernel
theorem dX8_opened_64 : decode cX8_opened 64 = .ok (.getfield 145, 3) := by decide +kernel
theorem dX8_opened_67 : decode cX8_opened 67 = .ok (.iconst 1, 1) := by decide +kernel
theorem dX8_opened_68 : decode cX8_opened 68 = .ok (.iload_n 1, 1) := by decide +kernel
theorem dX8_opened_69 : decode cX8_opened 69 = .ok (.ishl, 1) := by decide +kernel
theorem dX8_opened_70 : decode cX8_opened 70 = .ok (.invokevirtual 196, 3) := by decide +kernel
theorem dX8_opened_73 : decode cX8_opened 73 = .ok (.astore 5, 2) := by decide +kernel
theorem dX8_opened_75 : decode cX8_opened 75 = .ok (.aload_n 0, 1) := by decide +kernel
theorem dX8_opened_76 : decode cX8_opened 76 = .ok (.aload_n 0, 1) := by decide +kernel
theorem dX8_opened_77 : decode cX8_opened 77 = .ok (.invokevirtual 207, 3) := by decide +kernel
theorem dX8_opened_80 : decode cX8_opened 80 = .ok (.iload_n 2, 1) := by decide +kernel
theorem dX8_opened_81 : decode cX8_opened 81 = .ok (.aload 5, 2) := by decide +kernel
theorem dX8_opened_83 : decode cX8_opened 83 = .ok (.invokevirtual 180, 3) := by decide +kernel
theorem dX8_opened_86 : decode cX8_opened 86 = .ok (.iload 4, 2) := by decide +kernel
theorem dX8_opened_88 : decode cX8_opened 88 = .ok (.iconst (-1), 1) := by decide +kernel
theorem dX8_opened_89 : decode cX8_opened 89 = .ok (.ixor, 1) := by decide +kernel
theorem dX8_opened_90 : decode cX8_opened 90 = .ok (.iand, 1) := by decide +kernel
theorem dX8_opened_91 : decode cX8_opened 91 = .ok (.ireturn, 1) := by decide +kernel
theorem dX8_proved_0 : decode cX8_proved 0 = .ok (.iload_n 1, 1) := by decide +kernel
theorem dX8_proved_1 : decode cX8_proved 1 = .ok (.iconst 2, 1) := by decide +kernel
theorem dX8_proved_2 : decode cX8_proved 2 = .ok (.invokestatic 72, 3) := by decide +kernel
theorem dX8_proved_5 : decode cX8_proved 5 = .ok (.ifCond .ne 5, 3) := by decide +kernel
theorem dX8_proved_8 : decode cX8_proved 8 = .ok (.iconst (-1), 1) := by decide +kernel
theorem dX8_proved_9 : decode cX8_proved 9 = .ok (.ireturn, 1) := by decide +kernel
theorem dX8_proved_10 : decode cX8_proved 10 = .ok (.aload_n 0, 1) := by decide +kernel
theorem dX8_proved_11 : decode cX8_proved 11 = .ok (.iconst 0, 1) := by decide +kernel
theorem dX8_proved_12 : decode cX8_proved 12 = .ok (.iload_n 1, 1) := by decide +kernel
theorem dX8_proved_13 : decode cX8_proved 13 = .ok (.invokevirtual 210, 3) := by decide +kernel
theorem dX8_proved_16 : decode cX8_proved 16 = .ok (.ireturn, 1) := by decide +kernel
theorem dX8_needed_0 : decode cX8_needed 0 = .ok (.iload_n 2, 1) := by decide +kernel
theorem dX8_needed_1 : decode cX8_needed 1 = .ok (.iconst 2, 1) := by decide +kernel
theorem dX8_needed_2 : decode cX8_needed 2 = .ok (.invokestatic 72, 3) := by decide +kernel
theorem dX8_needed_5 : decode cX8_needed 5 = .ok (.ifCond .ne 5, 3) := by decide +kernel
theorem dX8_needed_8 : decode cX8_needed 8 = .ok (.iconst (-1), 1) := by decide +kernel
theorem dX8_needed_9 : decode cX8_needed 9 = .ok (.ireturn, 1) := by decide +kernel
theorem dX8_needed_10 : decode cX8_needed 10 = .ok (.iload_n 1, 1) := by decide +kernel
theorem dX8_needed_11 : decode cX8_needed 11 = .ok (.sipush 1024, 3) := by decide +kernel
theorem dX8_needed_14 : decode cX8_needed 14 = .ok (.invokestatic 72, 3) := by decide +kernel
theorem dX8_needed_17 : decode cX8_needed 17 = .ok (.ifCond .ne 6, 3) := by decide +kernel
theorem dX8_needed_20 : decode cX8_needed 20 = .ok (.bipush (-2), 2) := by decide +kernel
theorem dX8_needed_22 : decode cX8_needed 22 = .ok (.ireturn, 1) := by decide +kernel
theorem dX8_needed_23 : decode cX8_needed 23 = .ok (.iload_n 1, 1) := by decide +kernel
theorem dX8_needed_24 : decode cX8_needed 24 = .ok (.aload_n 0, 1) := by decide +kernel
theorem dX8_needed_25 : decode cX8_needed 25 = .ok (.iconst 0, 1) := by decide +kernel
theorem dX8_needed_26 : decode cX8_needed 26 = .ok (.iload_n 2, 1) := by decide +kernel
theorem dX8_needed_27 : decode cX8_needed 27 = .ok (.invokevirtual 210, 3) := by decide +kernel
theorem dX8_needed_30 : decode cX8_needed 30 = .ok (.iconst (-1), 1) := by decide +kernel
theorem dX8_needed_31 : decode cX8_needed 31 = .ok (.ixor, 1) := by decide +kernel
theorem dX8_needed_32 : decode cX8_needed 32 = .ok (.iand, 1) := by decide +kernel
theorem dX8_needed_33 : decode cX8_needed 33 = .ok (.ifCond .eq 6, 3) := by decide +kernel
theorem dX8_needed_36 : decode cX8_needed 36 = .ok (.bipush (-5), 2) := by decide +kernel
theorem dX8_needed_38 : decode cX8_needed 38 = .ok (.ireturn, 1) := by decide +kernel
theorem dX8_needed_39 : decode cX8_needed 39 = .ok (.iconst 0, 1) := by decide +kernel
theorem dX8_needed_40 : decode cX8_needed 40 = .ok (.istore_n 3, 1) := by decide +kernel
theorem dX8_needed_41 : decode cX8_needed 41 = .ok (.iconst 0, 1) := by decide +kernel
theorem dX8_needed_42 : decode cX8_needed 42 = .ok (.istore 4, 2) := by decide +kernel
theorem dX8_needed_44 : decode cX8_needed 44 = .ok (.iload 4, 2) := by decide +kernel
theorem dX8_needed_46 : decode cX8_needed 46 = .ok (.aload_n 0, 1) := by decide +kernel
theorem dX8_needed_47 : decode cX8_needed 47 = .ok (.getfield 20, 3) := by decide +kernel
theorem dX8_needed_50 : decode cX8_needed 50 = .ok (.invokevirtual 80, 3) := by decide +kernel
theorem dX8_needed_53 : decode cX8_needed 53 = .ok (.if_icmp .ge 32, 3) := by decide +kernel
theorem dX8_needed_56 : decode cX8_needed 56 = .ok (.iload_n 1, 1) := by decide +kernel
theorem dX8_needed_57 : decode cX8_needed 57 = .ok (.aload_n 0, 1) := by decide +kernel
theorem dX8_needed_58 : decode cX8_needed 58 = .ok (.iconst 1, 1) := by decide +kernel
theorem dX8_needed_59 : decode cX8_needed 59 = .ok (.iload 4, 2) := by decide +kernel
theorem dX8_needed_61 : decode cX8_needed 61 = .ok (.ishl, 1) := by decide +kernel
theorem dX8_needed_62 : decode cX8_needed 62 = .ok (.iload_n 2, 1) := by decide +kernel
theorem dX8_needed_63 : decode cX8_needed 63 = .ok (.invokevirtual 210, 3) := by decide +kernel
theorem dX8_needed_66 : decode cX8_needed 66 = .ok (.iconst (-1), 1) := by decide +kernel
theorem dX8_needed_67 : decode cX8_needed 67 = .ok (.ixor, 1) := by decide +kernel
theorem dX8_needed_68 : decode cX8_needed 68 = .ok (.iand, 1) := by decide +kernel
theorem dX8_needed_69 : decode cX8_needed 69 = .ok (.ifCond .eq 10, 3) := by decide +kernel
theorem dX8_needed_72 : decode cX8_needed 72 = .ok (.iload_n 3, 1) := by decide +kernel
theorem dX8_needed_73 : decode cX8_needed 73 = .ok (.iconst 1, 1) := by decide +kernel
theorem dX8_needed_74 : decode cX8_needed 74 = .ok (.iload 4, 2) := by decide +kernel
theorem dX8_needed_76 : decode cX8_needed 76 = .ok (.ishl, 1) := by decide +kernel
theorem dX8_needed_77 : decode cX8_needed 77 = .ok (.ior, 1) := by decide +kernel
theorem dX8_needed_78 : decode cX8_needed 78 = .ok (.istore_n 3, 1) := by decide +kernel
theorem dX8_needed_79 : decode cX8_needed 79 = .ok (.iinc 4 1, 3) := by decide +kernel
theorem dX8_needed_82 : decode cX8_needed 82 = .ok (.goto (-38), 3) := by decide +kernel
theorem dX8_needed_85 : decode cX8_needed 85 = .ok (.iload_n 3, 1) := by decide +kernel
theorem dX8_needed_86 : decode cX8_needed 86 = .ok (.ireturn, 1) := by decide +kernel
theorem dX8_plan_0 : decode cX8_plan 0 = .ok (.iload_n 2, 1) := by decide +kernel
theorem dX8_plan_1 : decode cX8_plan 1 = .ok (.iconst 2, 1) := by decide +kernel
theorem dX8_plan_2 : decode cX8_plan 2 = .ok (.invokestatic 72, 3) := by decide +kernel
theorem dX8_plan_5 : decode cX8_plan 5 = .ok (.ifCond .eq 8, 3) := by decide +kernel
theorem dX8_plan_8 : decode cX8_plan 8 = .ok (.iload_n 3, 1) := by decide +kernel
theorem dX8_plan_9 : decode cX8_plan 9 = .ok (.iconst (-1), 1) := by decide +kernel
theorem dX8_plan_10 : decode cX8_plan 10 = .ok (.if_icmp .ge 5, 3) := by decide +kernel
theorem dX8_plan_13 : decode cX8_plan 13 = .ok (.iconst (-1), 1) := by decide +kernel
theorem dX8_plan_14 : decode cX8_plan 14 = .ok (.ireturn, 1) := by decide +kernel
theorem dX8_plan_15 : decode cX8_plan 15 = .ok (.iload_n 1, 1) := by decide +kernel
theorem dX8_plan_16 : decode cX8_plan 16 = .ok (.invokestatic 191, 3) := by decide +kernel
theorem dX8_plan_19 : decode cX8_plan 19 = .ok (.istore 4, 2) := by decide +kernel
theorem dX8_plan_21 : decode cX8_plan 21 = .ok (.iload_n 1, 1) := by decide +kernel
theorem dX8_plan_22 : decode cX8_plan 22 = .ok (.ifCond .eq 20, 3) := by decide +kernel
theorem dX8_plan_25 : decode cX8_plan 25 = .ok (.iload_n 1, 1) := by decide +kernel
theorem dX8_plan_26 : decode cX8_plan 26 = .ok (.aload_n 0, 1) := by decide +kernel
theorem dX8_plan_27 : decode cX8_plan 27 = .ok (.invokevirtual 207, 3) := by decide +kernel
theorem dX8_plan_30 : decode cX8_plan 30 = .ok (.iconst (-1), 1) := by decide +kernel
theorem dX8_plan_31 : decode cX8_plan 31 = .ok (.ixor, 1) := by decide +kernel
theorem dX8_plan_32 : decode cX8_plan 32 = .ok (.iand, 1) := by decide +kernel
theorem dX8_plan_33 : decode cX8_plan 33 = .ok (.ifCond .ne 9, 3) := by decide +kernel
theorem dX8_plan_36 : decode cX8_plan 36 = .ok (.iload 4, 2) := by decide +kernel
theorem dX8_plan_38 : decode cX8_plan 38 = .ok (.iconst 5, 1) := by decide +kernel
theorem dX8_plan_39 : decode cX8_plan 39 = .ok (.if_icmp .le 6, 3) := by decide +kernel
theorem dX8_plan_42 : decode cX8_plan 42 = .ok (.bipush (-2), 2) := by decide +kernel
theorem dX8_plan_44 : decode cX8_plan 44 = .ok (.ireturn, 1) := by decide +kernel
theorem dX8_plan_45 : decode cX8_plan 45 = .ok (.aload_n 0, 1) := by decide +kernel
theorem dX8_plan_46 : decode cX8_plan 46 = .ok (.iload_n 1, 1) := by decide +kernel
theorem dX8_plan_47 : decode cX8_plan 47 = .ok (.iload_n 2, 1) := by decide +kernel
theorem dX8_plan_48 : decode cX8_plan 48 = .ok (.invokevirtual 214, 3) := by decide +kernel
theorem dX8_plan_51 : decode cX8_plan 51 = .ok (.istore 5, 2) := by decide +kernel
theorem dX8_plan_53 : decode cX8_plan 53 = .ok (.iload_n 3, 1) := by decide +kernel
theorem dX8_plan_54 : decode cX8_plan 54 = .ok (.ifCond .ge 14, 3) := by decide +kernel
theorem dX8_plan_57 : decode cX8_plan 57 = .ok (.iload 5, 2) := by decide +kernel
theorem dX8_plan_59 : decode cX8_plan 59 = .ok (.ifCond .eq 7, 3) := by decide +kernel
theorem dX8_plan_62 : decode cX8_plan 62 = .ok (.iconst 1, 1) := by decide +kernel
theorem dX8_plan_63 : decode cX8_plan 63 = .ok (.goto 4, 3) := by decide +kernel
theorem dX8_plan_66 : decode cX8_plan 66 = .ok (.iconst 0, 1) := by decide +kernel
theorem dX8_plan_67 : decode cX8_plan 67 = .ok (.ireturn, 1) := by decide +kernel
theorem dX8_plan_68 : decode cX8_plan 68 = .ok (.iload 5, 2) := by decide +kernel
theorem dX8_plan_70 : decode cX8_plan 70 = .ok (.ifCond .eq 18, 3) := by decide +kernel
theorem dX8_plan_73 : decode cX8_plan 73 = .ok (.iload_n 3, 1) := by decide +kernel
theorem dX8_plan_74 : decode cX8_plan 74 = .ok (.iload 4, 2) := by decide +kernel
theorem dX8_plan_76 : decode cX8_plan 76 = .ok (.if_icmp .ge 12, 3) := by decide +kernel
theorem dX8_plan_79 : decode cX8_plan 79 = .ok (.aload_n 0, 1) := by decide +kernel
theorem dX8_plan_80 : decode cX8_plan 80 = .ok (.iload_n 1, 1) := by decide +kernel
theorem dX8_plan_81 : decode cX8_plan 81 = .ok (.iload_n 3, 1) := by decide +kernel
theorem dX8_plan_82 : decode cX8_plan 82 = .ok (.invokevirtual 217, 3) := by decide +kernel
theorem dX8_plan_85 : decode cX8_plan 85 = .ok (.goto 4, 3) := by decide +kernel
theorem dX8_plan_88 : decode cX8_plan 88 = .ok (.iconst (-1), 1) := by decide +kernel
theorem dX8_plan_89 : decode cX8_plan 89 = .ok (.ireturn, 1) := by decide +kernel
theorem dX8_clash_0 : decode cX8_clash 0 = .ok (.aload_n 0, 1) := by decide +kernel
theorem dX8_clash_1 : decode cX8_clash 1 = .ok (.iload_n 1, 1) := by decide +kernel
theorem dX8_clash_2 : decode cX8_clash 2 = .ok (.invokevirtual 95, 3) := by decide +kernel
theorem dX8_clash_5 : decode cX8_clash 5 = .ok (.astore 4, 2) := by decide +kernel
theorem dX8_clash_7 : decode cX8_clash 7 = .ok (.aload 4, 2) := by decide +kernel
theorem dX8_clash_9 : decode cX8_clash 9 = .ok (.ifnull 11, 3) := by decide +kernel
theorem dX8_clash_12 : decode cX8_clash 12 = .ok (.iload_n 2, 1) := by decide +kernel
theorem dX8_clash_13 : decode cX8_clash 13 = .ok (.iload_n 3, 1) := by decide +kernel
theorem dX8_clash_14 : decode cX8_clash 14 = .ok (.invokestatic 166, 3) := by decide +kernel
theorem dX8_clash_17 : decode cX8_clash 17 = .ok (.ifCond .ne 5, 3) := by decide +kernel
theorem dX8_clash_20 : decode cX8_clash 20 = .ok (.iconst (-1), 1) := by decide +kernel
theorem dX8_clash_21 : decode cX8_clash 21 = .ok (.ireturn, 1) := by decide +kernel
theorem dX8_clash_22 : decode cX8_clash 22 = .ok (.iconst 0, 1) := by decide +kernel
theorem dX8_clash_23 : decode cX8_clash 23 = .ok (.istore 5, 2) := by decide +kernel
theorem dX8_clash_25 : decode cX8_clash 25 = .ok (.iconst 0, 1) := by decide +kernel
theorem dX8_clash_26 : decode cX8_clash 26 = .ok (.istore 6, 2) := by decide +kernel
theorem dX8_clash_28 : decode cX8_clash 28 = .ok (.iconst 0, 1) := by decide +kernel
theorem dX8_clash_29 : decode cX8_clash 29 = .ok (.istore 7, 2) := by decide +kernel
theorem dX8_clash_31 : decode cX8_clash 31 = .ok (.iload 7, 2) := by decide +kernel
theorem dX8_clash_33 : decode cX8_clash 33 = .ok (.aload_n 0, 1) := by decide +kernel
theorem dX8_clash_34 : decode cX8_clash 34 = .ok (.getfield 24, 3) := by decide +kernel
theorem dX8_clash_37 : decode cX8_clash 37 = .ok (.invokevirtual 80, 3) := by decide +kernel
theorem dX8_clash_40 : decode cX8_clash 40 = .ok (.if_icmp .ge 83, 3) := by decide +kernel
theorem dX8_clash_43 : decode cX8_clash 43 = .ok (.aload_n 0, 1) := by decide +kernel
theorem dX8_clash_44 : decode cX8_clash 44 = .ok (.getfield 24, 3) := by decide +kernel
theorem dX8_clash_47 : decode cX8_clash 47 = .ok (.iload 7, 2) := by decide +kernel
theorem dX8_clash_49 : decode cX8_clash 49 = .ok (.invokevirtual 220, 3) := by decide +kernel
theorem dX8_clash_52 : decode cX8_clash 52 = .ok (.checkcast 153, 3) := by decide +kernel
theorem dX8_clash_55 : decode cX8_clash 55 = .ok (.astore 8, 2) := by decide +kernel
theorem dX8_clash_57 : decode cX8_clash 57 = .ok (.aload 8, 2) := by decide +kernel
theorem dX8_clash_59 : decode cX8_clash 59 = .ok (.getfield 224, 3) := by decide +kernel
theorem dX8_clash_62 : decode cX8_clash 62 = .ok (.iload_n 3, 1) := by decide +kernel
theorem dX8_clash_63 : decode cX8_clash 63 = .ok (.if_icmp .eq 6, 3) := by decide +kernel
theorem dX8_clash_66 : decode cX8_clash 66 = .ok (.goto 51, 3) := by decide +kernel
theorem dX8_clash_69 : decode cX8_clash 69 = .ok (.aload 8, 2) := by decide +kernel
theorem dX8_clash_71 : decode cX8_clash 71 = .ok (.aload 4, 2) := by decide +kernel
theorem dX8_clash_73 : decode cX8_clash 73 = .ok (.iload_n 2, 1) := by decide +kernel
theorem dX8_clash_74 : decode cX8_clash 74 = .ok (.aload_n 0, 1) := by decide +kernel
theorem dX8_clash_75 : decode cX8_clash 75 = .ok (.getfield 37, 3) := by decide +kernel
theorem dX8_clash_78 : decode cX8_clash 78 = .ok (.invokevirtual 152, 3) := by decide +kernel
theorem dX8_clash_81 : decode cX8_clash 81 = .ok (.istore 9, 2) := by decide +kernel
theorem dX8_clash_83 : decode cX8_clash 83 = .ok (.aload 8, 2) := by decide +kernel
theorem dX8_clash_85 : decode cX8_clash 85 = .ok (.iload 9, 2) := by decide +kernel
theorem dX8_clash_87 : decode cX8_clash 87 = .ok (.aload_n 0, 1) := by decide +kernel
theorem dX8_clash_88 : decode cX8_clash 88 = .ok (.getfield 37, 3) := by decide +kernel
theorem dX8_clash_91 : decode cX8_clash 91 = .ok (.invokevirtual 158, 3) := by decide +kernel
theorem dX8_clash_94 : decode cX8_clash 94 = .ok (.ifCond .eq 9, 3) := by decide +kernel
theorem dX8_clash_97 : decode cX8_clash 97 = .ok (.iinc 5 1, 3) := by decide +kernel
theorem dX8_clash_100 : decode cX8_clash 100 = .ok (.goto 17, 3) := by decide +kernel
theorem dX8_clash_103 : decode cX8_clash 103 = .ok (.iload 9, 2) := by decide +kernel
theorem dX8_clash_105 : decode cX8_clash 105 = .ok (.aload 8, 2) := by decide +kernel
theorem dX8_clash_107 : decode cX8_clash 107 = .ok (.getfield 227, 3) := by decide +kernel
theorem dX8_clash_110 : decode cX8_clash 110 = .ok (.iand, 1) := by decide +kernel
theorem dX8_clash_111 : decode cX8_clash 111 = .ok (.ifCond .eq 6, 3) := by decide +kernel
theorem dX8_clash_114 : decode cX8_clash 114 = .ok (.iinc 6 1, 3) := by decide +kernel
theorem dX8_clash_117 : decode cX8_clash 117 = .ok (.iinc 7 1, 3) := by decide +kernel
theorem dX8_clash_120 : decode cX8_clash 120 = .ok (.goto (-89), 3) := by decide +kernel
theorem dX8_clash_123 : decode cX8_clash 123 = .ok (.iload 5, 2) := by decide +kernel
theorem dX8_clash_125 : decode cX8_clash 125 = .ok (.iload 6, 2) := by decide +kernel
theorem dX8_clash_127 : decode cX8_clash 127 = .ok (.imul, 1) := by decide +kernel
theorem dX8_clash_128 : decode cX8_clash 128 = .ok (.ireturn, 1) := by decide +kernel
theorem dX8_silent_0 : decode cX8_silent 0 = .ok (.iload_n 1, 1) := by decide +kernel
theorem dX8_silent_1 : decode cX8_silent 1 = .ok (.iload_n 2, 1) := by decide +kernel
theorem dX8_silent_2 : decode cX8_silent 2 = .ok (.invokestatic 166, 3) := by decide +kernel
theorem dX8_silent_5 : decode cX8_silent 5 = .ok (.ifCond .ne 5, 3) := by decide +kernel
theorem dX8_silent_8 : decode cX8_silent 8 = .ok (.iconst (-1), 1) := by decide +kernel
theorem dX8_silent_9 : decode cX8_silent 9 = .ok (.ireturn, 1) := by decide +kernel
theorem dX8_silent_10 : decode cX8_silent 10 = .ok (.iconst 0, 1) := by decide +kernel
theorem dX8_silent_11 : decode cX8_silent 11 = .ok (.istore_n 3, 1) := by decide +kernel
theorem dX8_silent_12 : decode cX8_silent 12 = .ok (.iconst 0, 1) := by decide +kernel
theorem dX8_silent_13 : decode cX8_silent 13 = .ok (.istore 4, 2) := by decide +kernel
theorem dX8_silent_15 : decode cX8_silent 15 = .ok (.iload 4, 2) := by decide +kernel
theorem dX8_silent_17 : decode cX8_silent 17 = .ok (.aload_n 0, 1) := by decide +kernel
theorem dX8_silent_18 : decode cX8_silent 18 = .ok (.getfield 20, 3) := by decide +kernel
theorem dX8_silent_21 : decode cX8_silent 21 = .ok (.invokevirtual 80, 3) := by decide +kernel
theorem dX8_silent_24 : decode cX8_silent 24 = .ok (.if_icmp .ge 37, 3) := by decide +kernel
theorem dX8_silent_27 : decode cX8_silent 27 = .ok (.aload_n 0, 1) := by decide +kernel
theorem dX8_silent_28 : decode cX8_silent 28 = .ok (.aload_n 0, 1) := by decide +kernel
theorem dX8_silent_29 : decode cX8_silent 29 = .ok (.getfield 20, 3) := by decide +kernel
theorem dX8_silent_32 : decode cX8_silent 32 = .ok (.iload 4, 2) := by decide +kernel
theorem dX8_silent_34 : decode cX8_silent 34 = .ok (.invokevirtual 220, 3) := by decide +kernel
theorem dX8_silent_37 : decode cX8_silent 37 = .ok (.checkcast 84, 3) := by decide +kernel
theorem dX8_silent_40 : decode cX8_silent 40 = .ok (.iload_n 1, 1) := by decide +kernel
theorem dX8_silent_41 : decode cX8_silent 41 = .ok (.iload_n 2, 1) := by decide +kernel
theorem dX8_silent_42 : decode cX8_silent 42 = .ok (.invokevirtual 230, 3) := by decide +kernel
theorem dX8_silent_45 : decode cX8_silent 45 = .ok (.ifCond .ne 10, 3) := by decide +kernel
theorem dX8_silent_48 : decode cX8_silent 48 = .ok (.iload_n 3, 1) := by decide +kernel
theorem dX8_silent_49 : decode cX8_silent 49 = .ok (.iconst 1, 1) := by decide +kernel
theorem dX8_silent_50 : decode cX8_silent 50 = .ok (.iload 4, 2) := by decide +kernel
theorem dX8_silent_52 : decode cX8_silent 52 = .ok (.ishl, 1) := by decide +kernel
theorem dX8_silent_53 : decode cX8_silent 53 = .ok (.ior, 1) := by decide +kernel
theorem dX8_silent_54 : decode cX8_silent 54 = .ok (.istore_n 3, 1) := by decide +kernel
theorem dX8_silent_55 : decode cX8_silent 55 = .ok (.iinc 4 1, 3) := by decide +kernel
theorem dX8_silent_58 : decode cX8_silent 58 = .ok (.goto (-43), 3) := by decide +kernel
theorem dX8_silent_61 : decode cX8_silent 61 = .ok (.iload_n 3, 1) := by decide +kernel
theorem dX8_silent_62 : decode cX8_silent 62 = .ok (.ireturn, 1) := by decide +kernel
theorem dX8_hangs_0 : decode cX8_hangs 0 = .ok (.aload_n 0, 1) := by decide +kernel
theorem dX8_hangs_1 : decode cX8_hangs 1 = .ok (.iload_n 1, 1) := by decide +kernel
theorem dX8_hangs_2 : decode cX8_hangs 2 = .ok (.invokevirtual 148, 3) := by decide +kernel
theorem dX8_hangs_5 : decode cX8_hangs 5 = .ok (.astore_n 2, 1) := by decide +kernel
theorem dX8_hangs_6 : decode cX8_hangs 6 = .ok (.aload_n 2, 1) := by decide +kernel
theorem dX8_hangs_7 : decode cX8_hangs 7 = .ok (.ifnonnull 7, 3) := by decide +kernel
theorem dX8_hangs_10 : decode cX8_hangs 10 = .ok (.iconst (-1), 1) := by decide +kernel
theorem dX8_hangs_11 : decode cX8_hangs 11 = .ok (.goto 8, 3) := by decide +kernel
theorem dX8_hangs_14 : decode cX8_hangs 14 = .ok (.aload_n 0, 1) := by decide +kernel
theorem dX8_hangs_15 : decode cX8_hangs 15 = .ok (.aload_n 2, 1) := by decide +kernel
theorem dX8_hangs_16 : decode cX8_hangs 16 = .ok (.invokevirtual 234, 3) := by decide +kernel
theorem dX8_hangs_19 : decode cX8_hangs 19 = .ok (.ireturn, 1) := by decide +kernel
theorem dX8_most_0 : decode cX8_most 0 = .ok (.bipush (-5), 2) := by decide +kernel
theorem dX8_most_2 : decode cX8_most 2 = .ok (.istore_n 1, 1) := by decide +kernel
theorem dX8_most_3 : decode cX8_most 3 = .ok (.iconst (-1), 1) := by decide +kernel
theorem dX8_most_4 : decode cX8_most 4 = .ok (.istore_n 2, 1) := by decide +kernel
theorem dX8_most_5 : decode cX8_most 5 = .ok (.iconst 0, 1) := by decide +kernel
theorem dX8_most_6 : decode cX8_most 6 = .ok (.istore_n 3, 1) := by decide +kernel
theorem dX8_most_7 : decode cX8_most 7 = .ok (.iload_n 3, 1) := by decide +kernel
theorem dX8_most_8 : decode cX8_most 8 = .ok (.aload_n 0, 1) := by decide +kernel
theorem dX8_most_9 : decode cX8_most 9 = .ok (.getfield 24, 3) := by decide +kernel
theorem dX8_most_12 : decode cX8_most 12 = .ok (.invokevirtual 80, 3) := by decide +kernel
theorem dX8_most_15 : decode cX8_most 15 = .ok (.if_icmp .ge 37, 3) := by decide +kernel
theorem dX8_most_18 : decode cX8_most 18 = .ok (.aload_n 0, 1) := by decide +kernel
theorem dX8_most_19 : decode cX8_most 19 = .ok (.aload_n 0, 1) := by decide +kernel
theorem dX8_most_20 : decode cX8_most 20 = .ok (.getfield 24, 3) := by decide +kernel
theorem dX8_most_23 : decode cX8_most 23 = .ok (.iload_n 3, 1) := by decide +kernel
theorem dX8_most_24 : decode cX8_most 24 = .ok (.invokevirtual 220, 3) := by decide +kernel
theorem dX8_most_27 : decode cX8_most 27 = .ok (.checkcast 153, 3) := by decide +kernel
theorem dX8_most_30 : decode cX8_most 30 = .ok (.invokevirtual 234, 3) := by decide +kernel
theorem dX8_most_33 : decode cX8_most 33 = .ok (.istore 4, 2) := by decide +kernel
theorem dX8_most_35 : decode cX8_most 35 = .ok (.iload 4, 2) := by decide +kernel
theorem dX8_most_37 : decode cX8_most 37 = .ok (.iload_n 2, 1) := by decide +kernel
theorem dX8_most_38 : decode cX8_most 38 = .ok (.if_icmp .le 8, 3) := by decide +kernel
theorem dX8_most_41 : decode cX8_most 41 = .ok (.iload 4, 2) := by decide +kernel
theorem dX8_most_43 : decode cX8_most 43 = .ok (.istore_n 2, 1) := by decide +kernel
theorem dX8_most_44 : decode cX8_most 44 = .ok (.iload_n 3, 1) := by decide +kernel
theorem dX8_most_45 : decode cX8_most 45 = .ok (.istore_n 1, 1) := by decide +kernel
theorem dX8_most_46 : decode cX8_most 46 = .ok (.iinc 3 1, 3) := by decide +kernel
theorem dX8_most_49 : decode cX8_most 49 = .ok (.goto (-42), 3) := by decide +kernel
theorem dX8_most_52 : decode cX8_most 52 = .ok (.iload_n 1, 1) := by decide +kernel
theorem dX8_most_53 : decode cX8_most 53 = .ok (.ireturn, 1) := by decide +kernel
theorem dX8_beside_0 : decode cX8_beside 0 = .ok (.iload_n 1, 1) := by decide +kernel
theorem dX8_beside_1 : decode cX8_beside 1 = .ok (.iconst 4, 1) := by decide +kernel
theorem dX8_beside_2 : decode cX8_beside 2 = .ok (.invokestatic 72, 3) := by decide +kernel
theorem dX8_beside_5 : decode cX8_beside 5 = .ok (.ifCond .eq 11, 3) := by decide +kernel
theorem dX8_beside_8 : decode cX8_beside 8 = .ok (.iload_n 2, 1) := by decide +kernel
theorem dX8_beside_9 : decode cX8_beside 9 = .ok (.iconst 3, 1) := by decide +kernel
theorem dX8_beside_10 : decode cX8_beside 10 = .ok (.invokestatic 72, 3) := by decide +kernel
theorem dX8_beside_13 : decode cX8_beside 13 = .ok (.ifCond .ne 5, 3) := by decide +kernel
theorem dX8_beside_16 : decode cX8_beside 16 = .ok (.iconst (-1), 1) := by decide +kernel
theorem dX8_beside_17 : decode cX8_beside 17 = .ok (.ireturn, 1) := by decide +kernel
theorem dX8_beside_18 : decode cX8_beside 18 = .ok (.aload_n 0, 1) := by decide +kernel
theorem dX8_beside_19 : decode cX8_beside 19 = .ok (.iload_n 1, 1) := by decide +kernel
theorem dX8_beside_20 : decode cX8_beside 20 = .ok (.iconst 0, 1) := by decide +kernel
theorem dX8_beside_21 : decode cX8_beside 21 = .ok (.aload_n 0, 1) := by decide +kernel
theorem dX8_beside_22 : decode cX8_beside 22 = .ok (.getfield 37, 3) := by decide +kernel
theorem dX8_beside_25 : decode cX8_beside 25 = .ok (.aload_n 0, 1) := by decide +kernel
theorem dX8_beside_26 : decode cX8_beside 26 = .ok (.aload_n 0, 1) := by decide +kernel
theorem dX8_beside_27 : decode cX8_beside 27 = .ok (.invokevirtual 207, 3) := by decide +kernel
theorem dX8_beside_30 : decode cX8_beside 30 = .ok (.iconst 0, 1) := by decide +kernel
theorem dX8_beside_31 : decode cX8_beside 31 = .ok (.aload_n 0, 1) := by decide +kernel
theorem dX8_beside_32 : decode cX8_beside 32 = .ok (.getfield 37, 3) := by decide +kernel
theorem dX8_beside_35 : decode cX8_beside 35 = .ok (.invokevirtual 180, 3) := by decide +kernel
theorem dX8_beside_38 : decode cX8_beside 38 = .ok (.invokevirtual 238, 3) := by decide +kernel
theorem dX8_beside_41 : decode cX8_beside 41 = .ok (.istore_n 3, 1) := by decide +kernel
theorem dX8_beside_42 : decode cX8_beside 42 = .ok (.aload_n 0, 1) := by decide +kernel
theorem dX8_beside_43 : decode cX8_beside 43 = .ok (.iload_n 1, 1) := by decide +kernel
theorem dX8_beside_44 : decode cX8_beside 44 = .ok (.iconst 1, 1) := by decide +kernel
theorem dX8_beside_45 : decode cX8_beside 45 = .ok (.aload_n 0, 1) := by decide +kernel
theorem dX8_beside_46 : decode cX8_beside 46 = .ok (.getfield 37, 3) := by decide +kernel
theorem dX8_beside_49 : decode cX8_beside 49 = .ok (.aload_n 0, 1) := by decide +kernel
theorem dX8_beside_50 : decode cX8_beside 50 = .ok (.aload_n 0, 1) := by decide +kernel
theorem dX8_beside_51 : decode cX8_beside 51 = .ok (.invokevirtual 207, 3) := by decide +kernel
theorem dX8_beside_54 : decode cX8_beside 54 = .ok (.iconst 1, 1) := by decide +kernel
theorem dX8_beside_55 : decode cX8_beside 55 = .ok (.aload_n 0, 1) := by decide +kernel
theorem dX8_beside_56 : decode cX8_beside 56 = .ok (.getfield 37, 3) := by decide +kernel
theorem dX8_beside_59 : decode cX8_beside 59 = .ok (.invokevirtual 180, 3) := by decide +kernel
theorem dX8_beside_62 : decode cX8_beside 62 = .ok (.invokevirtual 238, 3) := by decide +kernel
theorem dX8_beside_65 : decode cX8_beside 65 = .ok (.istore 4, 2) := by decide +kernel
theorem dX8_beside_67 : decode cX8_beside 67 = .ok (.iload_n 2, 1) := by decide +kernel
theorem dX8_beside_68 : decode cX8_beside 68 = .ok (.ifCond .ne 10, 3) := by decide +kernel
theorem dX8_beside_71 : decode cX8_beside 71 = .ok (.iload_n 3, 1) := by decide +kernel
theorem dX8_beside_72 : decode cX8_beside 72 = .ok (.iload 4, 2) := by decide +kernel
theorem dX8_beside_74 : decode cX8_beside 74 = .ok (.iconst (-1), 1) := by decide +kernel
theorem dX8_beside_75 : decode cX8_beside 75 = .ok (.ixor, 1) := by decide +kernel
theorem dX8_beside_76 : decode cX8_beside 76 = .ok (.iand, 1) := by decide +kernel
theorem dX8_beside_77 : decode cX8_beside 77 = .ok (.ireturn, 1) := by decide +kernel
theorem dX8_beside_78 : decode cX8_beside 78 = .ok (.iload_n 2, 1) := by decide +kernel
theorem dX8_beside_79 : decode cX8_beside 79 = .ok (.iconst 1, 1) := by decide +kernel
theorem dX8_beside_80 : decode cX8_beside 80 = .ok (.if_icmp .ne 12, 3) := by decide +kernel
theorem dX8_beside_83 : decode cX8_beside 83 = .ok (.iload 4, 2) := by decide +kernel
theorem dX8_beside_85 : decode cX8_beside 85 = .ok (.iload_n 3, 1) := by decide +kernel
theorem dX8_beside_86 : decode cX8_beside 86 = .ok (.iconst (-1), 1) := by decide +kernel
theorem dX8_beside_87 : decode cX8_beside 87 = .ok (.ixor, 1) := by decide +kernel
theorem dX8_beside_88 : decode cX8_beside 88 = .ok (.iand, 1) := by decide +kernel
theorem dX8_beside_89 : decode cX8_beside 89 = .ok (.goto 7, 3) := by decide +kernel
theorem dX8_beside_92 : decode cX8_beside 92 = .ok (.iload_n 3, 1) := by decide +kernel
theorem dX8_beside_93 : decode cX8_beside 93 = .ok (.iload 4, 2) := by decide +kernel
theorem dX8_beside_95 : decode cX8_beside 95 = .ok (.iand, 1) := by decide +kernel
theorem dX8_beside_96 : decode cX8_beside 96 = .ok (.ireturn, 1) := by decide +kernel
theorem dX8_way_0 : decode cX8_way 0 = .ok (.aload_n 0, 1) := by decide +kernel
theorem dX8_way_1 : decode cX8_way 1 = .ok (.iload_n 1, 1) := by decide +kernel
theorem dX8_way_2 : decode cX8_way 2 = .ok (.invokevirtual 242, 3) := by decide +kernel
theorem dX8_way_5 : decode cX8_way 5 = .ok (.astore 6, 2) := by decide +kernel
theorem dX8_way_7 : decode cX8_way 7 = .ok (.aload_n 0, 1) := by decide +kernel
theorem dX8_way_8 : decode cX8_way 8 = .ok (.iload_n 3, 1) := by decide +kernel
theorem dX8_way_9 : decode cX8_way 9 = .ok (.invokevirtual 95, 3) := by decide +kernel
theorem dX8_way_12 : decode cX8_way 12 = .ok (.astore 7, 2) := by decide +kernel
theorem dX8_way_14 : decode cX8_way 14 = .ok (.aload 6, 2) := by decide +kernel
theorem dX8_way_16 : decode cX8_way 16 = .ok (.ifnull 18, 3) := by decide +kernel
theorem dX8_way_19 : decode cX8_way 19 = .ok (.aload 7, 2) := by decide +kernel
theorem dX8_way_21 : decode cX8_way 21 = .ok (.ifnull 13, 3) := by decide +kernel
theorem dX8_way_24 : decode cX8_way 24 = .ok (.iload 4, 2) := by decide +kernel
theorem dX8_way_26 : decode cX8_way 26 = .ok (.iload 5, 2) := by decide +kernel
theorem dX8_way_28 : decode cX8_way 28 = .ok (.invokestatic 166, 3) := by decide +kernel
theorem dX8_way_31 : decode cX8_way 31 = .ok (.ifCond .ne 5, 3) := by decide +kernel
theorem dX8_way_34 : decode cX8_way 34 = .ok (.iconst (-1), 1) := by decide +kernel
theorem dX8_way_35 : decode cX8_way 35 = .ok (.ireturn, 1) := by decide +kernel
theorem dX8_way_36 : decode cX8_way 36 = .ok (.aload 6, 2) := by decide +kernel
theorem dX8_way_38 : decode cX8_way 38 = .ok (.getfield 246, 3) := by decide +kernel
theorem dX8_way_41 : decode cX8_way 41 = .ok (.iconst (-1), 1) := by decide +kernel
theorem dX8_way_42 : decode cX8_way 42 = .ok (.if_icmp .eq 14, 3) := by decide +kernel
theorem dX8_way_45 : decode cX8_way 45 = .ok (.aload 6, 2) := by decide +kernel
theorem dX8_way_47 : decode cX8_way 47 = .ok (.getfield 246, 3) := by decide +kernel
theorem dX8_way_50 : decode cX8_way 50 = .ok (.ifCond .eq 6, 3) := by decide +kernel
theorem dX8_way_53 : decode cX8_way 53 = .ok (.bipush (-12), 2) := by decide +kernel
theorem dX8_way_55 : decode cX8_way 55 = .ok (.ireturn, 1) := by decide +kernel
theorem dX8_way_56 : decode cX8_way 56 = .ok (.aload_n 0, 1) := by decide +kernel
theorem dX8_way_57 : decode cX8_way 57 = .ok (.aload 6, 2) := by decide +kernel
theorem dX8_way_59 : decode cX8_way 59 = .ok (.iload_n 2, 1) := by decide +kernel
theorem dX8_way_60 : decode cX8_way 60 = .ok (.aload 7, 2) := by decide +kernel
theorem dX8_way_62 : decode cX8_way 62 = .ok (.iload 4, 2) := by decide +kernel
theorem dX8_way_64 : decode cX8_way 64 = .ok (.iload 5, 2) := by decide +kernel
theorem dX8_way_66 : decode cX8_way 66 = .ok (.invokevirtual 249, 3) := by decide +kernel
theorem dX8_way_69 : decode cX8_way 69 = .ok (.ireturn, 1) := by decide +kernel
theorem dX8_act_0 : decode cX8_act 0 = .ok (.aload_n 0, 1) := by decide +kernel
theorem dX8_act_1 : decode cX8_act 1 = .ok (.getfield 53, 3) := by decide +kernel
theorem dX8_act_4 : decode cX8_act 4 = .ok (.iconst 0, 1) := by decide +kernel
theorem dX8_act_5 : decode cX8_act 5 = .ok (.putfield 253, 3) := by decide +kernel
theorem dX8_act_8 : decode cX8_act 8 = .ok (.aload_n 0, 1) := by decide +kernel
theorem dX8_act_9 : decode cX8_act 9 = .ok (.iload_n 1, 1) := by decide +kernel
theorem dX8_act_10 : decode cX8_act 10 = .ok (.invokevirtual 95, 3) := by decide +kernel
theorem dX8_act_13 : decode cX8_act 13 = .ok (.astore 4, 2) := by decide +kernel
theorem dX8_act_15 : decode cX8_act 15 = .ok (.aload 4, 2) := by decide +kernel
theorem dX8_act_17 : decode cX8_act 17 = .ok (.ifnonnull 5, 3) := by decide +kernel
theorem dX8_act_20 : decode cX8_act 20 = .ok (.iconst 0, 1) := by decide +kernel
theorem dX8_act_21 : decode cX8_act 21 = .ok (.ireturn, 1) := by decide +kernel
theorem dX8_act_22 : decode cX8_act 22 = .ok (.iload_n 2, 1) := by decide +kernel
theorem dX8_act_23 : decode cX8_act 23 = .ok (.tableswitch 73 0 2 #[25, 41, 57], 25) := by decide +kernel
theorem dX8_act_48 : decode cX8_act 48 = .ok (.aload_n 0, 1) := by decide +kernel
theorem dX8_act_49 : decode cX8_act 49 = .ok (.getfield 53, 3) := by decide +kernel
theorem dX8_act_52 : decode cX8_act 52 = .ok (.aload 4, 2) := by decide +kernel
theorem dX8_act_54 : decode cX8_act 54 = .ok (.aload 4, 2) := by decide +kernel
theorem dX8_act_56 : decode cX8_act 56 = .ok (.getfield 111, 3) := by decide +kernel
theorem dX8_act_59 : decode cX8_act 59 = .ok (.iload_n 3, 1) := by decide +kernel
theorem dX8_act_60 : decode cX8_act 60 = .ok (.invokevirtual 256, 3) := by decide +kernel
theorem dX8_act_63 : decode cX8_act 63 = .ok (.ireturn, 1) := by decide +kernel
theorem dX8_act_64 : decode cX8_act 64 = .ok (.aload_n 0, 1) := by decide +kernel
theorem dX8_act_65 : decode cX8_act 65 = .ok (.getfield 53, 3) := by decide +kernel
theorem dX8_act_68 : decode cX8_act 68 = .ok (.aload 4, 2) := by decide +kernel
theorem dX8_act_70 : decode cX8_act 70 = .ok (.aload 4, 2) := by decide +kernel
theorem dX8_act_72 : decode cX8_act 72 = .ok (.getfield 111, 3) := by decide +kernel
theorem dX8_act_75 : decode cX8_act 75 = .ok (.iload_n 3, 1) := by decide +kernel
theorem dX8_act_76 : decode cX8_act 76 = .ok (.invokevirtual 260, 3) := by decide +kernel
theorem dX8_act_79 : decode cX8_act 79 = .ok (.ireturn, 1) := by decide +kernel
theorem dX8_act_80 : decode cX8_act 80 = .ok (.aload_n 0, 1) := by decide +kernel
theorem dX8_act_81 : decode cX8_act 81 = .ok (.getfield 53, 3) := by decide +kernel
theorem dX8_act_84 : decode cX8_act 84 = .ok (.aload 4, 2) := by decide +kernel
theorem dX8_act_86 : decode cX8_act 86 = .ok (.aload 4, 2) := by decide +kernel
theorem dX8_act_88 : decode cX8_act 88 = .ok (.getfield 111, 3) := by decide +kernel
theorem dX8_act_91 : decode cX8_act 91 = .ok (.iload_n 3, 1) := by decide +kernel
theorem dX8_act_92 : decode cX8_act 92 = .ok (.invokevirtual 263, 3) := by decide +kernel
theorem dX8_act_95 : decode cX8_act 95 = .ok (.ireturn, 1) := by decide +kernel
theorem dX8_act_96 : decode cX8_act 96 = .ok (.iconst 0, 1) := by decide +kernel
theorem dX8_act_97 : decode cX8_act 97 = .ok (.ireturn, 1) := by decide +kernel
theorem dX8_trace_0 : decode cX8_trace 0 = .ok (.aload_n 0, 1) := by decide +kernel
theorem dX8_trace_1 : decode cX8_trace 1 = .ok (.getfield 53, 3) := by decide +kernel
theorem dX8_trace_4 : decode cX8_trace 4 = .ok (.iload_n 1, 1) := by decide +kernel
theorem dX8_trace_5 : decode cX8_trace 5 = .ok (.invokevirtual 266, 3) := by decide +kernel
theorem dX8_trace_8 : decode cX8_trace 8 = .ok (.ireturn, 1) := by decide +kernel
theorem dX8_taken_0 : decode cX8_taken 0 = .ok (.iload_n 2, 1) := by decide +kernel
theorem dX8_taken_1 : decode cX8_taken 1 = .ok (.bipush 7, 2) := by decide +kernel
theorem dX8_taken_3 : decode cX8_taken 3 = .ok (.invokestatic 72, 3) := by decide +kernel
theorem dX8_taken_6 : decode cX8_taken 6 = .ok (.ifCond .ne 6, 3) := by decide +kernel
theorem dX8_taken_9 : decode cX8_taken 9 = .ok (.bipush (-2), 2) := by decide +kernel
theorem dX8_taken_11 : decode cX8_taken 11 = .ok (.ireturn, 1) := by decide +kernel
theorem dX8_taken_12 : decode cX8_taken 12 = .ok (.aload_n 0, 1) := by decide +kernel
theorem dX8_taken_13 : decode cX8_taken 13 = .ok (.iload_n 1, 1) := by decide +kernel
theorem dX8_taken_14 : decode cX8_taken 14 = .ok (.invokevirtual 95, 3) := by decide +kernel
theorem dX8_taken_17 : decode cX8_taken 17 = .ok (.astore_n 3, 1) := by decide +kernel
theorem dX8_taken_18 : decode cX8_taken 18 = .ok (.aload_n 3, 1) := by decide +kernel
theorem dX8_taken_19 : decode cX8_taken 19 = .ok (.ifnonnull 6, 3) := by decide +kernel
theorem dX8_taken_22 : decode cX8_taken 22 = .ok (.bipush (-11), 2) := by decide +kernel
theorem dX8_taken_24 : decode cX8_taken 24 = .ok (.ireturn, 1) := by decide +kernel
theorem dX8_taken_25 : decode cX8_taken 25 = .ok (.aload_n 3, 1) := by decide +kernel
theorem dX8_taken_26 : decode cX8_taken 26 = .ok (.getfield 269, 3) := by decide +kernel
theorem dX8_taken_29 : decode cX8_taken 29 = .ok (.iload_n 2, 1) := by decide +kernel
theorem dX8_taken_30 : decode cX8_taken 30 = .ok (.invokestatic 105, 3) := by decide +kernel
theorem dX8_taken_33 : decode cX8_taken 33 = .ok (.ifCond .eq 10, 3) := by decide +kernel
theorem dX8_taken_36 : decode cX8_taken 36 = .ok (.aload_n 3, 1) := by decide +kernel
theorem dX8_taken_37 : decode cX8_taken 37 = .ok (.getfield 111, 3) := by decide +kernel
theorem dX8_taken_40 : decode cX8_taken 40 = .ok (.goto 5, 3) := by decide +kernel
theorem dX8_taken_43 : decode cX8_taken 43 = .ok (.bipush (-12), 2) := by decide +kernel
theorem dX8_taken_45 : decode cX8_taken 45 = .ok (.ireturn, 1) := by decide +kernel
theorem dX8_count_0 : decode cX8_count 0 = .ok (.iload_n 1, 1) := by decide +kernel
theorem dX8_count_1 : decode cX8_count 1 = .ok (.tableswitch 72 0 4 #[35, 43, 51, 59, 64], 35) := by decide +kernel
theorem dX8_count_36 : decode cX8_count 36 = .ok (.aload_n 0, 1) := by decide +kernel
theorem dX8_count_37 : decode cX8_count 37 = .ok (.getfield 20, 3) := by decide +kernel
theorem dX8_count_40 : decode cX8_count 40 = .ok (.invokevirtual 80, 3) := by decide +kernel
theorem dX8_count_43 : decode cX8_count 43 = .ok (.ireturn, 1) := by decide +kernel
theorem dX8_count_44 : decode cX8_count 44 = .ok (.aload_n 0, 1) := by decide +kernel
theorem dX8_count_45 : decode cX8_count 45 = .ok (.getfield 24, 3) := by decide +kernel
theorem dX8_count_48 : decode cX8_count 48 = .ok (.invokevirtual 80, 3) := by decide +kernel
theorem dX8_count_51 : decode cX8_count 51 = .ok (.ireturn, 1) := by decide +kernel
theorem dX8_count_52 : decode cX8_count 52 = .ok (.aload_n 0, 1) := by decide +kernel
theorem dX8_count_53 : decode cX8_count 53 = .ok (.getfield 30, 3) := by decide +kernel
theorem dX8_count_56 : decode cX8_count 56 = .ok (.getfield 131, 3) := by decide +kernel
theorem dX8_count_59 : decode cX8_count 59 = .ok (.ireturn, 1) := by decide +kernel
theorem dX8_count_60 : decode cX8_count 60 = .ok (.aload_n 0, 1) := by decide +kernel
theorem dX8_count_61 : decode cX8_count 61 = .ok (.invokevirtual 272, 3) := by decide +kernel
theorem dX8_count_64 : decode cX8_count 64 = .ok (.ireturn, 1) := by decide +kernel
theorem dX8_count_65 : decode cX8_count 65 = .ok (.aload_n 0, 1) := by decide +kernel
theorem dX8_count_66 : decode cX8_count 66 = .ok (.getfield 53, 3) := by decide +kernel
theorem dX8_count_69 : decode cX8_count 69 = .ok (.getfield 253, 3) := by decide +kernel
theorem dX8_count_72 : decode cX8_count 72 = .ok (.ireturn, 1) := by decide +kernel
theorem dX8_count_73 : decode cX8_count 73 = .ok (.bipush (-2), 2) := by decide +kernel
theorem dX8_count_75 : decode cX8_count 75 = .ok (.ireturn, 1) := by decide +kernel
theorem dX8_tape_0 : decode cX8_tape 0 = .ok (.aload_n 0, 1) := by decide +kernel
theorem dX8_tape_1 : decode cX8_tape 1 = .ok (.iload_n 1, 1) := by decide +kernel
theorem dX8_tape_2 : decode cX8_tape 2 = .ok (.invokevirtual 242, 3) := by decide +kernel
theorem dX8_tape_5 : decode cX8_tape 5 = .ok (.astore 4, 2) := by decide +kernel
theorem dX8_tape_7 : decode cX8_tape 7 = .ok (.aload 4, 2) := by decide +kernel
theorem dX8_tape_9 : decode cX8_tape 9 = .ok (.ifnonnull 5, 3) := by decide +kernel
theorem dX8_tape_12 : decode cX8_tape 12 = .ok (.iconst (-1), 1) := by decide +kernel
theorem dX8_tape_13 : decode cX8_tape 13 = .ok (.ireturn, 1) := by decide +kernel
theorem dX8_tape_14 : decode cX8_tape 14 = .ok (.iload_n 2, 1) := by decide +kernel
theorem dX8_tape_15 : decode cX8_tape 15 = .ok (.iconst (-1), 1) := by decide +kernel
theorem dX8_tape_16 : decode cX8_tape 16 = .ok (.if_icmp .lt 8, 3) := by decide +kernel
theorem dX8_tape_19 : decode cX8_tape 19 = .ok (.iload_n 2, 1) := by decide +kernel
theorem dX8_tape_20 : decode cX8_tape 20 = .ok (.iconst 4, 1) := by decide +kernel
theorem dX8_tape_21 : decode cX8_tape 21 = .ok (.if_icmp .le 6, 3) := by decide +kernel
theorem dX8_tape_24 : decode cX8_tape 24 = .ok (.bipush (-2), 2) := by decide +kernel
theorem dX8_tape_26 : decode cX8_tape 26 = .ok (.ireturn, 1) := by decide +kernel
theorem dX8_tape_27 : decode cX8_tape 27 = .ok (.iload_n 2, 1) := by decide +kernel
theorem dX8_tape_28 : decode cX8_tape 28 = .ok (.iconst (-1), 1) := by decide +kernel
theorem dX8_tape_29 : decode cX8_tape 29 = .ok (.if_icmp .ne 12, 3) := by decide +kernel
theorem dX8_tape_32 : decode cX8_tape 32 = .ok (.aload 4, 2) := by decide +kernel
theorem dX8_tape_34 : decode cX8_tape 34 = .ok (.iconst (-1), 1) := by decide +kernel
theorem dX8_tape_35 : decode cX8_tape 35 = .ok (.iconst 0, 1) := by decide +kernel
theorem dX8_tape_36 : decode cX8_tape 36 = .ok (.invokevirtual 275, 3) := by decide +kernel
theorem dX8_tape_39 : decode cX8_tape 39 = .ok (.iconst 1, 1) := by decide +kernel
theorem dX8_tape_40 : decode cX8_tape 40 = .ok (.ireturn, 1) := by decide +kernel
theorem dX8_tape_41 : decode cX8_tape 41 = .ok (.iload_n 3, 1) := by decide +kernel
theorem dX8_tape_42 : decode cX8_tape 42 = .ok (.bipush 60, 2) := by decide +kernel
theorem dX8_tape_44 : decode cX8_tape 44 = .ok (.if_icmp .le 6, 3) := by decide +kernel
theorem dX8_tape_47 : decode cX8_tape 47 = .ok (.bipush (-2), 2) := by decide +kernel
theorem dX8_tape_49 : decode cX8_tape 49 = .ok (.ireturn, 1) := by decide +kernel
theorem dX8_tape_50 : decode cX8_tape 50 = .ok (.iload_n 3, 1) := by decide +kernel
theorem dX8_tape_51 : decode cX8_tape 51 = .ok (.ifCond .ge 6, 3) := by decide +kernel
theorem dX8_tape_54 : decode cX8_tape 54 = .ok (.bipush (-14), 2) := by decide +kernel
theorem dX8_tape_56 : decode cX8_tape 56 = .ok (.ireturn, 1) := by decide +kernel
theorem dX8_tape_57 : decode cX8_tape 57 = .ok (.aload 4, 2) := by decide +kernel
theorem dX8_tape_59 : decode cX8_tape 59 = .ok (.iload_n 2, 1) := by decide +kernel
theorem dX8_tape_60 : decode cX8_tape 60 = .ok (.iload_n 3, 1) := by decide +kernel
theorem dX8_tape_61 : decode cX8_tape 61 = .ok (.invokevirtual 275, 3) := by decide +kernel
theorem dX8_tape_64 : decode cX8_tape 64 = .ok (.iconst 1, 1) := by decide +kernel
theorem dX8_tape_65 : decode cX8_tape 65 = .ok (.ireturn, 1) := by decide +kernel
theorem dX8_item_0 : decode cX8_item 0 = .ok (.aload_n 0, 1) := by decide +kernel
theorem dX8_item_1 : decode cX8_item 1 = .ok (.iload_n 1, 1) := by decide +kernel
theorem dX8_item_2 : decode cX8_item 2 = .ok (.invokevirtual 242, 3) := by decide +kernel
theorem dX8_item_5 : decode cX8_item 5 = .ok (.astore 5, 2) := by decide +kernel
theorem dX8_item_7 : decode cX8_item 7 = .ok (.aload 5, 2) := by decide +kernel
theorem dX8_item_9 : decode cX8_item 9 = .ok (.ifnonnull 5, 3) := by decide +kernel
theorem dX8_item_12 : decode cX8_item 12 = .ok (.iconst (-1), 1) := by decide +kernel
theorem dX8_item_13 : decode cX8_item 13 = .ok (.ireturn, 1) := by decide +kernel
theorem dX8_item_14 : decode cX8_item 14 = .ok (.aload 5, 2) := by decide +kernel
theorem dX8_item_16 : decode cX8_item 16 = .ok (.getfield 246, 3) := by decide +kernel
theorem dX8_item_19 : decode cX8_item 19 = .ok (.iconst (-1), 1) := by decide +kernel
theorem dX8_item_20 : decode cX8_item 20 = .ok (.if_icmp .ne 6, 3) := by decide +kernel
theorem dX8_item_23 : decode cX8_item 23 = .ok (.bipush (-11), 2) := by decide +kernel
theorem dX8_item_25 : decode cX8_item 25 = .ok (.ireturn, 1) := by decide +kernel
theorem dX8_item_26 : decode cX8_item 26 = .ok (.aload 5, 2) := by decide +kernel
theorem dX8_item_28 : decode cX8_item 28 = .ok (.iload_n 2, 1) := by decide +kernel
theorem dX8_item_29 : decode cX8_item 29 = .ok (.invokevirtual 279, 3) := by decide +kernel
theorem dX8_item_32 : decode cX8_item 32 = .ok (.ifCond .ne 6, 3) := by decide +kernel
theorem dX8_item_35 : decode cX8_item 35 = .ok (.bipush (-13), 2) := by decide +kernel
theorem dX8_item_37 : decode cX8_item 37 = .ok (.ireturn, 1) := by decide +kernel
theorem dX8_item_38 : decode cX8_item 38 = .ok (.aload 5, 2) := by decide +kernel
theorem dX8_item_40 : decode cX8_item 40 = .ok (.iload_n 2, 1) := by decide +kernel
theorem dX8_item_41 : decode cX8_item 41 = .ok (.lload_n 3, 1) := by decide +kernel
theorem dX8_item_42 : decode cX8_item 42 = .ok (.invokevirtual 283, 3) := by decide +kernel
theorem dX8_item_45 : decode cX8_item 45 = .ok (.iconst 1, 1) := by decide +kernel
theorem dX8_item_46 : decode cX8_item 46 = .ok (.ireturn, 1) := by decide +kernel
theorem dX8_read_0 : decode cX8_read 0 = .ok (.aload_n 0, 1) := by decide +kernel
theorem dX8_read_1 : decode cX8_read 1 = .ok (.iload_n 1, 1) := by decide +kernel
theorem dX8_read_2 : decode cX8_read 2 = .ok (.invokevirtual 242, 3) := by decide +kernel
theorem dX8_read_5 : decode cX8_read 5 = .ok (.astore_n 3, 1) := by decide +kernel
theorem dX8_read_6 : decode cX8_read 6 = .ok (.aload_n 3, 1) := by decide +kernel
theorem dX8_read_7 : decode cX8_read 7 = .ok (.ifnonnull 9, 3) := by decide +kernel
theorem dX8_read_10 : decode cX8_read 10 = .ok (.ldc2_w 287, 3) := by decide +kernel
theorem dX8_read_13 : decode cX8_read 13 = .ok (.goto 8, 3) := by decide +kernel
theorem dX8_read_16 : decode cX8_read 16 = .ok (.aload_n 3, 1) := by decide +kernel
theorem dX8_read_17 : decode cX8_read 17 = .ok (.iload_n 2, 1) := by decide +kernel
theorem dX8_read_18 : decode cX8_read 18 = .ok (.invokevirtual 289, 3) := by decide +kernel
theorem dX8_read_21 : decode cX8_read 21 = .ok (.lreturn, 1) := by decide +kernel
theorem dX8_shift_0 : decode cX8_shift 0 = .ok (.aload_n 0, 1) := by decide +kernel
theorem dX8_shift_1 : decode cX8_shift 1 = .ok (.iload_n 1, 1) := by decide +kernel
theorem dX8_shift_2 : decode cX8_shift 2 = .ok (.invokevirtual 242, 3) := by decide +kernel
theorem dX8_shift_5 : decode cX8_shift 5 = .ok (.astore 6, 2) := by decide +kernel
theorem dX8_shift_7 : decode cX8_shift 7 = .ok (.aload_n 0, 1) := by decide +kernel
theorem dX8_shift_8 : decode cX8_shift 8 = .ok (.iload_n 3, 1) := by decide +kernel
theorem dX8_shift_9 : decode cX8_shift 9 = .ok (.invokevirtual 242, 3) := by decide +kernel
theorem dX8_shift_12 : decode cX8_shift 12 = .ok (.astore 7, 2) := by decide +kernel
theorem dX8_shift_14 : decode cX8_shift 14 = .ok (.aload 6, 2) := by decide +kernel
theorem dX8_shift_16 : decode cX8_shift 16 = .ok (.ifnull 8, 3) := by decide +kernel
theorem dX8_shift_19 : decode cX8_shift 19 = .ok (.aload 7, 2) := by decide +kernel
theorem dX8_shift_21 : decode cX8_shift 21 = .ok (.ifnonnull 5, 3) := by decide +kernel
theorem dX8_shift_24 : decode cX8_shift 24 = .ok (.iconst (-1), 1) := by decide +kernel
theorem dX8_shift_25 : decode cX8_shift 25 = .ok (.ireturn, 1) := by decide +kernel
theorem dX8_shift_26 : decode cX8_shift 26 = .ok (.aload 6, 2) := by decide +kernel
theorem dX8_shift_28 : decode cX8_shift 28 = .ok (.getfield 246, 3) := by decide +kernel
theorem dX8_shift_31 : decode cX8_shift 31 = .ok (.iconst (-1), 1) := by decide +kernel
theorem dX8_shift_32 : decode cX8_shift 32 = .ok (.if_icmp .eq 12, 3) := by decide +kernel
theorem dX8_shift_35 : decode cX8_shift 35 = .ok (.aload 7, 2) := by decide +kernel
theorem dX8_shift_37 : decode cX8_shift 37 = .ok (.getfield 246, 3) := by decide +kernel
theorem dX8_shift_40 : decode cX8_shift 40 = .ok (.iconst (-1), 1) := by decide +kernel
theorem dX8_shift_41 : decode cX8_shift 41 = .ok (.if_icmp .ne 6, 3) := by decide +kernel
theorem dX8_shift_44 : decode cX8_shift 44 = .ok (.bipush (-11), 2) := by decide +kernel
theorem dX8_shift_46 : decode cX8_shift 46 = .ok (.ireturn, 1) := by decide +kernel
theorem dX8_shift_47 : decode cX8_shift 47 = .ok (.aload 6, 2) := by decide +kernel
theorem dX8_shift_49 : decode cX8_shift 49 = .ok (.getfield 246, 3) := by decide +kernel
theorem dX8_shift_52 : decode cX8_shift 52 = .ok (.aload 7, 2) := by decide +kernel
theorem dX8_shift_54 : decode cX8_shift 54 = .ok (.getfield 246, 3) := by decide +kernel
theorem dX8_shift_57 : decode cX8_shift 57 = .ok (.if_icmp .eq 6, 3) := by decide +kernel
theorem dX8_shift_60 : decode cX8_shift 60 = .ok (.bipush (-12), 2) := by decide +kernel
theorem dX8_shift_62 : decode cX8_shift 62 = .ok (.ireturn, 1) := by decide +kernel
theorem dX8_shift_63 : decode cX8_shift 63 = .ok (.aload 6, 2) := by decide +kernel
theorem dX8_shift_65 : decode cX8_shift 65 = .ok (.iload_n 2, 1) := by decide +kernel
theorem dX8_shift_66 : decode cX8_shift 66 = .ok (.iload 5, 2) := by decide +kernel
theorem dX8_shift_68 : decode cX8_shift 68 = .ok (.invokevirtual 292, 3) := by decide +kernel
theorem dX8_shift_71 : decode cX8_shift 71 = .ok (.ifCond .eq 15, 3) := by decide +kernel
theorem dX8_shift_74 : decode cX8_shift 74 = .ok (.aload 7, 2) := by decide +kernel
theorem dX8_shift_76 : decode cX8_shift 76 = .ok (.iload 4, 2) := by decide +kernel
theorem dX8_shift_78 : decode cX8_shift 78 = .ok (.iload 5, 2) := by decide +kernel
theorem dX8_shift_80 : decode cX8_shift 80 = .ok (.invokevirtual 292, 3) := by decide +kernel
theorem dX8_shift_83 : decode cX8_shift 83 = .ok (.ifCond .ne 6, 3) := by decide +kernel
theorem dX8_shift_86 : decode cX8_shift 86 = .ok (.bipush (-13), 2) := by decide +kernel
theorem dX8_shift_88 : decode cX8_shift 88 = .ok (.ireturn, 1) := by decide +kernel
theorem dX8_shift_89 : decode cX8_shift 89 = .ok (.aload 6, 2) := by decide +kernel
theorem dX8_shift_91 : decode cX8_shift 91 = .ok (.getfield 295, 3) := by decide +kernel
theorem dX8_shift_94 : decode cX8_shift 94 = .ok (.iload_n 2, 1) := by decide +kernel
theorem dX8_shift_95 : decode cX8_shift 95 = .ok (.aload 7, 2) := by decide +kernel
theorem dX8_shift_97 : decode cX8_shift 97 = .ok (.getfield 295, 3) := by decide +kernel
theorem dX8_shift_100 : decode cX8_shift 100 = .ok (.iload 4, 2) := by decide +kernel
theorem dX8_shift_102 : decode cX8_shift 102 = .ok (.iload 5, 2) := by decide +kernel
theorem dX8_shift_104 : decode cX8_shift 104 = .ok (.invokestatic 299, 3) := by decide +kernel
theorem dX8_shift_107 : decode cX8_shift 107 = .ok (.iload 5, 2) := by decide +kernel
theorem dX8_shift_109 : decode cX8_shift 109 = .ok (.ireturn, 1) := by decide +kernel
theorem dX8_within_0 : decode cX8_within 0 = .ok (.iload_n 0, 1) := by decide +kernel
theorem dX8_within_1 : decode cX8_within 1 = .ok (.ifCond .lt 12, 3) := by decide +kernel
theorem dX8_within_4 : decode cX8_within 4 = .ok (.iload_n 0, 1) := by decide +kernel
theorem dX8_within_5 : decode cX8_within 5 = .ok (.iload_n 1, 1) := by decide +kernel
theorem dX8_within_6 : decode cX8_within 6 = .ok (.if_icmp .ge 7, 3) := by decide +kernel
theorem dX8_within_9 : decode cX8_within 9 = .ok (.iconst 1, 1) := by decide +kernel
theorem dX8_within_10 : decode cX8_within 10 = .ok (.goto 4, 3) := by decide +kernel
theorem dX8_within_13 : decode cX8_within 13 = .ok (.iconst 0, 1) := by decide +kernel
theorem dX8_within_14 : decode cX8_within 14 = .ok (.ireturn, 1) := by decide +kernel
theorem dX8_has_0 : decode cX8_has 0 = .ok (.iload_n 0, 1) := by decide +kernel
theorem dX8_has_1 : decode cX8_has 1 = .ok (.iload_n 1, 1) := by decide +kernel
theorem dX8_has_2 : decode cX8_has 2 = .ok (.ishr, 1) := by decide +kernel
theorem dX8_has_3 : decode cX8_has 3 = .ok (.iconst 1, 1) := by decide +kernel
theorem dX8_has_4 : decode cX8_has 4 = .ok (.iand, 1) := by decide +kernel
theorem dX8_has_5 : decode cX8_has 5 = .ok (.ifCond .eq 7, 3) := by decide +kernel
theorem dX8_has_8 : decode cX8_has 8 = .ok (.iconst 1, 1) := by decide +kernel
theorem dX8_has_9 : decode cX8_has 9 = .ok (.goto 4, 3) := by decide +kernel
theorem dX8_has_12 : decode cX8_has 12 = .ok (.iconst 0, 1) := by decide +kernel
theorem dX8_has_13 : decode cX8_has 13 = .ok (.ireturn, 1) := by decide +kernel
theorem dX8_isOffer_0 : decode cX8_isOffer 0 = .ok (.iload_n 0, 1) := by decide +kernel
theorem dX8_isOffer_1 : decode cX8_isOffer 1 = .ok (.iconst 4, 1) := by decide +kernel
theorem dX8_isOffer_2 : decode cX8_isOffer 2 = .ok (.invokestatic 72, 3) := by decide +kernel
theorem dX8_isOffer_5 : decode cX8_isOffer 5 = .ok (.ifCond .eq 15, 3) := by decide +kernel
theorem dX8_isOffer_8 : decode cX8_isOffer 8 = .ok (.iload_n 1, 1) := by decide +kernel
theorem dX8_isOffer_9 : decode cX8_isOffer 9 = .ok (.iconst 2, 1) := by decide +kernel
theorem dX8_isOffer_10 : decode cX8_isOffer 10 = .ok (.invokestatic 72, 3) := by decide +kernel
theorem dX8_isOffer_13 : decode cX8_isOffer 13 = .ok (.ifCond .eq 7, 3) := by decide +kernel
theorem dX8_isOffer_16 : decode cX8_isOffer 16 = .ok (.iconst 1, 1) := by decide +kernel
theorem dX8_isOffer_17 : decode cX8_isOffer 17 = .ok (.goto 4, 3) := by decide +kernel
theorem dX8_isOffer_20 : decode cX8_isOffer 20 = .ok (.iconst 0, 1) := by decide +kernel
theorem dX8_isOffer_21 : decode cX8_isOffer 21 = .ok (.ireturn, 1) := by decide +kernel
theorem dX8_personAt_0 : decode cX8_personAt 0 = .ok (.iload_n 1, 1) := by decide +kernel
theorem dX8_personAt_1 : decode cX8_personAt 1 = .ok (.ifCond .lt 21, 3) := by decide +kernel
theorem dX8_personAt_4 : decode cX8_personAt 4 = .ok (.iload_n 1, 1) := by decide +kernel
theorem dX8_personAt_5 : decode cX8_personAt 5 = .ok (.aload_n 0, 1) := by decide +kernel
theorem dX8_personAt_6 : decode cX8_personAt 6 = .ok (.getfield 13, 3) := by decide +kernel
theorem dX8_personAt_9 : decode cX8_personAt 9 = .ok (.arraylength, 1) := by decide +kernel
theorem dX8_personAt_10 : decode cX8_personAt 10 = .ok (.if_icmp .ge 12, 3) := by decide +kernel
theorem dX8_personAt_13 : decode cX8_personAt 13 = .ok (.aload_n 0, 1) := by decide +kernel
theorem dX8_personAt_14 : decode cX8_personAt 14 = .ok (.getfield 13, 3) := by decide +kernel
theorem dX8_personAt_17 : decode cX8_personAt 17 = .ok (.iload_n 1, 1) := by decide +kernel
theorem dX8_personAt_18 : decode cX8_personAt 18 = .ok (.aaload, 1) := by decide +kernel
theorem dX8_personAt_19 : decode cX8_personAt 19 = .ok (.goto 4, 3) := by decide +kernel
theorem dX8_personAt_22 : decode cX8_personAt 22 = .ok (.aconst_null, 1) := by decide +kernel
theorem dX8_personAt_23 : decode cX8_personAt 23 = .ok (.areturn, 1) := by decide +kernel
theorem dX8_wordAt_0 : decode cX8_wordAt 0 = .ok (.iload_n 1, 1) := by decide +kernel
theorem dX8_wordAt_1 : decode cX8_wordAt 1 = .ok (.ifCond .lt 28, 3) := by decide +kernel
theorem dX8_wordAt_4 : decode cX8_wordAt 4 = .ok (.iload_n 1, 1) := by decide +kernel
theorem dX8_wordAt_5 : decode cX8_wordAt 5 = .ok (.aload_n 0, 1) := by decide +kernel
theorem dX8_wordAt_6 : decode cX8_wordAt 6 = .ok (.getfield 20, 3) := by decide +kernel
theorem dX8_wordAt_9 : decode cX8_wordAt 9 = .ok (.invokevirtual 80, 3) := by decide +kernel
theorem dX8_wordAt_12 : decode cX8_wordAt 12 = .ok (.if_icmp .ge 17, 3) := by decide +kernel
theorem dX8_wordAt_15 : decode cX8_wordAt 15 = .ok (.aload_n 0, 1) := by decide +kernel
theorem dX8_wordAt_16 : decode cX8_wordAt 16 = .ok (.getfield 20, 3) := by decide +kernel
theorem dX8_wordAt_19 : decode cX8_wordAt 19 = .ok (.iload_n 1, 1) := by decide +kernel
theorem dX8_wordAt_20 : decode cX8_wordAt 20 = .ok (.invokevirtual 220, 3) := by decide +kernel
theorem dX8_wordAt_23 : decode cX8_wordAt 23 = .ok (.checkcast 84, 3) := by decide +kernel
theorem dX8_wordAt_26 : decode cX8_wordAt 26 = .ok (.goto 4, 3) := by decide +kernel
theorem dX8_wordAt_29 : decode cX8_wordAt 29 = .ok (.aconst_null, 1) := by decide +kernel
theorem dX8_wordAt_30 : decode cX8_wordAt 30 = .ok (.areturn, 1) := by decide +kernel
theorem dX8_ruleAt_0 : decode cX8_ruleAt 0 = .ok (.iload_n 1, 1) := by decide +kernel
theorem dX8_ruleAt_1 : decode cX8_ruleAt 1 = .ok (.ifCond .lt 28, 3) := by decide +kernel
theorem dX8_ruleAt_4 : decode cX8_ruleAt 4 = .ok (.iload_n 1, 1) := by decide +kernel
theorem dX8_ruleAt_5 : decode cX8_ruleAt 5 = .ok (.aload_n 0, 1) := by decide +kernel
theorem dX8_ruleAt_6 : decode cX8_ruleAt 6 = .ok (.getfield 24, 3) := by decide +kernel
theorem dX8_ruleAt_9 : decode cX8_ruleAt 9 = .ok (.invokevirtual 80, 3) := by decide +kernel
theorem dX8_ruleAt_12 : decode cX8_ruleAt 12 = .ok (.if_icmp .ge 17, 3) := by decide +kernel
theorem dX8_ruleAt_15 : decode cX8_ruleAt 15 = .ok (.aload_n 0, 1) := by decide +kernel
theorem dX8_ruleAt_16 : decode cX8_ruleAt 16 = .ok (.getfield 24, 3) := by decide +kernel
theorem dX8_ruleAt_19 : decode cX8_ruleAt 19 = .ok (.iload_n 1, 1) := by decide +kernel
theorem dX8_ruleAt_20 : decode cX8_ruleAt 20 = .ok (.invokevirtual 220, 3) := by decide +kernel
theorem dX8_ruleAt_23 : decode cX8_ruleAt 23 = .ok (.checkcast 153, 3) := by decide +kernel
theorem dX8_ruleAt_26 : decode cX8_ruleAt 26 = .ok (.goto 4, 3) := by decide +kernel
theorem dX8_ruleAt_29 : decode cX8_ruleAt 29 = .ok (.aconst_null, 1) := by decide +kernel
theorem dX8_ruleAt_30 : decode cX8_ruleAt 30 = .ok (.areturn, 1) := by decide +kernel
theorem dX8_tapeAt_0 : decode cX8_tapeAt 0 = .ok (.iload_n 1, 1) := by decide +kernel
theorem dX8_tapeAt_1 : decode cX8_tapeAt 1 = .ok (.ifCond .lt 21, 3) := by decide +kernel
theorem dX8_tapeAt_4 : decode cX8_tapeAt 4 = .ok (.iload_n 1, 1) := by decide +kernel
theorem dX8_tapeAt_5 : decode cX8_tapeAt 5 = .ok (.aload_n 0, 1) := by decide +kernel
theorem dX8_tapeAt_6 : decode cX8_tapeAt 6 = .ok (.getfield 46, 3) := by decide +kernel
theorem dX8_tapeAt_9 : decode cX8_tapeAt 9 = .ok (.arraylength, 1) := by decide +kernel
theorem dX8_tapeAt_10 : decode cX8_tapeAt 10 = .ok (.if_icmp .ge 12, 3) := by decide +kernel
theorem dX8_tapeAt_13 : decode cX8_tapeAt 13 = .ok (.aload_n 0, 1) := by decide +kernel
theorem dX8_tapeAt_14 : decode cX8_tapeAt 14 = .ok (.getfield 46, 3) := by decide +kernel
theorem dX8_tapeAt_17 : decode cX8_tapeAt 17 = .ok (.iload_n 1, 1) := by decide +kernel
theorem dX8_tapeAt_18 : decode cX8_tapeAt 18 = .ok (.aaload, 1) := by decide +kernel
theorem dX8_tapeAt_19 : decode cX8_tapeAt 19 = .ok (.goto 4, 3) := by decide +kernel
theorem dX8_tapeAt_22 : decode cX8_tapeAt 22 = .ok (.aconst_null, 1) := by decide +kernel
theorem dX8_tapeAt_23 : decode cX8_tapeAt 23 = .ok (.areturn, 1) := by decide +kernel
theorem dX8_allWords_0 : decode cX8_allWords 0 = .ok (.iconst 1, 1) := by decide +kernel
theorem dX8_allWords_1 : decode cX8_allWords 1 = .ok (.aload_n 0, 1) := by decide +kernel
theorem dX8_allWords_2 : decode cX8_allWords 2 = .ok (.getfield 20, 3) := by decide +kernel
theorem dX8_allWords_5 : decode cX8_allWords 5 = .ok (.invokevirtual 80, 3) := by decide +kernel
theorem dX8_allWords_8 : decode cX8_allWords 8 = .ok (.ishl, 1) := by decide +kernel
theorem dX8_allWords_9 : decode cX8_allWords 9 = .ok (.iconst 1, 1) := by decide +kernel
theorem dX8_allWords_10 : decode cX8_allWords 10 = .ok (.isub, 1) := by decide +kernel
theorem dX8_allWords_11 : decode cX8_allWords 11 = .ok (.ireturn, 1) := by decide +kernel
theorem dX8_withParts_0 : decode cX8_withParts 0 = .ok (.iload_n 1, 1) := by decide +kernel
theorem dX8_withParts_1 : decode cX8_withParts 1 = .ok (.istore_n 2, 1) := by decide +kernel
theorem dX8_withParts_2 : decode cX8_withParts 2 = .ok (.aload_n 0, 1) := by decide +kernel
theorem dX8_withParts_3 : decode cX8_withParts 3 = .ok (.getfield 20, 3) := by decide +kernel
theorem dX8_withParts_6 : decode cX8_withParts 6 = .ok (.invokevirtual 80, 3) := by decide +kernel
theorem dX8_withParts_9 : decode cX8_withParts 9 = .ok (.iconst 1, 1) := by decide +kernel
theorem dX8_withParts_10 : decode cX8_withParts 10 = .ok (.isub, 1) := by decide +kernel
theorem dX8_withParts_11 : decode cX8_withParts 11 = .ok (.istore_n 3, 1) := by decide +kernel
theorem dX8_withParts_12 : decode cX8_withParts 12 = .ok (.iload_n 3, 1) := by decide +kernel
theorem dX8_withParts_13 : decode cX8_withParts 13 = .ok (.ifCond .lt 34, 3) := by decide +kernel
theorem dX8_withParts_16 : decode cX8_withParts 16 = .ok (.iload_n 2, 1) := by decide +kernel
theorem dX8_withParts_17 : decode cX8_withParts 17 = .ok (.iload_n 3, 1) := by decide +kernel
theorem dX8_withParts_18 : decode cX8_withParts 18 = .ok (.invokestatic 105, 3) := by decide +kernel
theorem dX8_withParts_21 : decode cX8_withParts 21 = .ok (.ifCond .eq 20, 3) := by decide +kernel
theorem dX8_withParts_24 : decode cX8_withParts 24 = .ok (.iload_n 2, 1) := by decide +kernel
theorem dX8_withParts_25 : decode cX8_withParts 25 = .ok (.aload_n 0, 1) := by decide +kernel
theorem dX8_withParts_26 : decode cX8_withParts 26 = .ok (.getfield 20, 3) := by decide +kernel
theorem dX8_withParts_29 : decode cX8_withParts 29 = .ok (.iload_n 3, 1) := by decide +kernel
theorem dX8_withParts_30 : decode cX8_withParts 30 = .ok (.invokevirtual 220, 3) := by decide +kernel
theorem dX8_withParts_33 : decode cX8_withParts 33 = .ok (.checkcast 84, 3) := by decide +kernel
theorem dX8_withParts_36 : decode cX8_withParts 36 = .ok (.getfield 102, 3) := by decide +kernel
theorem dX8_withParts_39 : decode cX8_withParts 39 = .ok (.ior, 1) := by decide +kernel
theorem dX8_withParts_40 : decode cX8_withParts 40 = .ok (.istore_n 2, 1) := by decide +kernel
theorem dX8_withParts_41 : decode cX8_withParts 41 = .ok (.iinc 3 (-1), 3) := by decide +kernel
theorem dX8_withParts_44 : decode cX8_withParts 44 = .ok (.goto (-32), 3) := by decide +kernel
theorem dX8_withParts_47 : decode cX8_withParts 47 = .ok (.iload_n 2, 1) := by decide +kernel
theorem dX8_withParts_48 : decode cX8_withParts 48 = .ok (.ireturn, 1) := by decide +kernel
theorem dX8_factsOf_0 : decode cX8_factsOf 0 = .ok (.iconst 0, 1) := by decide +kernel
theorem dX8_factsOf_1 : decode cX8_factsOf 1 = .ok (.istore_n 2, 1) := by decide +kernel
theorem dX8_factsOf_2 : decode cX8_factsOf 2 = .ok (.iconst 0, 1) := by decide +kernel
theorem dX8_factsOf_3 : decode cX8_factsOf 3 = .ok (.istore_n 3, 1) := by decide +kernel
theorem dX8_factsOf_4 : decode cX8_factsOf 4 = .ok (.iload_n 3, 1) := by decide +kernel
theorem dX8_factsOf_5 : decode cX8_factsOf 5 = .ok (.aload_n 0, 1) := by decide +kernel
theorem dX8_factsOf_6 : decode cX8_factsOf 6 = .ok (.getfield 20, 3) := by decide +kernel
theorem dX8_factsOf_9 : decode cX8_factsOf 9 = .ok (.invokevirtual 80, 3) := by decide +kernel
theorem dX8_factsOf_12 : decode cX8_factsOf 12 = .ok (.if_icmp .ge 34, 3) := by decide +kernel
theorem dX8_factsOf_15 : decode cX8_factsOf 15 = .ok (.iload_n 1, 1) := by decide +kernel
theorem dX8_factsOf_16 : decode cX8_factsOf 16 = .ok (.iload_n 3, 1) := by decide +kernel
theorem dX8_factsOf_17 : decode cX8_factsOf 17 = .ok (.invokestatic 105, 3) := by decide +kernel
theorem dX8_factsOf_20 : decode cX8_factsOf 20 = .ok (.ifCond .eq 20, 3) := by decide +kernel
theorem dX8_factsOf_23 : decode cX8_factsOf 23 = .ok (.iload_n 2, 1) := by decide +kernel
theorem dX8_factsOf_24 : decode cX8_factsOf 24 = .ok (.aload_n 0, 1) := by decide +kernel
theorem dX8_factsOf_25 : decode cX8_factsOf 25 = .ok (.getfield 20, 3) := by decide +kernel
theorem dX8_factsOf_28 : decode cX8_factsOf 28 = .ok (.iload_n 3, 1) := by decide +kernel
theorem dX8_factsOf_29 : decode cX8_factsOf 29 = .ok (.invokevirtual 220, 3) := by decide +kernel
theorem dX8_factsOf_32 : decode cX8_factsOf 32 = .ok (.checkcast 84, 3) := by decide +kernel
theorem dX8_factsOf_35 : decode cX8_factsOf 35 = .ok (.getfield 121, 3) := by decide +kernel
theorem dX8_factsOf_38 : decode cX8_factsOf 38 = .ok (.ior, 1) := by decide +kernel
theorem dX8_factsOf_39 : decode cX8_factsOf 39 = .ok (.istore_n 2, 1) := by decide +kernel
theorem dX8_factsOf_40 : decode cX8_factsOf 40 = .ok (.iinc 3 1, 3) := by decide +kernel
theorem dX8_factsOf_43 : decode cX8_factsOf 43 = .ok (.goto (-39), 3) := by decide +kernel
theorem dX8_factsOf_46 : decode cX8_factsOf 46 = .ok (.iload_n 2, 1) := by decide +kernel
theorem dX8_factsOf_47 : decode cX8_factsOf 47 = .ok (.ireturn, 1) := by decide +kernel
theorem dX8_suppose_0 : decode cX8_suppose 0 = .ok (.aload_n 0, 1) := by decide +kernel
theorem dX8_suppose_1 : decode cX8_suppose 1 = .ok (.getfield 41, 3) := by decide +kernel
theorem dX8_suppose_4 : decode cX8_suppose 4 = .ok (.iload_n 1, 1) := by decide +kernel
theorem dX8_suppose_5 : decode cX8_suppose 5 = .ok (.putfield 128, 3) := by decide +kernel
theorem dX8_suppose_8 : decode cX8_suppose 8 = .ok (.aload_n 0, 1) := by decide +kernel
theorem dX8_suppose_9 : decode cX8_suppose 9 = .ok (.getfield 41, 3) := by decide +kernel
theorem dX8_suppose_12 : decode cX8_suppose 12 = .ok (.iload_n 2, 1) := by decide +kernel
theorem dX8_suppose_13 : decode cX8_suppose 13 = .ok (.putfield 145, 3) := by decide +kernel
theorem dX8_suppose_16 : decode cX8_suppose 16 = .ok (.aload_n 0, 1) := by decide +kernel
theorem dX8_suppose_17 : decode cX8_suppose 17 = .ok (.getfield 41, 3) := by decide +kernel
theorem dX8_suppose_20 : decode cX8_suppose 20 = .ok (.iload_n 3, 1) := by decide +kernel
theorem dX8_suppose_21 : decode cX8_suppose 21 = .ok (.putfield 305, 3) := by decide +kernel
theorem dX8_suppose_24 : decode cX8_suppose 24 = .ok (.aload_n 0, 1) := by decide +kernel
theorem dX8_suppose_25 : decode cX8_suppose 25 = .ok (.getfield 41, 3) := by decide +kernel
theorem dX8_suppose_28 : decode cX8_suppose 28 = .ok (.areturn, 1) := by decide +kernel
theorem dX8_keeper_0 : decode cX8_keeper 0 = .ok (.iconst 0, 1) := by decide +kernel
theorem dX8_keeper_1 : decode cX8_keeper 1 = .ok (.istore 5, 2) := by decide +kernel
theorem dX8_keeper_3 : decode cX8_keeper 3 = .ok (.iload 5, 2) := by decide +kernel
theorem dX8_keeper_5 : decode cX8_keeper 5 = .ok (.aload_n 0, 1) := by decide +kernel
theorem dX8_keeper_6 : decode cX8_keeper 6 = .ok (.getfield 24, 3) := by decide +kernel
theorem dX8_keeper_9 : decode cX8_keeper 9 = .ok (.invokevirtual 80, 3) := by decide +kernel
theorem dX8_keeper_12 : decode cX8_keeper 12 = .ok (.if_icmp .ge 54, 3) := by decide +kernel
theorem dX8_keeper_15 : decode cX8_keeper 15 = .ok (.aload_n 0, 1) := by decide +kernel
theorem dX8_keeper_16 : decode cX8_keeper 16 = .ok (.getfield 24, 3) := by decide +kernel
theorem dX8_keeper_19 : decode cX8_keeper 19 = .ok (.iload 5, 2) := by decide +kernel
theorem dX8_keeper_21 : decode cX8_keeper 21 = .ok (.invokevirtual 220, 3) := by decide +kernel
theorem dX8_keeper_24 : decode cX8_keeper 24 = .ok (.checkcast 153, 3) := by decide +kernel
theorem dX8_keeper_27 : decode cX8_keeper 27 = .ok (.astore 6, 2) := by decide +kernel
theorem dX8_keeper_29 : decode cX8_keeper 29 = .ok (.aload 6, 2) := by decide +kernel
theorem dX8_keeper_31 : decode cX8_keeper 31 = .ok (.getfield 224, 3) := by decide +kernel
theorem dX8_keeper_34 : decode cX8_keeper 34 = .ok (.iload_n 3, 1) := by decide +kernel
theorem dX8_keeper_35 : decode cX8_keeper 35 = .ok (.if_icmp .ne 25, 3) := by decide +kernel
theorem dX8_keeper_38 : decode cX8_keeper 38 = .ok (.aload 6, 2) := by decide +kernel
theorem dX8_keeper_40 : decode cX8_keeper 40 = .ok (.aload 6, 2) := by decide +kernel
theorem dX8_keeper_42 : decode cX8_keeper 42 = .ok (.aload_n 1, 1) := by decide +kernel
theorem dX8_keeper_43 : decode cX8_keeper 43 = .ok (.iload_n 2, 1) := by decide +kernel
theorem dX8_keeper_44 : decode cX8_keeper 44 = .ok (.aload 4, 2) := by decide +kernel
theorem dX8_keeper_46 : decode cX8_keeper 46 = .ok (.invokevirtual 152, 3) := by decide +kernel
theorem dX8_keeper_49 : decode cX8_keeper 49 = .ok (.aload 4, 2) := by decide +kernel
theorem dX8_keeper_51 : decode cX8_keeper 51 = .ok (.invokevirtual 158, 3) := by decide +kernel
theorem dX8_keeper_54 : decode cX8_keeper 54 = .ok (.ifCond .eq 6, 3) := by decide +kernel
theorem dX8_keeper_57 : decode cX8_keeper 57 = .ok (.iload 5, 2) := by decide +kernel
theorem dX8_keeper_59 : decode cX8_keeper 59 = .ok (.ireturn, 1) := by decide +kernel
theorem dX8_keeper_60 : decode cX8_keeper 60 = .ok (.iinc 5 1, 3) := by decide +kernel
theorem dX8_keeper_63 : decode cX8_keeper 63 = .ok (.goto (-60), 3) := by decide +kernel
theorem dX8_keeper_66 : decode cX8_keeper 66 = .ok (.iconst (-1), 1) := by decide +kernel
theorem dX8_keeper_67 : decode cX8_keeper 67 = .ok (.ireturn, 1) := by decide +kernel
theorem dX8_heardToPartsEnd_0 : decode cX8_heardToPartsEnd 0 = .ok (.iconst 0, 1) := by decide +kernel
theorem dX8_heardToPartsEnd_1 : decode cX8_heardToPartsEnd 1 = .ok (.istore 4, 2) := by decide +kernel
theorem dX8_heardToPartsEnd_3 : decode cX8_heardToPartsEnd 3 = .ok (.iconst 0, 1) := by decide +kernel
theorem dX8_heardToPartsEnd_4 : decode cX8_heardToPartsEnd 4 = .ok (.istore 5, 2) := by decide +kernel
theorem dX8_heardToPartsEnd_6 : decode cX8_heardToPartsEnd 6 = .ok (.iload 5, 2) := by decide +kernel
theorem dX8_heardToPartsEnd_8 : decode cX8_heardToPartsEnd 8 = .ok (.aload_n 0, 1) := by decide +kernel
theorem dX8_heardToPartsEnd_9 : decode cX8_heardToPartsEnd 9 = .ok (.getfield 20, 3) := by decide +kernel
theorem dX8_heardToPartsEnd_12 : decode cX8_heardToPartsEnd 12 = .ok (.invokevirtual 80, 3) := by decide +kernel
theorem dX8_heardToPartsEnd_15 : decode cX8_heardToPartsEnd 15 = .ok (.if_icmp .ge 66, 3) := by decide +kernel
theorem dX8_heardToPartsEnd_18 : decode cX8_heardToPartsEnd 18 = .ok (.aload_n 0, 1) := by decide +kernel
theorem dX8_heardToPartsEnd_19 : decode cX8_heardToPartsEnd 19 = .ok (.getfield 20, 3) := by decide +kernel
theorem dX8_heardToPartsEnd_22 : decode cX8_heardToPartsEnd 22 = .ok (.iload 5, 2) := by decide +kernel
theorem dX8_heardToPartsEnd_24 : decode cX8_heardToPartsEnd 24 = .ok (.invokevirtual 220, 3) := by decide +kernel
theorem dX8_heardToPartsEnd_27 : decode cX8_heardToPartsEnd 27 = .ok (.checkcast 84, 3) := by decide +kernel
theorem dX8_heardToPartsEnd_30 : decode cX8_heardToPartsEnd 30 = .ok (.astore 6, 2) := by decide +kernel
theorem dX8_heardToPartsEnd_32 : decode cX8_heardToPartsEnd 32 = .ok (.iload_n 1, 1) := by decide +kernel
theorem dX8_heardToPartsEnd_33 : decode cX8_heardToPartsEnd 33 = .ok (.iload 5, 2) := by decide +kernel
theorem dX8_heardToPartsEnd_35 : decode cX8_heardToPartsEnd 35 = .ok (.invokestatic 105, 3) := by decide +kernel
theorem dX8_heardToPartsEnd_38 : decode cX8_heardToPartsEnd 38 = .ok (.ifCond .eq 37, 3) := by decide +kernel
theorem dX8_heardToPartsEnd_41 : decode cX8_heardToPartsEnd 41 = .ok (.aload 6, 2) := by decide +kernel
theorem dX8_heardToPartsEnd_43 : decode cX8_heardToPartsEnd 43 = .ok (.getfield 102, 3) := by decide +kernel
theorem dX8_heardToPartsEnd_46 : decode cX8_heardToPartsEnd 46 = .ok (.iload 4, 2) := by decide +kernel
theorem dX8_heardToPartsEnd_48 : decode cX8_heardToPartsEnd 48 = .ok (.iconst (-1), 1) := by decide +kernel
theorem dX8_heardToPartsEnd_49 : decode cX8_heardToPartsEnd 49 = .ok (.ixor, 1) := by decide +kernel
theorem dX8_heardToPartsEnd_50 : decode cX8_heardToPartsEnd 50 = .ok (.iand, 1) := by decide +kernel
theorem dX8_heardToPartsEnd_51 : decode cX8_heardToPartsEnd 51 = .ok (.ifCond .ne 24, 3) := by decide +kernel
theorem dX8_heardToPartsEnd_54 : decode cX8_heardToPartsEnd 54 = .ok (.aload_n 0, 1) := by decide +kernel
theorem dX8_heardToPartsEnd_55 : decode cX8_heardToPartsEnd 55 = .ok (.aload 6, 2) := by decide +kernel
theorem dX8_heardToPartsEnd_57 : decode cX8_heardToPartsEnd 57 = .ok (.iconst 0, 1) := by decide +kernel
theorem dX8_heardToPartsEnd_58 : decode cX8_heardToPartsEnd 58 = .ok (.iload_n 2, 1) := by decide +kernel
theorem dX8_heardToPartsEnd_59 : decode cX8_heardToPartsEnd 59 = .ok (.aload_n 3, 1) := by decide +kernel
theorem dX8_heardToPartsEnd_60 : decode cX8_heardToPartsEnd 60 = .ok (.invokevirtual 173, 3) := by decide +kernel
theorem dX8_heardToPartsEnd_63 : decode cX8_heardToPartsEnd 63 = .ok (.ifCond .ge 12, 3) := by decide +kernel
theorem dX8_heardToPartsEnd_66 : decode cX8_heardToPartsEnd 66 = .ok (.iload 4, 2) := by decide +kernel
theorem dX8_heardToPartsEnd_68 : decode cX8_heardToPartsEnd 68 = .ok (.iconst 1, 1) := by decide +kernel
theorem dX8_heardToPartsEnd_69 : decode cX8_heardToPartsEnd 69 = .ok (.iload 5, 2) := by decide +kernel
theorem dX8_heardToPartsEnd_71 : decode cX8_heardToPartsEnd 71 = .ok (.ishl, 1) := by decide +kernel
theorem dX8_heardToPartsEnd_72 : decode cX8_heardToPartsEnd 72 = .ok (.ior, 1) := by decide +kernel
theorem dX8_heardToPartsEnd_73 : decode cX8_heardToPartsEnd 73 = .ok (.istore 4, 2) := by decide +kernel
theorem dX8_heardToPartsEnd_75 : decode cX8_heardToPartsEnd 75 = .ok (.iinc 5 1, 3) := by decide +kernel
theorem dX8_heardToPartsEnd_78 : decode cX8_heardToPartsEnd 78 = .ok (.goto (-72), 3) := by decide +kernel
theorem dX8_heardToPartsEnd_81 : decode cX8_heardToPartsEnd 81 = .ok (.iload 4, 2) := by decide +kernel
theorem dX8_heardToPartsEnd_83 : decode cX8_heardToPartsEnd 83 = .ok (.ireturn, 1) := by decide +kernel
theorem dX8_heardTo_0 : decode cX8_heardTo 0 = .ok (.iload_n 1, 1) := by decide +kernel
theorem dX8_heardTo_1 : decode cX8_heardTo 1 = .ok (.ifCond .ne 6, 3) := by decide +kernel
theorem dX8_heardTo_4 : decode cX8_heardTo 4 = .ok (.iload 4, 2) := by decide +kernel
theorem dX8_heardTo_6 : decode cX8_heardTo 6 = .ok (.ireturn, 1) := by decide +kernel
theorem dX8_heardTo_7 : decode cX8_heardTo 7 = .ok (.iconst 0, 1) := by decide +kernel
theorem dX8_heardTo_8 : decode cX8_heardTo 8 = .ok (.istore 5, 2) := by decide +kernel
theorem dX8_heardTo_10 : decode cX8_heardTo 10 = .ok (.iconst 0, 1) := by decide +kernel
theorem dX8_heardTo_11 : decode cX8_heardTo 11 = .ok (.istore 6, 2) := by decide +kernel
theorem dX8_heardTo_13 : decode cX8_heardTo 13 = .ok (.iload 6, 2) := by decide +kernel
theorem dX8_heardTo_15 : decode cX8_heardTo 15 = .ok (.aload_n 0, 1) := by decide +kernel
theorem dX8_heardTo_16 : decode cX8_heardTo 16 = .ok (.getfield 20, 3) := by decide +kernel
theorem dX8_heardTo_19 : decode cX8_heardTo 19 = .ok (.invokevirtual 80, 3) := by decide +kernel
theorem dX8_heardTo_22 : decode cX8_heardTo 22 = .ok (.if_icmp .ge 74, 3) := by decide +kernel
theorem dX8_heardTo_25 : decode cX8_heardTo 25 = .ok (.aload_n 0, 1) := by decide +kernel
theorem dX8_heardTo_26 : decode cX8_heardTo 26 = .ok (.getfield 20, 3) := by decide +kernel
theorem dX8_heardTo_29 : decode cX8_heardTo 29 = .ok (.iload 6, 2) := by decide +kernel
theorem dX8_heardTo_31 : decode cX8_heardTo 31 = .ok (.invokevirtual 220, 3) := by decide +kernel
theorem dX8_heardTo_34 : decode cX8_heardTo 34 = .ok (.checkcast 84, 3) := by decide +kernel
theorem dX8_heardTo_37 : decode cX8_heardTo 37 = .ok (.astore 7, 2) := by decide +kernel
theorem dX8_heardTo_39 : decode cX8_heardTo 39 = .ok (.iload_n 1, 1) := by decide +kernel
theorem dX8_heardTo_40 : decode cX8_heardTo 40 = .ok (.iconst 1, 1) := by decide +kernel
theorem dX8_heardTo_41 : decode cX8_heardTo 41 = .ok (.if_icmp .eq 16, 3) := by decide +kernel
theorem dX8_heardTo_44 : decode cX8_heardTo 44 = .ok (.aload 7, 2) := by decide +kernel
theorem dX8_heardTo_46 : decode cX8_heardTo 46 = .ok (.getfield 102, 3) := by decide +kernel
theorem dX8_heardTo_49 : decode cX8_heardTo 49 = .ok (.iload 4, 2) := by decide +kernel
theorem dX8_heardTo_51 : decode cX8_heardTo 51 = .ok (.iconst (-1), 1) := by decide +kernel
theorem dX8_heardTo_52 : decode cX8_heardTo 52 = .ok (.ixor, 1) := by decide +kernel
theorem dX8_heardTo_53 : decode cX8_heardTo 53 = .ok (.iand, 1) := by decide +kernel
theorem dX8_heardTo_54 : decode cX8_heardTo 54 = .ok (.ifCond .ne 7, 3) := by decide +kernel
theorem dX8_heardTo_57 : decode cX8_heardTo 57 = .ok (.iconst 1, 1) := by decide +kernel
theorem dX8_heardTo_58 : decode cX8_heardTo 58 = .ok (.goto 4, 3) := by decide +kernel
theorem dX8_heardTo_61 : decode cX8_heardTo 61 = .ok (.iconst 0, 1) := by decide +kernel
theorem dX8_heardTo_62 : decode cX8_heardTo 62 = .ok (.istore 8, 2) := by decide +kernel
theorem dX8_heardTo_64 : decode cX8_heardTo 64 = .ok (.iload 8, 2) := by decide +kernel
theorem dX8_heardTo_66 : decode cX8_heardTo 66 = .ok (.ifCond .eq 24, 3) := by decide +kernel
theorem dX8_heardTo_69 : decode cX8_heardTo 69 = .ok (.aload_n 0, 1) := by decide +kernel
theorem dX8_heardTo_70 : decode cX8_heardTo 70 = .ok (.aload 7, 2) := by decide +kernel
theorem dX8_heardTo_72 : decode cX8_heardTo 72 = .ok (.iload_n 1, 1) := by decide +kernel
theorem dX8_heardTo_73 : decode cX8_heardTo 73 = .ok (.iload_n 2, 1) := by decide +kernel
theorem dX8_heardTo_74 : decode cX8_heardTo 74 = .ok (.aload_n 3, 1) := by decide +kernel
theorem dX8_heardTo_75 : decode cX8_heardTo 75 = .ok (.invokevirtual 173, 3) := by decide +kernel
theorem dX8_heardTo_78 : decode cX8_heardTo 78 = .ok (.ifCond .ge 12, 3) := by decide +kernel
theorem dX8_heardTo_81 : decode cX8_heardTo 81 = .ok (.iload 5, 2) := by decide +kernel
theorem dX8_heardTo_83 : decode cX8_heardTo 83 = .ok (.iconst 1, 1) := by decide +kernel
theorem dX8_heardTo_84 : decode cX8_heardTo 84 = .ok (.iload 6, 2) := by decide +kernel
theorem dX8_heardTo_86 : decode cX8_heardTo 86 = .ok (.ishl, 1) := by decide +kernel
theorem dX8_heardTo_87 : decode cX8_heardTo 87 = .ok (.ior, 1) := by decide +kernel
theorem dX8_heardTo_88 : decode cX8_heardTo 88 = .ok (.istore 5, 2) := by decide +kernel
theorem dX8_heardTo_90 : decode cX8_heardTo 90 = .ok (.iinc 6 1, 3) := by decide +kernel
theorem dX8_heardTo_93 : decode cX8_heardTo 93 = .ok (.goto (-80), 3) := by decide +kernel
theorem dX8_heardTo_96 : decode cX8_heardTo 96 = .ok (.iload 5, 2) := by decide +kernel
theorem dX8_heardTo_98 : decode cX8_heardTo 98 = .ok (.ireturn, 1) := by decide +kernel
theorem dX8_isHeard_0 : decode cX8_isHeard 0 = .ok (.aload_n 0, 1) := by decide +kernel
theorem dX8_isHeard_1 : decode cX8_isHeard 1 = .ok (.aload_n 1, 1) := by decide +kernel
theorem dX8_isHeard_2 : decode cX8_isHeard 2 = .ok (.iload_n 2, 1) := by decide +kernel
theorem dX8_isHeard_3 : decode cX8_isHeard 3 = .ok (.iload_n 3, 1) := by decide +kernel
theorem dX8_isHeard_4 : decode cX8_isHeard 4 = .ok (.aload 4, 2) := by decide +kernel
theorem dX8_isHeard_6 : decode cX8_isHeard 6 = .ok (.invokevirtual 173, 3) := by decide +kernel
theorem dX8_isHeard_9 : decode cX8_isHeard 9 = .ok (.ifCond .lt 5, 3) := by decide +kernel
theorem dX8_isHeard_12 : decode cX8_isHeard 12 = .ok (.iconst 0, 1) := by decide +kernel
theorem dX8_isHeard_13 : decode cX8_isHeard 13 = .ok (.ireturn, 1) := by decide +kernel
theorem dX8_isHeard_14 : decode cX8_isHeard 14 = .ok (.iload_n 2, 1) := by decide +kernel
theorem dX8_isHeard_15 : decode cX8_isHeard 15 = .ok (.iconst 1, 1) := by decide +kernel
theorem dX8_isHeard_16 : decode cX8_isHeard 16 = .ok (.if_icmp .ne 7, 3) := by decide +kernel
theorem dX8_isHeard_19 : decode cX8_isHeard 19 = .ok (.iconst 0, 1) := by decide +kernel
theorem dX8_isHeard_20 : decode cX8_isHeard 20 = .ok (.goto 11, 3) := by decide +kernel
theorem dX8_isHeard_23 : decode cX8_isHeard 23 = .ok (.aload_n 0, 1) := by decide +kernel
theorem dX8_isHeard_24 : decode cX8_isHeard 24 = .ok (.aload_n 1, 1) := by decide +kernel
theorem dX8_isHeard_25 : decode cX8_isHeard 25 = .ok (.getfield 102, 3) := by decide +kernel
theorem dX8_isHeard_28 : decode cX8_isHeard 28 = .ok (.invokevirtual 177, 3) := by decide +kernel
theorem dX8_isHeard_31 : decode cX8_isHeard 31 = .ok (.istore 5, 2) := by decide +kernel
theorem dX8_isHeard_33 : decode cX8_isHeard 33 = .ok (.iconst 0, 1) := by decide +kernel
theorem dX8_isHeard_34 : decode cX8_isHeard 34 = .ok (.istore 6, 2) := by decide +kernel
theorem dX8_isHeard_36 : decode cX8_isHeard 36 = .ok (.iload 6, 2) := by decide +kernel
theorem dX8_isHeard_38 : decode cX8_isHeard 38 = .ok (.aload_n 0, 1) := by decide +kernel
theorem dX8_isHeard_39 : decode cX8_isHeard 39 = .ok (.getfield 20, 3) := by decide +kernel
theorem dX8_isHeard_42 : decode cX8_isHeard 42 = .ok (.invokevirtual 80, 3) := by decide +kernel
theorem dX8_isHeard_45 : decode cX8_isHeard 45 = .ok (.if_icmp .ge 44, 3) := by decide +kernel
theorem dX8_isHeard_48 : decode cX8_isHeard 48 = .ok (.iload 5, 2) := by decide +kernel
theorem dX8_isHeard_50 : decode cX8_isHeard 50 = .ok (.iload 6, 2) := by decide +kernel
theorem dX8_isHeard_52 : decode cX8_isHeard 52 = .ok (.invokestatic 105, 3) := by decide +kernel
theorem dX8_isHeard_55 : decode cX8_isHeard 55 = .ok (.ifCond .eq 28, 3) := by decide +kernel
theorem dX8_isHeard_58 : decode cX8_isHeard 58 = .ok (.aload_n 0, 1) := by decide +kernel
theorem dX8_isHeard_59 : decode cX8_isHeard 59 = .ok (.aload_n 0, 1) := by decide +kernel
theorem dX8_isHeard_60 : decode cX8_isHeard 60 = .ok (.getfield 20, 3) := by decide +kernel
theorem dX8_isHeard_63 : decode cX8_isHeard 63 = .ok (.iload 6, 2) := by decide +kernel
theorem dX8_isHeard_65 : decode cX8_isHeard 65 = .ok (.invokevirtual 220, 3) := by decide +kernel
theorem dX8_isHeard_68 : decode cX8_isHeard 68 = .ok (.checkcast 84, 3) := by decide +kernel
theorem dX8_isHeard_71 : decode cX8_isHeard 71 = .ok (.iconst 0, 1) := by decide +kernel
theorem dX8_isHeard_72 : decode cX8_isHeard 72 = .ok (.iload_n 3, 1) := by decide +kernel
theorem dX8_isHeard_73 : decode cX8_isHeard 73 = .ok (.aload 4, 2) := by decide +kernel
theorem dX8_isHeard_75 : decode cX8_isHeard 75 = .ok (.invokevirtual 173, 3) := by decide +kernel
theorem dX8_isHeard_78 : decode cX8_isHeard 78 = .ok (.ifCond .lt 5, 3) := by decide +kernel
theorem dX8_isHeard_81 : decode cX8_isHeard 81 = .ok (.iconst 0, 1) := by decide +kernel
theorem dX8_isHeard_82 : decode cX8_isHeard 82 = .ok (.ireturn, 1) := by decide +kernel
theorem dX8_isHeard_83 : decode cX8_isHeard 83 = .ok (.iinc 6 1, 3) := by decide +kernel
theorem dX8_isHeard_86 : decode cX8_isHeard 86 = .ok (.goto (-50), 3) := by decide +kernel
theorem dX8_isHeard_89 : decode cX8_isHeard 89 = .ok (.iconst 1, 1) := by decide +kernel
theorem dX8_isHeard_90 : decode cX8_isHeard 90 = .ok (.ireturn, 1) := by decide +kernel
theorem dX8_firstUnheard_0 : decode cX8_firstUnheard 0 = .ok (.iconst 0, 1) := by decide +kernel
theorem dX8_firstUnheard_1 : decode cX8_firstUnheard 1 = .ok (.istore_n 2, 1) := by decide +kernel
theorem dX8_firstUnheard_2 : decode cX8_firstUnheard 2 = .ok (.iload_n 2, 1) := by decide +kernel
theorem dX8_firstUnheard_3 : decode cX8_firstUnheard 3 = .ok (.aload_n 0, 1) := by decide +kernel
theorem dX8_firstUnheard_4 : decode cX8_firstUnheard 4 = .ok (.getfield 108, 3) := by decide +kernel
theorem dX8_firstUnheard_7 : decode cX8_firstUnheard 7 = .ok (.invokevirtual 80, 3) := by decide +kernel
theorem dX8_firstUnheard_10 : decode cX8_firstUnheard 10 = .ok (.if_icmp .ge 34, 3) := by decide +kernel
theorem dX8_firstUnheard_13 : decode cX8_firstUnheard 13 = .ok (.aload_n 0, 1) := by decide +kernel
theorem dX8_firstUnheard_14 : decode cX8_firstUnheard 14 = .ok (.getfield 108, 3) := by decide +kernel
theorem dX8_firstUnheard_17 : decode cX8_firstUnheard 17 = .ok (.iload_n 2, 1) := by decide +kernel
theorem dX8_firstUnheard_18 : decode cX8_firstUnheard 18 = .ok (.invokevirtual 220, 3) := by decide +kernel
theorem dX8_firstUnheard_21 : decode cX8_firstUnheard 21 = .ok (.checkcast 84, 3) := by decide +kernel
theorem dX8_firstUnheard_24 : decode cX8_firstUnheard 24 = .ok (.astore_n 3, 1) := by decide +kernel
theorem dX8_firstUnheard_25 : decode cX8_firstUnheard 25 = .ok (.iload_n 1, 1) := by decide +kernel
theorem dX8_firstUnheard_26 : decode cX8_firstUnheard 26 = .ok (.aload_n 3, 1) := by decide +kernel
theorem dX8_firstUnheard_27 : decode cX8_firstUnheard 27 = .ok (.getfield 127, 3) := by decide +kernel
theorem dX8_firstUnheard_30 : decode cX8_firstUnheard 30 = .ok (.invokestatic 105, 3) := by decide +kernel
theorem dX8_firstUnheard_33 : decode cX8_firstUnheard 33 = .ok (.ifCond .ne 5, 3) := by decide +kernel
theorem dX8_firstUnheard_36 : decode cX8_firstUnheard 36 = .ok (.aload_n 3, 1) := by decide +kernel
theorem dX8_firstUnheard_37 : decode cX8_firstUnheard 37 = .ok (.areturn, 1) := by decide +kernel
theorem dX8_firstUnheard_38 : decode cX8_firstUnheard 38 = .ok (.iinc 2 1, 3) := by decide +kernel
theorem dX8_firstUnheard_41 : decode cX8_firstUnheard 41 = .ok (.goto (-39), 3) := by decide +kernel
theorem dX8_firstUnheard_44 : decode cX8_firstUnheard 44 = .ok (.aconst_null, 1) := by decide +kernel
theorem dX8_firstUnheard_45 : decode cX8_firstUnheard 45 = .ok (.areturn, 1) := by decide +kernel
theorem dX8_unheardPlaces_0 : decode cX8_unheardPlaces 0 = .ok (.iconst 0, 1) := by decide +kernel
theorem dX8_unheardPlaces_1 : decode cX8_unheardPlaces 1 = .ok (.istore_n 2, 1) := by decide +kernel
theorem dX8_unheardPlaces_2 : decode cX8_unheardPlaces 2 = .ok (.iconst 0, 1) := by decide +kernel
theorem dX8_unheardPlaces_3 : decode cX8_unheardPlaces 3 = .ok (.istore_n 3, 1) := by decide +kernel
theorem dX8_unheardPlaces_4 : decode cX8_unheardPlaces 4 = .ok (.iload_n 3, 1) := by decide +kernel
theorem dX8_unheardPlaces_5 : decode cX8_unheardPlaces 5 = .ok (.aload_n 0, 1) := by decide +kernel
theorem dX8_unheardPlaces_6 : decode cX8_unheardPlaces 6 = .ok (.getfield 108, 3) := by decide +kernel
theorem dX8_unheardPlaces_9 : decode cX8_unheardPlaces 9 = .ok (.invokevirtual 80, 3) := by decide +kernel
theorem dX8_unheardPlaces_12 : decode cX8_unheardPlaces 12 = .ok (.if_icmp .ge 36, 3) := by decide +kernel
theorem dX8_unheardPlaces_15 : decode cX8_unheardPlaces 15 = .ok (.iload_n 1, 1) := by decide +kernel
theorem dX8_unheardPlaces_16 : decode cX8_unheardPlaces 16 = .ok (.aload_n 0, 1) := by decide +kernel
theorem dX8_unheardPlaces_17 : decode cX8_unheardPlaces 17 = .ok (.getfield 108, 3) := by decide +kernel
theorem dX8_unheardPlaces_20 : decode cX8_unheardPlaces 20 = .ok (.iload_n 3, 1) := by decide +kernel
theorem dX8_unheardPlaces_21 : decode cX8_unheardPlaces 21 = .ok (.invokevirtual 220, 3) := by decide +kernel
theorem dX8_unheardPlaces_24 : decode cX8_unheardPlaces 24 = .ok (.checkcast 84, 3) := by decide +kernel
theorem dX8_unheardPlaces_27 : decode cX8_unheardPlaces 27 = .ok (.getfield 127, 3) := by decide +kernel
theorem dX8_unheardPlaces_30 : decode cX8_unheardPlaces 30 = .ok (.invokestatic 105, 3) := by decide +kernel
theorem dX8_unheardPlaces_33 : decode cX8_unheardPlaces 33 = .ok (.ifCond .ne 9, 3) := by decide +kernel
theorem dX8_unheardPlaces_36 : decode cX8_unheardPlaces 36 = .ok (.iload_n 2, 1) := by decide +kernel
theorem dX8_unheardPlaces_37 : decode cX8_unheardPlaces 37 = .ok (.iconst 1, 1) := by decide +kernel
theorem dX8_unheardPlaces_38 : decode cX8_unheardPlaces 38 = .ok (.iload_n 3, 1) := by decide +kernel
theorem dX8_unheardPlaces_39 : decode cX8_unheardPlaces 39 = .ok (.ishl, 1) := by decide +kernel
theorem dX8_unheardPlaces_40 : decode cX8_unheardPlaces 40 = .ok (.ior, 1) := by decide +kernel
theorem dX8_unheardPlaces_41 : decode cX8_unheardPlaces 41 = .ok (.istore_n 2, 1) := by decide +kernel
theorem dX8_unheardPlaces_42 : decode cX8_unheardPlaces 42 = .ok (.iinc 3 1, 3) := by decide +kernel
theorem dX8_unheardPlaces_45 : decode cX8_unheardPlaces 45 = .ok (.goto (-41), 3) := by decide +kernel
theorem dX8_unheardPlaces_48 : decode cX8_unheardPlaces 48 = .ok (.iload_n 2, 1) := by decide +kernel
theorem dX8_unheardPlaces_49 : decode cX8_unheardPlaces 49 = .ok (.ireturn, 1) := by decide +kernel
theorem dX8_factsAsked_0 : decode cX8_factsAsked 0 = .ok (.iconst 0, 1) := by decide +kernel
theorem dX8_factsAsked_1 : decode cX8_factsAsked 1 = .ok (.istore_n 2, 1) := by decide +kernel
theorem dX8_factsAsked_2 : decode cX8_factsAsked 2 = .ok (.iconst 0, 1) := by decide +kernel
theorem dX8_factsAsked_3 : decode cX8_factsAsked 3 = .ok (.istore_n 3, 1) := by decide +kernel
theorem dX8_factsAsked_4 : decode cX8_factsAsked 4 = .ok (.iload_n 3, 1) := by decide +kernel
theorem dX8_factsAsked_5 : decode cX8_factsAsked 5 = .ok (.aload_n 0, 1) := by decide +kernel
theorem dX8_factsAsked_6 : decode cX8_factsAsked 6 = .ok (.getfield 24, 3) := by decide +kernel
theorem dX8_factsAsked_9 : decode cX8_factsAsked 9 = .ok (.invokevirtual 80, 3) := by decide +kernel
theorem dX8_factsAsked_12 : decode cX8_factsAsked 12 = .ok (.if_icmp .ge 39, 3) := by decide +kernel
theorem dX8_factsAsked_15 : decode cX8_factsAsked 15 = .ok (.aload_n 0, 1) := by decide +kernel
theorem dX8_factsAsked_16 : decode cX8_factsAsked 16 = .ok (.getfield 24, 3) := by decide +kernel
theorem dX8_factsAsked_19 : decode cX8_factsAsked 19 = .ok (.iload_n 3, 1) := by decide +kernel
theorem dX8_factsAsked_20 : decode cX8_factsAsked 20 = .ok (.invokevirtual 220, 3) := by decide +kernel
theorem dX8_factsAsked_23 : decode cX8_factsAsked 23 = .ok (.checkcast 153, 3) := by decide +kernel
theorem dX8_factsAsked_26 : decode cX8_factsAsked 26 = .ok (.astore 4, 2) := by decide +kernel
theorem dX8_factsAsked_28 : decode cX8_factsAsked 28 = .ok (.aload 4, 2) := by decide +kernel
theorem dX8_factsAsked_30 : decode cX8_factsAsked 30 = .ok (.getfield 224, 3) := by decide +kernel
theorem dX8_factsAsked_33 : decode cX8_factsAsked 33 = .ok (.iload_n 1, 1) := by decide +kernel
theorem dX8_factsAsked_34 : decode cX8_factsAsked 34 = .ok (.if_icmp .ne 11, 3) := by decide +kernel
theorem dX8_factsAsked_37 : decode cX8_factsAsked 37 = .ok (.iload_n 2, 1) := by decide +kernel
theorem dX8_factsAsked_38 : decode cX8_factsAsked 38 = .ok (.aload 4, 2) := by decide +kernel
theorem dX8_factsAsked_40 : decode cX8_factsAsked 40 = .ok (.getfield 308, 3) := by decide +kernel
theorem dX8_factsAsked_43 : decode cX8_factsAsked 43 = .ok (.ior, 1) := by decide +kernel
theorem dX8_factsAsked_44 : decode cX8_factsAsked 44 = .ok (.istore_n 2, 1) := by decide +kernel
theorem dX8_factsAsked_45 : decode cX8_factsAsked 45 = .ok (.iinc 3 1, 3) := by decide +kernel
theorem dX8_factsAsked_48 : decode cX8_factsAsked 48 = .ok (.goto (-44), 3) := by decide +kernel
theorem dX8_factsAsked_51 : decode cX8_factsAsked 51 = .ok (.iload_n 2, 1) := by decide +kernel
theorem dX8_factsAsked_52 : decode cX8_factsAsked 52 = .ok (.ireturn, 1) := by decide +kernel
theorem dX8_isMet_0 : decode cX8_isMet 0 = .ok (.iconst 0, 1) := by decide +kernel
theorem dX8_isMet_1 : decode cX8_isMet 1 = .ok (.istore 4, 2) := by decide +kernel
theorem dX8_isMet_3 : decode cX8_isMet 3 = .ok (.iload 4, 2) := by decide +kernel
theorem dX8_isMet_5 : decode cX8_isMet 5 = .ok (.aload_n 0, 1) := by decide +kernel
theorem dX8_isMet_6 : decode cX8_isMet 6 = .ok (.getfield 24, 3) := by decide +kernel
theorem dX8_isMet_9 : decode cX8_isMet 9 = .ok (.invokevirtual 80, 3) := by decide +kernel
theorem dX8_isMet_12 : decode cX8_isMet 12 = .ok (.if_icmp .ge 48, 3) := by decide +kernel
theorem dX8_isMet_15 : decode cX8_isMet 15 = .ok (.aload_n 0, 1) := by decide +kernel
theorem dX8_isMet_16 : decode cX8_isMet 16 = .ok (.getfield 24, 3) := by decide +kernel
theorem dX8_isMet_19 : decode cX8_isMet 19 = .ok (.iload 4, 2) := by decide +kernel
theorem dX8_isMet_21 : decode cX8_isMet 21 = .ok (.invokevirtual 220, 3) := by decide +kernel
theorem dX8_isMet_24 : decode cX8_isMet 24 = .ok (.checkcast 153, 3) := by decide +kernel
theorem dX8_isMet_27 : decode cX8_isMet 27 = .ok (.astore 5, 2) := by decide +kernel
theorem dX8_isMet_29 : decode cX8_isMet 29 = .ok (.aload 5, 2) := by decide +kernel
theorem dX8_isMet_31 : decode cX8_isMet 31 = .ok (.getfield 224, 3) := by decide +kernel
theorem dX8_isMet_34 : decode cX8_isMet 34 = .ok (.iload_n 3, 1) := by decide +kernel
theorem dX8_isMet_35 : decode cX8_isMet 35 = .ok (.if_icmp .ne 19, 3) := by decide +kernel
theorem dX8_isMet_38 : decode cX8_isMet 38 = .ok (.aload 5, 2) := by decide +kernel
theorem dX8_isMet_40 : decode cX8_isMet 40 = .ok (.aload_n 1, 1) := by decide +kernel
theorem dX8_isMet_41 : decode cX8_isMet 41 = .ok (.iload_n 2, 1) := by decide +kernel
theorem dX8_isMet_42 : decode cX8_isMet 42 = .ok (.aload_n 0, 1) := by decide +kernel
theorem dX8_isMet_43 : decode cX8_isMet 43 = .ok (.getfield 37, 3) := by decide +kernel
theorem dX8_isMet_46 : decode cX8_isMet 46 = .ok (.invokevirtual 152, 3) := by decide +kernel
theorem dX8_isMet_49 : decode cX8_isMet 49 = .ok (.ifCond .eq 5, 3) := by decide +kernel
theorem dX8_isMet_52 : decode cX8_isMet 52 = .ok (.iconst 1, 1) := by decide +kernel
theorem dX8_isMet_53 : decode cX8_isMet 53 = .ok (.ireturn, 1) := by decide +kernel
theorem dX8_isMet_54 : decode cX8_isMet 54 = .ok (.iinc 4 1, 3) := by decide +kernel
theorem dX8_isMet_57 : decode cX8_isMet 57 = .ok (.goto (-54), 3) := by decide +kernel
theorem dX8_isMet_60 : decode cX8_isMet 60 = .ok (.iconst 0, 1) := by decide +kernel
theorem dX8_isMet_61 : decode cX8_isMet 61 = .ok (.ireturn, 1) := by decide +kernel
theorem dX8_rulesOfFirstLand_0 : decode cX8_rulesOfFirstLand 0 = .ok (.iconst 0, 1) := by decide +kernel
theorem dX8_rulesOfFirstLand_1 : decode cX8_rulesOfFirstLand 1 = .ok (.istore_n 1, 1) := by decide +kernel
theorem dX8_rulesOfFirstLand_2 : decode cX8_rulesOfFirstLand 2 = .ok (.iconst 0, 1) := by decide +kernel
theorem dX8_rulesOfFirstLand_3 : decode cX8_rulesOfFirstLand 3 = .ok (.istore_n 2, 1) := by decide +kernel
theorem dX8_rulesOfFirstLand_4 : decode cX8_rulesOfFirstLand 4 = .ok (.iload_n 2, 1) := by decide +kernel
theorem dX8_rulesOfFirstLand_5 : decode cX8_rulesOfFirstLand 5 = .ok (.aload_n 0, 1) := by decide +kernel
theorem dX8_rulesOfFirstLand_6 : decode cX8_rulesOfFirstLand 6 = .ok (.getfield 24, 3) := by decide +kernel
theorem dX8_rulesOfFirstLand_9 : decode cX8_rulesOfFirstLand 9 = .ok (.invokevirtual 80, 3) := by decide +kernel
theorem dX8_rulesOfFirstLand_12 : decode cX8_rulesOfFirstLand 12 = .ok (.if_icmp .ge 29, 3) := by decide +kernel
theorem dX8_rulesOfFirstLand_15 : decode cX8_rulesOfFirstLand 15 = .ok (.aload_n 0, 1) := by decide +kernel
theorem dX8_rulesOfFirstLand_16 : decode cX8_rulesOfFirstLand 16 = .ok (.getfield 24, 3) := by decide +kernel
theorem dX8_rulesOfFirstLand_19 : decode cX8_rulesOfFirstLand 19 = .ok (.iload_n 2, 1) := by decide +kernel
theorem dX8_rulesOfFirstLand_20 : decode cX8_rulesOfFirstLand 20 = .ok (.invokevirtual 220, 3) := by decide +kernel
theorem dX8_rulesOfFirstLand_23 : decode cX8_rulesOfFirstLand 23 = .ok (.checkcast 153, 3) := by decide +kernel
theorem dX8_rulesOfFirstLand_26 : decode cX8_rulesOfFirstLand 26 = .ok (.getfield 224, 3) := by decide +kernel
theorem dX8_rulesOfFirstLand_29 : decode cX8_rulesOfFirstLand 29 = .ok (.ifCond .ne 6, 3) := by decide +kernel
theorem dX8_rulesOfFirstLand_32 : decode cX8_rulesOfFirstLand 32 = .ok (.iinc 1 1, 3) := by decide +kernel
theorem dX8_rulesOfFirstLand_35 : decode cX8_rulesOfFirstLand 35 = .ok (.iinc 2 1, 3) := by decide +kernel
theorem dX8_rulesOfFirstLand_38 : decode cX8_rulesOfFirstLand 38 = .ok (.goto (-34), 3) := by decide +kernel
theorem dX8_rulesOfFirstLand_41 : decode cX8_rulesOfFirstLand 41 = .ok (.iload_n 1, 1) := by decide +kernel
theorem dX8_rulesOfFirstLand_42 : decode cX8_rulesOfFirstLand 42 = .ok (.ireturn, 1) := by decide +kernel
theorem dX8_provedWithout_0 : decode cX8_provedWithout 0 = .ok (.aload_n 0, 1) := by decide +kernel
theorem dX8_provedWithout_1 : decode cX8_provedWithout 1 = .ok (.getfield 37, 3) := by decide +kernel
theorem dX8_provedWithout_4 : decode cX8_provedWithout 4 = .ok (.getfield 128, 3) := by decide +kernel
theorem dX8_provedWithout_7 : decode cX8_provedWithout 7 = .ok (.istore_n 3, 1) := by decide +kernel
theorem dX8_provedWithout_8 : decode cX8_provedWithout 8 = .ok (.aload_n 0, 1) := by decide +kernel
theorem dX8_provedWithout_9 : decode cX8_provedWithout 9 = .ok (.invokevirtual 207, 3) := by decide +kernel
theorem dX8_provedWithout_12 : decode cX8_provedWithout 12 = .ok (.iload_n 1, 1) := by decide +kernel
theorem dX8_provedWithout_13 : decode cX8_provedWithout 13 = .ok (.iconst (-1), 1) := by decide +kernel
theorem dX8_provedWithout_14 : decode cX8_provedWithout 14 = .ok (.ixor, 1) := by decide +kernel
theorem dX8_provedWithout_15 : decode cX8_provedWithout 15 = .ok (.iand, 1) := by decide +kernel
theorem dX8_provedWithout_16 : decode cX8_provedWithout 16 = .ok (.istore 4, 2) := by decide +kernel
theorem dX8_provedWithout_18 : decode cX8_provedWithout 18 = .ok (.iconst 0, 1) := by decide +kernel
theorem dX8_provedWithout_19 : decode cX8_provedWithout 19 = .ok (.istore 5, 2) := by decide +kernel
theorem dX8_provedWithout_21 : decode cX8_provedWithout 21 = .ok (.iload 5, 2) := by decide +kernel
theorem dX8_provedWithout_23 : decode cX8_provedWithout 23 = .ok (.bipush 10, 2) := by decide +kernel
theorem dX8_provedWithout_25 : decode cX8_provedWithout 25 = .ok (.if_icmp .gt 52, 3) := by decide +kernel
theorem dX8_provedWithout_28 : decode cX8_provedWithout 28 = .ok (.aload_n 0, 1) := by decide +kernel
theorem dX8_provedWithout_29 : decode cX8_provedWithout 29 = .ok (.iload 4, 2) := by decide +kernel
theorem dX8_provedWithout_31 : decode cX8_provedWithout 31 = .ok (.iload_n 2, 1) := by decide +kernel
theorem dX8_provedWithout_32 : decode cX8_provedWithout 32 = .ok (.aload_n 0, 1) := by decide +kernel
theorem dX8_provedWithout_33 : decode cX8_provedWithout 33 = .ok (.iload_n 3, 1) := by decide +kernel
theorem dX8_provedWithout_34 : decode cX8_provedWithout 34 = .ok (.aload_n 0, 1) := by decide +kernel
theorem dX8_provedWithout_35 : decode cX8_provedWithout 35 = .ok (.getfield 37, 3) := by decide +kernel
theorem dX8_provedWithout_38 : decode cX8_provedWithout 38 = .ok (.getfield 145, 3) := by decide +kernel
theorem dX8_provedWithout_41 : decode cX8_provedWithout 41 = .ok (.iconst 0, 1) := by decide +kernel
theorem dX8_provedWithout_42 : decode cX8_provedWithout 42 = .ok (.invokevirtual 196, 3) := by decide +kernel
theorem dX8_provedWithout_45 : decode cX8_provedWithout 45 = .ok (.invokevirtual 180, 3) := by decide +kernel
theorem dX8_provedWithout_48 : decode cX8_provedWithout 48 = .ok (.istore 6, 2) := by decide +kernel
theorem dX8_provedWithout_50 : decode cX8_provedWithout 50 = .ok (.iload_n 3, 1) := by decide +kernel
theorem dX8_provedWithout_51 : decode cX8_provedWithout 51 = .ok (.aload_n 0, 1) := by decide +kernel
theorem dX8_provedWithout_52 : decode cX8_provedWithout 52 = .ok (.iload 6, 2) := by decide +kernel
theorem dX8_provedWithout_54 : decode cX8_provedWithout 54 = .ok (.invokevirtual 310, 3) := by decide +kernel
theorem dX8_provedWithout_57 : decode cX8_provedWithout 57 = .ok (.ior, 1) := by decide +kernel
theorem dX8_provedWithout_58 : decode cX8_provedWithout 58 = .ok (.istore 7, 2) := by decide +kernel
theorem dX8_provedWithout_60 : decode cX8_provedWithout 60 = .ok (.iload 7, 2) := by decide +kernel
theorem dX8_provedWithout_62 : decode cX8_provedWithout 62 = .ok (.iload_n 3, 1) := by decide +kernel
theorem dX8_provedWithout_63 : decode cX8_provedWithout 63 = .ok (.if_icmp .ne 5, 3) := by decide +kernel
theorem dX8_provedWithout_66 : decode cX8_provedWithout 66 = .ok (.iload_n 3, 1) := by decide +kernel
theorem dX8_provedWithout_67 : decode cX8_provedWithout 67 = .ok (.ireturn, 1) := by decide +kernel
theorem dX8_provedWithout_68 : decode cX8_provedWithout 68 = .ok (.iload 7, 2) := by decide +kernel
theorem dX8_provedWithout_70 : decode cX8_provedWithout 70 = .ok (.istore_n 3, 1) := by decide +kernel
theorem dX8_provedWithout_71 : decode cX8_provedWithout 71 = .ok (.iinc 5 1, 3) := by decide +kernel
theorem dX8_provedWithout_74 : decode cX8_provedWithout 74 = .ok (.goto (-53), 3) := by decide +kernel
theorem dX8_provedWithout_77 : decode cX8_provedWithout 77 = .ok (.iload_n 3, 1) := by decide +kernel
theorem dX8_provedWithout_78 : decode cX8_provedWithout 78 = .ok (.ireturn, 1) := by decide +kernel
theorem dX8_findOrder_0 : decode cX8_findOrder 0 = .ok (.iload_n 1, 1) := by decide +kernel
theorem dX8_findOrder_1 : decode cX8_findOrder 1 = .ok (.invokestatic 191, 3) := by decide +kernel
theorem dX8_findOrder_4 : decode cX8_findOrder 4 = .ok (.istore_n 3, 1) := by decide +kernel
theorem dX8_findOrder_5 : decode cX8_findOrder 5 = .ok (.iconst 1, 1) := by decide +kernel
theorem dX8_findOrder_6 : decode cX8_findOrder 6 = .ok (.iload_n 3, 1) := by decide +kernel
theorem dX8_findOrder_7 : decode cX8_findOrder 7 = .ok (.ishl, 1) := by decide +kernel
theorem dX8_findOrder_8 : decode cX8_findOrder 8 = .ok (.iconst 1, 1) := by decide +kernel
theorem dX8_findOrder_9 : decode cX8_findOrder 9 = .ok (.isub, 1) := by decide +kernel
theorem dX8_findOrder_10 : decode cX8_findOrder 10 = .ok (.istore 4, 2) := by decide +kernel
theorem dX8_findOrder_12 : decode cX8_findOrder 12 = .ok (.iload 4, 2) := by decide +kernel
theorem dX8_findOrder_14 : decode cX8_findOrder 14 = .ok (.iconst 1, 1) := by decide +kernel
theorem dX8_findOrder_15 : decode cX8_findOrder 15 = .ok (.isub, 1) := by decide +kernel
theorem dX8_findOrder_16 : decode cX8_findOrder 16 = .ok (.istore 5, 2) := by decide +kernel
theorem dX8_findOrder_18 : decode cX8_findOrder 18 = .ok (.iload 5, 2) := by decide +kernel
theorem dX8_findOrder_20 : decode cX8_findOrder 20 = .ok (.ifCond .lt 164, 3) := by decide +kernel
theorem dX8_findOrder_23 : decode cX8_findOrder 23 = .ok (.iload 5, 2) := by decide +kernel
theorem dX8_findOrder_25 : decode cX8_findOrder 25 = .ok (.aload_n 0, 1) := by decide +kernel
theorem dX8_findOrder_26 : decode cX8_findOrder 26 = .ok (.getfield 60, 3) := by decide +kernel
theorem dX8_findOrder_29 : decode cX8_findOrder 29 = .ok (.arraylength, 1) := by decide +kernel
theorem dX8_findOrder_30 : decode cX8_findOrder 30 = .ok (.if_icmp .ge 154, 3) := by decide +kernel
theorem dX8_findOrder_33 : decode cX8_findOrder 33 = .ok (.iload_n 1, 1) := by decide +kernel
theorem dX8_findOrder_34 : decode cX8_findOrder 34 = .ok (.iload 5, 2) := by decide +kernel
theorem dX8_findOrder_36 : decode cX8_findOrder 36 = .ok (.invokestatic 313, 3) := by decide +kernel
theorem dX8_findOrder_39 : decode cX8_findOrder 39 = .ok (.istore 6, 2) := by decide +kernel
theorem dX8_findOrder_41 : decode cX8_findOrder 41 = .ok (.iload_n 1, 1) := by decide +kernel
theorem dX8_findOrder_42 : decode cX8_findOrder 42 = .ok (.iload 6, 2) := by decide +kernel
theorem dX8_findOrder_44 : decode cX8_findOrder 44 = .ok (.iconst (-1), 1) := by decide +kernel
theorem dX8_findOrder_45 : decode cX8_findOrder 45 = .ok (.ixor, 1) := by decide +kernel
theorem dX8_findOrder_46 : decode cX8_findOrder 46 = .ok (.iand, 1) := by decide +kernel
theorem dX8_findOrder_47 : decode cX8_findOrder 47 = .ok (.istore 7, 2) := by decide +kernel
theorem dX8_findOrder_49 : decode cX8_findOrder 49 = .ok (.aload_n 0, 1) := by decide +kernel
theorem dX8_findOrder_50 : decode cX8_findOrder 50 = .ok (.aload_n 0, 1) := by decide +kernel
theorem dX8_findOrder_51 : decode cX8_findOrder 51 = .ok (.getfield 37, 3) := by decide +kernel
theorem dX8_findOrder_54 : decode cX8_findOrder 54 = .ok (.getfield 128, 3) := by decide +kernel
theorem dX8_findOrder_57 : decode cX8_findOrder 57 = .ok (.aload_n 0, 1) := by decide +kernel
theorem dX8_findOrder_58 : decode cX8_findOrder 58 = .ok (.iload 6, 2) := by decide +kernel
theorem dX8_findOrder_60 : decode cX8_findOrder 60 = .ok (.invokevirtual 310, 3) := by decide +kernel
theorem dX8_findOrder_63 : decode cX8_findOrder 63 = .ok (.ior, 1) := by decide +kernel
theorem dX8_findOrder_64 : decode cX8_findOrder 64 = .ok (.aload_n 0, 1) := by decide +kernel
theorem dX8_findOrder_65 : decode cX8_findOrder 65 = .ok (.getfield 37, 3) := by decide +kernel
theorem dX8_findOrder_68 : decode cX8_findOrder 68 = .ok (.getfield 145, 3) := by decide +kernel
theorem dX8_findOrder_71 : decode cX8_findOrder 71 = .ok (.iload 6, 2) := by decide +kernel
theorem dX8_findOrder_73 : decode cX8_findOrder 73 = .ok (.invokevirtual 196, 3) := by decide +kernel
theorem dX8_findOrder_76 : decode cX8_findOrder 76 = .ok (.astore 8, 2) := by decide +kernel
theorem dX8_findOrder_78 : decode cX8_findOrder 78 = .ok (.aload_n 0, 1) := by decide +kernel
theorem dX8_findOrder_79 : decode cX8_findOrder 79 = .ok (.aload_n 0, 1) := by decide +kernel
theorem dX8_findOrder_80 : decode cX8_findOrder 80 = .ok (.iload 7, 2) := by decide +kernel
theorem dX8_findOrder_82 : decode cX8_findOrder 82 = .ok (.invokevirtual 177, 3) := by decide +kernel
theorem dX8_findOrder_85 : decode cX8_findOrder 85 = .ok (.iload_n 2, 1) := by decide +kernel
theorem dX8_findOrder_86 : decode cX8_findOrder 86 = .ok (.aload 8, 2) := by decide +kernel
theorem dX8_findOrder_88 : decode cX8_findOrder 88 = .ok (.invokevirtual 180, 3) := by decide +kernel
theorem dX8_findOrder_91 : decode cX8_findOrder 91 = .ok (.istore 9, 2) := by decide +kernel
theorem dX8_findOrder_93 : decode cX8_findOrder 93 = .ok (.aload_n 0, 1) := by decide +kernel
theorem dX8_findOrder_94 : decode cX8_findOrder 94 = .ok (.getfield 60, 3) := by decide +kernel
theorem dX8_findOrder_97 : decode cX8_findOrder 97 = .ok (.iload 5, 2) := by decide +kernel
theorem dX8_findOrder_99 : decode cX8_findOrder 99 = .ok (.iconst (-1), 1) := by decide +kernel
theorem dX8_findOrder_100 : decode cX8_findOrder 100 = .ok (.iastore, 1) := by decide +kernel
theorem dX8_findOrder_101 : decode cX8_findOrder 101 = .ok (.iload_n 3, 1) := by decide +kernel
theorem dX8_findOrder_102 : decode cX8_findOrder 102 = .ok (.iconst 1, 1) := by decide +kernel
theorem dX8_findOrder_103 : decode cX8_findOrder 103 = .ok (.isub, 1) := by decide +kernel
theorem dX8_findOrder_104 : decode cX8_findOrder 104 = .ok (.istore 10, 2) := by decide +kernel
theorem dX8_findOrder_106 : decode cX8_findOrder 106 = .ok (.iload 10, 2) := by decide +kernel
theorem dX8_findOrder_108 : decode cX8_findOrder 108 = .ok (.ifCond .lt 70, 3) := by decide +kernel
theorem dX8_findOrder_111 : decode cX8_findOrder 111 = .ok (.iload 5, 2) := by decide +kernel
theorem dX8_findOrder_113 : decode cX8_findOrder 113 = .ok (.iload 10, 2) := by decide +kernel
theorem dX8_findOrder_115 : decode cX8_findOrder 115 = .ok (.invokestatic 105, 3) := by decide +kernel
theorem dX8_findOrder_118 : decode cX8_findOrder 118 = .ok (.ifCond .ne 21, 3) := by decide +kernel
theorem dX8_findOrder_121 : decode cX8_findOrder 121 = .ok (.iload 9, 2) := by decide +kernel
theorem dX8_findOrder_123 : decode cX8_findOrder 123 = .ok (.iload_n 1, 1) := by decide +kernel
theorem dX8_findOrder_124 : decode cX8_findOrder 124 = .ok (.iload 10, 2) := by decide +kernel
theorem dX8_findOrder_126 : decode cX8_findOrder 126 = .ok (.invokestatic 316, 3) := by decide +kernel
theorem dX8_findOrder_129 : decode cX8_findOrder 129 = .ok (.invokestatic 105, 3) := by decide +kernel
theorem dX8_findOrder_132 : decode cX8_findOrder 132 = .ok (.ifCond .eq 7, 3) := by decide +kernel
theorem dX8_findOrder_135 : decode cX8_findOrder 135 = .ok (.iconst 1, 1) := by decide +kernel
theorem dX8_findOrder_136 : decode cX8_findOrder 136 = .ok (.goto 4, 3) := by decide +kernel
theorem dX8_findOrder_139 : decode cX8_findOrder 139 = .ok (.iconst 0, 1) := by decide +kernel
theorem dX8_findOrder_140 : decode cX8_findOrder 140 = .ok (.istore 11, 2) := by decide +kernel
theorem dX8_findOrder_142 : decode cX8_findOrder 142 = .ok (.iload 11, 2) := by decide +kernel
theorem dX8_findOrder_144 : decode cX8_findOrder 144 = .ok (.ifCond .eq 28, 3) := by decide +kernel
theorem dX8_findOrder_147 : decode cX8_findOrder 147 = .ok (.aload_n 0, 1) := by decide +kernel
theorem dX8_findOrder_148 : decode cX8_findOrder 148 = .ok (.iload 5, 2) := by decide +kernel
theorem dX8_findOrder_150 : decode cX8_findOrder 150 = .ok (.iconst 1, 1) := by decide +kernel
theorem dX8_findOrder_151 : decode cX8_findOrder 151 = .ok (.iload 10, 2) := by decide +kernel
theorem dX8_findOrder_153 : decode cX8_findOrder 153 = .ok (.ishl, 1) := by decide +kernel
theorem dX8_findOrder_154 : decode cX8_findOrder 154 = .ok (.ior, 1) := by decide +kernel
theorem dX8_findOrder_155 : decode cX8_findOrder 155 = .ok (.iload 4, 2) := by decide +kernel
theorem dX8_findOrder_157 : decode cX8_findOrder 157 = .ok (.invokevirtual 319, 3) := by decide +kernel
theorem dX8_findOrder_160 : decode cX8_findOrder 160 = .ok (.ifCond .eq 12, 3) := by decide +kernel
theorem dX8_findOrder_163 : decode cX8_findOrder 163 = .ok (.aload_n 0, 1) := by decide +kernel
theorem dX8_findOrder_164 : decode cX8_findOrder 164 = .ok (.getfield 60, 3) := by decide +kernel
theorem dX8_findOrder_167 : decode cX8_findOrder 167 = .ok (.iload 5, 2) := by decide +kernel
theorem dX8_findOrder_169 : decode cX8_findOrder 169 = .ok (.iload 10, 2) := by decide +kernel
theorem dX8_findOrder_171 : decode cX8_findOrder 171 = .ok (.iastore, 1) := by decide +kernel
theorem dX8_findOrder_172 : decode cX8_findOrder 172 = .ok (.iinc 10 (-1), 3) := by decide +kernel
theorem dX8_findOrder_175 : decode cX8_findOrder 175 = .ok (.goto (-69), 3) := by decide +kernel
theorem dX8_findOrder_178 : decode cX8_findOrder 178 = .ok (.iinc 5 (-1), 3) := by decide +kernel
theorem dX8_findOrder_181 : decode cX8_findOrder 181 = .ok (.goto (-163), 3) := by decide +kernel
theorem dX8_findOrder_184 : decode cX8_findOrder 184 = .ok (.aload_n 0, 1) := by decide +kernel
theorem dX8_findOrder_185 : decode cX8_findOrder 185 = .ok (.iconst 0, 1) := by decide +kernel
theorem dX8_findOrder_186 : decode cX8_findOrder 186 = .ok (.iload 4, 2) := by decide +kernel
theorem dX8_findOrder_188 : decode cX8_findOrder 188 = .ok (.invokevirtual 319, 3) := by decide +kernel
theorem dX8_findOrder_191 : decode cX8_findOrder 191 = .ok (.ireturn, 1) := by decide +kernel
theorem dX8_ordersOn_0 : decode cX8_ordersOn 0 = .ok (.iload_n 1, 1) := by decide +kernel
theorem dX8_ordersOn_1 : decode cX8_ordersOn 1 = .ok (.iload_n 2, 1) := by decide +kernel
theorem dX8_ordersOn_2 : decode cX8_ordersOn 2 = .ok (.if_icmp .eq 25, 3) := by decide +kernel
theorem dX8_ordersOn_5 : decode cX8_ordersOn 5 = .ok (.iload_n 1, 1) := by decide +kernel
theorem dX8_ordersOn_6 : decode cX8_ordersOn 6 = .ok (.ifCond .lt 25, 3) := by decide +kernel
theorem dX8_ordersOn_9 : decode cX8_ordersOn 9 = .ok (.iload_n 1, 1) := by decide +kernel
theorem dX8_ordersOn_10 : decode cX8_ordersOn 10 = .ok (.aload_n 0, 1) := by decide +kernel
theorem dX8_ordersOn_11 : decode cX8_ordersOn 11 = .ok (.getfield 60, 3) := by decide +kernel
theorem dX8_ordersOn_14 : decode cX8_ordersOn 14 = .ok (.arraylength, 1) := by decide +kernel
theorem dX8_ordersOn_15 : decode cX8_ordersOn 15 = .ok (.if_icmp .ge 16, 3) := by decide +kernel
theorem dX8_ordersOn_18 : decode cX8_ordersOn 18 = .ok (.aload_n 0, 1) := by decide +kernel
theorem dX8_ordersOn_19 : decode cX8_ordersOn 19 = .ok (.getfield 60, 3) := by decide +kernel
theorem dX8_ordersOn_22 : decode cX8_ordersOn 22 = .ok (.iload_n 1, 1) := by decide +kernel
theorem dX8_ordersOn_23 : decode cX8_ordersOn 23 = .ok (.iaload, 1) := by decide +kernel
theorem dX8_ordersOn_24 : decode cX8_ordersOn 24 = .ok (.ifCond .lt 7, 3) := by decide +kernel
theorem dX8_ordersOn_27 : decode cX8_ordersOn 27 = .ok (.iconst 1, 1) := by decide +kernel
theorem dX8_ordersOn_28 : decode cX8_ordersOn 28 = .ok (.goto 4, 3) := by decide +kernel
theorem dX8_ordersOn_31 : decode cX8_ordersOn 31 = .ok (.iconst 0, 1) := by decide +kernel
theorem dX8_ordersOn_32 : decode cX8_ordersOn 32 = .ok (.ireturn, 1) := by decide +kernel
theorem dX8_wordInOrder_0 : decode cX8_wordInOrder 0 = .ok (.iconst 0, 1) := by decide +kernel
theorem dX8_wordInOrder_1 : decode cX8_wordInOrder 1 = .ok (.istore_n 3, 1) := by decide +kernel
theorem dX8_wordInOrder_2 : decode cX8_wordInOrder 2 = .ok (.iconst (-1), 1) := by decide +kernel
theorem dX8_wordInOrder_3 : decode cX8_wordInOrder 3 = .ok (.istore 4, 2) := by decide +kernel
theorem dX8_wordInOrder_5 : decode cX8_wordInOrder 5 = .ok (.iconst 0, 1) := by decide +kernel
theorem dX8_wordInOrder_6 : decode cX8_wordInOrder 6 = .ok (.istore 5, 2) := by decide +kernel
theorem dX8_wordInOrder_8 : decode cX8_wordInOrder 8 = .ok (.iload 5, 2) := by decide +kernel
theorem dX8_wordInOrder_10 : decode cX8_wordInOrder 10 = .ok (.iload_n 2, 1) := by decide +kernel
theorem dX8_wordInOrder_11 : decode cX8_wordInOrder 11 = .ok (.if_icmp .gt 37, 3) := by decide +kernel
theorem dX8_wordInOrder_14 : decode cX8_wordInOrder 14 = .ok (.iload_n 3, 1) := by decide +kernel
theorem dX8_wordInOrder_15 : decode cX8_wordInOrder 15 = .ok (.ifCond .lt 33, 3) := by decide +kernel
theorem dX8_wordInOrder_18 : decode cX8_wordInOrder 18 = .ok (.iload_n 3, 1) := by decide +kernel
theorem dX8_wordInOrder_19 : decode cX8_wordInOrder 19 = .ok (.aload_n 0, 1) := by decide +kernel
theorem dX8_wordInOrder_20 : decode cX8_wordInOrder 20 = .ok (.getfield 60, 3) := by decide +kernel
theorem dX8_wordInOrder_23 : decode cX8_wordInOrder 23 = .ok (.arraylength, 1) := by decide +kernel
theorem dX8_wordInOrder_24 : decode cX8_wordInOrder 24 = .ok (.if_icmp .ge 24, 3) := by decide +kernel
theorem dX8_wordInOrder_27 : decode cX8_wordInOrder 27 = .ok (.aload_n 0, 1) := by decide +kernel
theorem dX8_wordInOrder_28 : decode cX8_wordInOrder 28 = .ok (.getfield 60, 3) := by decide +kernel
theorem dX8_wordInOrder_31 : decode cX8_wordInOrder 31 = .ok (.iload_n 3, 1) := by decide +kernel
theorem dX8_wordInOrder_32 : decode cX8_wordInOrder 32 = .ok (.iaload, 1) := by decide +kernel
theorem dX8_wordInOrder_33 : decode cX8_wordInOrder 33 = .ok (.istore 4, 2) := by decide +kernel
theorem dX8_wordInOrder_35 : decode cX8_wordInOrder 35 = .ok (.iload_n 3, 1) := by decide +kernel
theorem dX8_wordInOrder_36 : decode cX8_wordInOrder 36 = .ok (.iconst 1, 1) := by decide +kernel
theorem dX8_wordInOrder_37 : decode cX8_wordInOrder 37 = .ok (.iload 4, 2) := by decide +kernel
theorem dX8_wordInOrder_39 : decode cX8_wordInOrder 39 = .ok (.ishl, 1) := by decide +kernel
theorem dX8_wordInOrder_40 : decode cX8_wordInOrder 40 = .ok (.ior, 1) := by decide +kernel
theorem dX8_wordInOrder_41 : decode cX8_wordInOrder 41 = .ok (.istore_n 3, 1) := by decide +kernel
theorem dX8_wordInOrder_42 : decode cX8_wordInOrder 42 = .ok (.iinc 5 1, 3) := by decide +kernel
theorem dX8_wordInOrder_45 : decode cX8_wordInOrder 45 = .ok (.goto (-37), 3) := by decide +kernel
theorem dX8_wordInOrder_48 : decode cX8_wordInOrder 48 = .ok (.iload_n 1, 1) := by decide +kernel
theorem dX8_wordInOrder_49 : decode cX8_wordInOrder 49 = .ok (.iload 4, 2) := by decide +kernel
theorem dX8_wordInOrder_51 : decode cX8_wordInOrder 51 = .ok (.invokestatic 316, 3) := by decide +kernel
theorem dX8_wordInOrder_54 : decode cX8_wordInOrder 54 = .ok (.ireturn, 1) := by decide +kernel
theorem dX8_wordAtPlace_0 : decode cX8_wordAtPlace 0 = .ok (.iconst 0, 1) := by decide +kernel
theorem dX8_wordAtPlace_1 : decode cX8_wordAtPlace 1 = .ok (.istore_n 2, 1) := by decide +kernel
theorem dX8_wordAtPlace_2 : decode cX8_wordAtPlace 2 = .ok (.iconst 0, 1) := by decide +kernel
theorem dX8_wordAtPlace_3 : decode cX8_wordAtPlace 3 = .ok (.istore_n 3, 1) := by decide +kernel
theorem dX8_wordAtPlace_4 : decode cX8_wordAtPlace 4 = .ok (.iload_n 3, 1) := by decide +kernel
theorem dX8_wordAtPlace_5 : decode cX8_wordAtPlace 5 = .ok (.bipush 14, 2) := by decide +kernel
theorem dX8_wordAtPlace_7 : decode cX8_wordAtPlace 7 = .ok (.if_icmp .ge 27, 3) := by decide +kernel
theorem dX8_wordAtPlace_10 : decode cX8_wordAtPlace 10 = .ok (.iload_n 0, 1) := by decide +kernel
theorem dX8_wordAtPlace_11 : decode cX8_wordAtPlace 11 = .ok (.iload_n 3, 1) := by decide +kernel
theorem dX8_wordAtPlace_12 : decode cX8_wordAtPlace 12 = .ok (.invokestatic 105, 3) := by decide +kernel
theorem dX8_wordAtPlace_15 : decode cX8_wordAtPlace 15 = .ok (.ifCond .eq 13, 3) := by decide +kernel
theorem dX8_wordAtPlace_18 : decode cX8_wordAtPlace 18 = .ok (.iload_n 2, 1) := by decide +kernel
theorem dX8_wordAtPlace_19 : decode cX8_wordAtPlace 19 = .ok (.iload_n 1, 1) := by decide +kernel
theorem dX8_wordAtPlace_20 : decode cX8_wordAtPlace 20 = .ok (.if_icmp .ne 5, 3) := by decide +kernel
theorem dX8_wordAtPlace_23 : decode cX8_wordAtPlace 23 = .ok (.iload_n 3, 1) := by decide +kernel
theorem dX8_wordAtPlace_24 : decode cX8_wordAtPlace 24 = .ok (.ireturn, 1) := by decide +kernel
theorem dX8_wordAtPlace_25 : decode cX8_wordAtPlace 25 = .ok (.iinc 2 1, 3) := by decide +kernel
theorem dX8_wordAtPlace_28 : decode cX8_wordAtPlace 28 = .ok (.iinc 3 1, 3) := by decide +kernel
theorem dX8_wordAtPlace_31 : decode cX8_wordAtPlace 31 = .ok (.goto (-27), 3) := by decide +kernel
theorem dX8_wordAtPlace_34 : decode cX8_wordAtPlace 34 = .ok (.iconst (-1), 1) := by decide +kernel
theorem dX8_wordAtPlace_35 : decode cX8_wordAtPlace 35 = .ok (.ireturn, 1) := by decide +kernel
theorem dX8_wordsAtPlaces_0 : decode cX8_wordsAtPlaces 0 = .ok (.iconst 0, 1) := by decide +kernel
theorem dX8_wordsAtPlaces_1 : decode cX8_wordsAtPlaces 1 = .ok (.istore_n 2, 1) := by decide +kernel
theorem dX8_wordsAtPlaces_2 : decode cX8_wordsAtPlaces 2 = .ok (.iconst 0, 1) := by decide +kernel
theorem dX8_wordsAtPlaces_3 : decode cX8_wordsAtPlaces 3 = .ok (.istore_n 3, 1) := by decide +kernel
theorem dX8_wordsAtPlaces_4 : decode cX8_wordsAtPlaces 4 = .ok (.iload_n 3, 1) := by decide +kernel
theorem dX8_wordsAtPlaces_5 : decode cX8_wordsAtPlaces 5 = .ok (.iconst 5, 1) := by decide +kernel
theorem dX8_wordsAtPlaces_6 : decode cX8_wordsAtPlaces 6 = .ok (.if_icmp .ge 36, 3) := by decide +kernel
theorem dX8_wordsAtPlaces_9 : decode cX8_wordsAtPlaces 9 = .ok (.iload_n 0, 1) := by decide +kernel
theorem dX8_wordsAtPlaces_10 : decode cX8_wordsAtPlaces 10 = .ok (.iload_n 3, 1) := by decide +kernel
theorem dX8_wordsAtPlaces_11 : decode cX8_wordsAtPlaces 11 = .ok (.invokestatic 316, 3) := by decide +kernel
theorem dX8_wordsAtPlaces_14 : decode cX8_wordsAtPlaces 14 = .ok (.istore 4, 2) := by decide +kernel
theorem dX8_wordsAtPlaces_16 : decode cX8_wordsAtPlaces 16 = .ok (.iload 4, 2) := by decide +kernel
theorem dX8_wordsAtPlaces_18 : decode cX8_wordsAtPlaces 18 = .ok (.ifCond .lt 18, 3) := by decide +kernel
theorem dX8_wordsAtPlaces_21 : decode cX8_wordsAtPlaces 21 = .ok (.iload_n 1, 1) := by decide +kernel
theorem dX8_wordsAtPlaces_22 : decode cX8_wordsAtPlaces 22 = .ok (.iload_n 3, 1) := by decide +kernel
theorem dX8_wordsAtPlaces_23 : decode cX8_wordsAtPlaces 23 = .ok (.invokestatic 105, 3) := by decide +kernel
theorem dX8_wordsAtPlaces_26 : decode cX8_wordsAtPlaces 26 = .ok (.ifCond .eq 10, 3) := by decide +kernel
theorem dX8_wordsAtPlaces_29 : decode cX8_wordsAtPlaces 29 = .ok (.iload_n 2, 1) := by decide +kernel
theorem dX8_wordsAtPlaces_30 : decode cX8_wordsAtPlaces 30 = .ok (.iconst 1, 1) := by decide +kernel
theorem dX8_wordsAtPlaces_31 : decode cX8_wordsAtPlaces 31 = .ok (.iload 4, 2) := by decide +kernel
theorem dX8_wordsAtPlaces_33 : decode cX8_wordsAtPlaces 33 = .ok (.ishl, 1) := by decide +kernel
theorem dX8_wordsAtPlaces_34 : decode cX8_wordsAtPlaces 34 = .ok (.ior, 1) := by decide +kernel
theorem dX8_wordsAtPlaces_35 : decode cX8_wordsAtPlaces 35 = .ok (.istore_n 2, 1) := by decide +kernel
theorem dX8_wordsAtPlaces_36 : decode cX8_wordsAtPlaces 36 = .ok (.iinc 3 1, 3) := by decide +kernel
theorem dX8_wordsAtPlaces_39 : decode cX8_wordsAtPlaces 39 = .ok (.goto (-35), 3) := by decide +kernel
theorem dX8_wordsAtPlaces_42 : decode cX8_wordsAtPlaces 42 = .ok (.iload_n 2, 1) := by decide +kernel
theorem dX8_wordsAtPlaces_43 : decode cX8_wordsAtPlaces 43 = .ok (.ireturn, 1) := by decide +kernel
theorem dX8_hangingOn_0 : decode cX8_hangingOn 0 = .ok (.aload_n 1, 1) := by decide +kernel
theorem dX8_hangingOn_1 : decode cX8_hangingOn 1 = .ok (.getfield 322, 3) := by decide +kernel
theorem dX8_hangingOn_4 : decode cX8_hangingOn 4 = .ok (.ifCond .ne 5, 3) := by decide +kernel
theorem dX8_hangingOn_7 : decode cX8_hangingOn 7 = .ok (.iconst 0, 1) := by decide +kernel
theorem dX8_hangingOn_8 : decode cX8_hangingOn 8 = .ok (.ireturn, 1) := by decide +kernel
theorem dX8_hangingOn_9 : decode cX8_hangingOn 9 = .ok (.aload_n 0, 1) := by decide +kernel
theorem dX8_hangingOn_10 : decode cX8_hangingOn 10 = .ok (.getfield 37, 3) := by decide +kernel
theorem dX8_hangingOn_13 : decode cX8_hangingOn 13 = .ok (.getfield 145, 3) := by decide +kernel
theorem dX8_hangingOn_16 : decode cX8_hangingOn 16 = .ok (.iconst 1, 1) := by decide +kernel
theorem dX8_hangingOn_17 : decode cX8_hangingOn 17 = .ok (.aload_n 1, 1) := by decide +kernel
theorem dX8_hangingOn_18 : decode cX8_hangingOn 18 = .ok (.getfield 325, 3) := by decide +kernel
theorem dX8_hangingOn_21 : decode cX8_hangingOn 21 = .ok (.ishl, 1) := by decide +kernel
theorem dX8_hangingOn_22 : decode cX8_hangingOn 22 = .ok (.ior, 1) := by decide +kernel
theorem dX8_hangingOn_23 : decode cX8_hangingOn 23 = .ok (.istore_n 2, 1) := by decide +kernel
theorem dX8_hangingOn_24 : decode cX8_hangingOn 24 = .ok (.aload_n 0, 1) := by decide +kernel
theorem dX8_hangingOn_25 : decode cX8_hangingOn 25 = .ok (.getfield 37, 3) := by decide +kernel
theorem dX8_hangingOn_28 : decode cX8_hangingOn 28 = .ok (.getfield 145, 3) := by decide +kernel
theorem dX8_hangingOn_31 : decode cX8_hangingOn 31 = .ok (.iconst 1, 1) := by decide +kernel
theorem dX8_hangingOn_32 : decode cX8_hangingOn 32 = .ok (.aload_n 1, 1) := by decide +kernel
theorem dX8_hangingOn_33 : decode cX8_hangingOn 33 = .ok (.getfield 325, 3) := by decide +kernel
theorem dX8_hangingOn_36 : decode cX8_hangingOn 36 = .ok (.ishl, 1) := by decide +kernel
theorem dX8_hangingOn_37 : decode cX8_hangingOn 37 = .ok (.iconst (-1), 1) := by decide +kernel
theorem dX8_hangingOn_38 : decode cX8_hangingOn 38 = .ok (.ixor, 1) := by decide +kernel
theorem dX8_hangingOn_39 : decode cX8_hangingOn 39 = .ok (.iand, 1) := by decide +kernel
theorem dX8_hangingOn_40 : decode cX8_hangingOn 40 = .ok (.istore_n 3, 1) := by decide +kernel
theorem dX8_hangingOn_41 : decode cX8_hangingOn 41 = .ok (.aload_n 0, 1) := by decide +kernel
theorem dX8_hangingOn_42 : decode cX8_hangingOn 42 = .ok (.aload_n 0, 1) := by decide +kernel
theorem dX8_hangingOn_43 : decode cX8_hangingOn 43 = .ok (.invokevirtual 207, 3) := by decide +kernel
theorem dX8_hangingOn_46 : decode cX8_hangingOn 46 = .ok (.aload_n 1, 1) := by decide +kernel
theorem dX8_hangingOn_47 : decode cX8_hangingOn 47 = .ok (.getfield 224, 3) := by decide +kernel
theorem dX8_hangingOn_50 : decode cX8_hangingOn 50 = .ok (.aload_n 0, 1) := by decide +kernel
theorem dX8_hangingOn_51 : decode cX8_hangingOn 51 = .ok (.aload_n 0, 1) := by decide +kernel
theorem dX8_hangingOn_52 : decode cX8_hangingOn 52 = .ok (.getfield 37, 3) := by decide +kernel
theorem dX8_hangingOn_55 : decode cX8_hangingOn 55 = .ok (.getfield 128, 3) := by decide +kernel
theorem dX8_hangingOn_58 : decode cX8_hangingOn 58 = .ok (.iload_n 2, 1) := by decide +kernel
theorem dX8_hangingOn_59 : decode cX8_hangingOn 59 = .ok (.iconst 0, 1) := by decide +kernel
theorem dX8_hangingOn_60 : decode cX8_hangingOn 60 = .ok (.invokevirtual 196, 3) := by decide +kernel
theorem dX8_hangingOn_63 : decode cX8_hangingOn 63 = .ok (.invokevirtual 180, 3) := by decide +kernel
theorem dX8_hangingOn_66 : decode cX8_hangingOn 66 = .ok (.istore 4, 2) := by decide +kernel
theorem dX8_hangingOn_68 : decode cX8_hangingOn 68 = .ok (.aload_n 0, 1) := by decide +kernel
theorem dX8_hangingOn_69 : decode cX8_hangingOn 69 = .ok (.aload_n 0, 1) := by decide +kernel
theorem dX8_hangingOn_70 : decode cX8_hangingOn 70 = .ok (.invokevirtual 207, 3) := by decide +kernel
theorem dX8_hangingOn_73 : decode cX8_hangingOn 73 = .ok (.aload_n 1, 1) := by decide +kernel
theorem dX8_hangingOn_74 : decode cX8_hangingOn 74 = .ok (.getfield 224, 3) := by decide +kernel
theorem dX8_hangingOn_77 : decode cX8_hangingOn 77 = .ok (.aload_n 0, 1) := by decide +kernel
theorem dX8_hangingOn_78 : decode cX8_hangingOn 78 = .ok (.aload_n 0, 1) := by decide +kernel
theorem dX8_hangingOn_79 : decode cX8_hangingOn 79 = .ok (.getfield 37, 3) := by decide +kernel
theorem dX8_hangingOn_82 : decode cX8_hangingOn 82 = .ok (.getfield 128, 3) := by decide +kernel
theorem dX8_hangingOn_85 : decode cX8_hangingOn 85 = .ok (.iload_n 3, 1) := by decide +kernel
theorem dX8_hangingOn_86 : decode cX8_hangingOn 86 = .ok (.iconst 0, 1) := by decide +kernel
theorem dX8_hangingOn_87 : decode cX8_hangingOn 87 = .ok (.invokevirtual 196, 3) := by decide +kernel
theorem dX8_hangingOn_90 : decode cX8_hangingOn 90 = .ok (.invokevirtual 180, 3) := by decide +kernel
theorem dX8_hangingOn_93 : decode cX8_hangingOn 93 = .ok (.istore 5, 2) := by decide +kernel
theorem dX8_hangingOn_95 : decode cX8_hangingOn 95 = .ok (.iconst 0, 1) := by decide +kernel
theorem dX8_hangingOn_96 : decode cX8_hangingOn 96 = .ok (.istore 6, 2) := by decide +kernel
theorem dX8_hangingOn_98 : decode cX8_hangingOn 98 = .ok (.iconst 0, 1) := by decide +kernel
theorem dX8_hangingOn_99 : decode cX8_hangingOn 99 = .ok (.istore 7, 2) := by decide +kernel
theorem dX8_hangingOn_101 : decode cX8_hangingOn 101 = .ok (.iload 7, 2) := by decide +kernel
theorem dX8_hangingOn_103 : decode cX8_hangingOn 103 = .ok (.iconst 4, 1) := by decide +kernel
theorem dX8_hangingOn_104 : decode cX8_hangingOn 104 = .ok (.if_icmp .ge 76, 3) := by decide +kernel
theorem dX8_hangingOn_107 : decode cX8_hangingOn 107 = .ok (.aload_n 0, 1) := by decide +kernel
theorem dX8_hangingOn_108 : decode cX8_hangingOn 108 = .ok (.iload 7, 2) := by decide +kernel
theorem dX8_hangingOn_110 : decode cX8_hangingOn 110 = .ok (.aload_n 1, 1) := by decide +kernel
theorem dX8_hangingOn_111 : decode cX8_hangingOn 111 = .ok (.getfield 224, 3) := by decide +kernel
theorem dX8_hangingOn_114 : decode cX8_hangingOn 114 = .ok (.aload_n 0, 1) := by decide +kernel
theorem dX8_hangingOn_115 : decode cX8_hangingOn 115 = .ok (.aload_n 0, 1) := by decide +kernel
theorem dX8_hangingOn_116 : decode cX8_hangingOn 116 = .ok (.getfield 37, 3) := by decide +kernel
theorem dX8_hangingOn_119 : decode cX8_hangingOn 119 = .ok (.getfield 128, 3) := by decide +kernel
theorem dX8_hangingOn_122 : decode cX8_hangingOn 122 = .ok (.iload_n 2, 1) := by decide +kernel
theorem dX8_hangingOn_123 : decode cX8_hangingOn 123 = .ok (.iconst 0, 1) := by decide +kernel
theorem dX8_hangingOn_124 : decode cX8_hangingOn 124 = .ok (.invokevirtual 196, 3) := by decide +kernel
theorem dX8_hangingOn_127 : decode cX8_hangingOn 127 = .ok (.iload 4, 2) := by decide +kernel
theorem dX8_hangingOn_129 : decode cX8_hangingOn 129 = .ok (.invokevirtual 238, 3) := by decide +kernel
theorem dX8_hangingOn_132 : decode cX8_hangingOn 132 = .ok (.istore 8, 2) := by decide +kernel
theorem dX8_hangingOn_134 : decode cX8_hangingOn 134 = .ok (.aload_n 0, 1) := by decide +kernel
theorem dX8_hangingOn_135 : decode cX8_hangingOn 135 = .ok (.iload 7, 2) := by decide +kernel
theorem dX8_hangingOn_137 : decode cX8_hangingOn 137 = .ok (.aload_n 1, 1) := by decide +kernel
theorem dX8_hangingOn_138 : decode cX8_hangingOn 138 = .ok (.getfield 224, 3) := by decide +kernel
theorem dX8_hangingOn_141 : decode cX8_hangingOn 141 = .ok (.aload_n 0, 1) := by decide +kernel
theorem dX8_hangingOn_142 : decode cX8_hangingOn 142 = .ok (.aload_n 0, 1) := by decide +kernel
theorem dX8_hangingOn_143 : decode cX8_hangingOn 143 = .ok (.getfield 37, 3) := by decide +kernel
theorem dX8_hangingOn_146 : decode cX8_hangingOn 146 = .ok (.getfield 128, 3) := by decide +kernel
theorem dX8_hangingOn_149 : decode cX8_hangingOn 149 = .ok (.iload_n 3, 1) := by decide +kernel
theorem dX8_hangingOn_150 : decode cX8_hangingOn 150 = .ok (.iconst 0, 1) := by decide +kernel
theorem dX8_hangingOn_151 : decode cX8_hangingOn 151 = .ok (.invokevirtual 196, 3) := by decide +kernel
theorem dX8_hangingOn_154 : decode cX8_hangingOn 154 = .ok (.iload 5, 2) := by decide +kernel
theorem dX8_hangingOn_156 : decode cX8_hangingOn 156 = .ok (.invokevirtual 238, 3) := by decide +kernel
theorem dX8_hangingOn_159 : decode cX8_hangingOn 159 = .ok (.istore 9, 2) := by decide +kernel
theorem dX8_hangingOn_161 : decode cX8_hangingOn 161 = .ok (.iload 6, 2) := by decide +kernel
theorem dX8_hangingOn_163 : decode cX8_hangingOn 163 = .ok (.iload 8, 2) := by decide +kernel
theorem dX8_hangingOn_165 : decode cX8_hangingOn 165 = .ok (.iload 9, 2) := by decide +kernel
theorem dX8_hangingOn_167 : decode cX8_hangingOn 167 = .ok (.ixor, 1) := by decide +kernel
theorem dX8_hangingOn_168 : decode cX8_hangingOn 168 = .ok (.invokestatic 191, 3) := by decide +kernel
theorem dX8_hangingOn_171 : decode cX8_hangingOn 171 = .ok (.iadd, 1) := by decide +kernel
theorem dX8_hangingOn_172 : decode cX8_hangingOn 172 = .ok (.istore 6, 2) := by decide +kernel
theorem dX8_hangingOn_174 : decode cX8_hangingOn 174 = .ok (.iinc 7 1, 3) := by decide +kernel
theorem dX8_hangingOn_177 : decode cX8_hangingOn 177 = .ok (.goto (-76), 3) := by decide +kernel
theorem dX8_hangingOn_180 : decode cX8_hangingOn 180 = .ok (.iload 6, 2) := by decide +kernel
theorem dX8_hangingOn_182 : decode cX8_hangingOn 182 = .ok (.ireturn, 1) := by decide +kernel
theorem dX8_rightlyTold_0 : decode cX8_rightlyTold 0 = .ok (.iconst 0, 1) := by decide +kernel
theorem dX8_rightlyTold_1 : decode cX8_rightlyTold 1 = .ok (.istore 6, 2) := by decide +kernel
theorem dX8_rightlyTold_3 : decode cX8_rightlyTold 3 = .ok (.iload 4, 2) := by decide +kernel
theorem dX8_rightlyTold_5 : decode cX8_rightlyTold 5 = .ok (.istore 7, 2) := by decide +kernel
theorem dX8_rightlyTold_7 : decode cX8_rightlyTold 7 = .ok (.aload_n 0, 1) := by decide +kernel
theorem dX8_rightlyTold_8 : decode cX8_rightlyTold 8 = .ok (.getfield 57, 3) := by decide +kernel
theorem dX8_rightlyTold_11 : decode cX8_rightlyTold 11 = .ok (.invokevirtual 326, 3) := by decide +kernel
theorem dX8_rightlyTold_14 : decode cX8_rightlyTold 14 = .ok (.aload_n 0, 1) := by decide +kernel
theorem dX8_rightlyTold_15 : decode cX8_rightlyTold 15 = .ok (.getfield 57, 3) := by decide +kernel
theorem dX8_rightlyTold_18 : decode cX8_rightlyTold 18 = .ok (.aload_n 3, 1) := by decide +kernel
theorem dX8_rightlyTold_19 : decode cX8_rightlyTold 19 = .ok (.invokevirtual 89, 3) := by decide +kernel
theorem dX8_rightlyTold_22 : decode cX8_rightlyTold 22 = .ok (.pop, 1) := by decide +kernel
theorem dX8_rightlyTold_23 : decode cX8_rightlyTold 23 = .ok (.iconst 0, 1) := by decide +kernel
theorem dX8_rightlyTold_24 : decode cX8_rightlyTold 24 = .ok (.istore 8, 2) := by decide +kernel
theorem dX8_rightlyTold_26 : decode cX8_rightlyTold 26 = .ok (.iload 8, 2) := by decide +kernel
theorem dX8_rightlyTold_28 : decode cX8_rightlyTold 28 = .ok (.bipush 60, 2) := by decide +kernel
theorem dX8_rightlyTold_30 : decode cX8_rightlyTold 30 = .ok (.if_icmp .gt 157, 3) := by decide +kernel
theorem dX8_rightlyTold_33 : decode cX8_rightlyTold 33 = .ok (.aload_n 0, 1) := by decide +kernel
theorem dX8_rightlyTold_34 : decode cX8_rightlyTold 34 = .ok (.getfield 57, 3) := by decide +kernel
theorem dX8_rightlyTold_37 : decode cX8_rightlyTold 37 = .ok (.invokevirtual 329, 3) := by decide +kernel
theorem dX8_rightlyTold_40 : decode cX8_rightlyTold 40 = .ok (.ifCond .ne 147, 3) := by decide +kernel
theorem dX8_rightlyTold_43 : decode cX8_rightlyTold 43 = .ok (.aload_n 0, 1) := by decide +kernel
theorem dX8_rightlyTold_44 : decode cX8_rightlyTold 44 = .ok (.getfield 57, 3) := by decide +kernel
theorem dX8_rightlyTold_47 : decode cX8_rightlyTold 47 = .ok (.aload_n 0, 1) := by decide +kernel
theorem dX8_rightlyTold_48 : decode cX8_rightlyTold 48 = .ok (.getfield 57, 3) := by decide +kernel
theorem dX8_rightlyTold_51 : decode cX8_rightlyTold 51 = .ok (.invokevirtual 80, 3) := by decide +kernel
theorem dX8_rightlyTold_54 : decode cX8_rightlyTold 54 = .ok (.iconst 1, 1) := by decide +kernel
theorem dX8_rightlyTold_55 : decode cX8_rightlyTold 55 = .ok (.isub, 1) := by decide +kernel
theorem dX8_rightlyTold_56 : decode cX8_rightlyTold 56 = .ok (.invokevirtual 333, 3) := by decide +kernel
theorem dX8_rightlyTold_59 : decode cX8_rightlyTold 59 = .ok (.checkcast 84, 3) := by decide +kernel
theorem dX8_rightlyTold_62 : decode cX8_rightlyTold 62 = .ok (.astore 9, 2) := by decide +kernel
theorem dX8_rightlyTold_64 : decode cX8_rightlyTold 64 = .ok (.iconst 0, 1) := by decide +kernel
theorem dX8_rightlyTold_65 : decode cX8_rightlyTold 65 = .ok (.istore 10, 2) := by decide +kernel
theorem dX8_rightlyTold_67 : decode cX8_rightlyTold 67 = .ok (.iload 10, 2) := by decide +kernel
theorem dX8_rightlyTold_69 : decode cX8_rightlyTold 69 = .ok (.aload_n 0, 1) := by decide +kernel
theorem dX8_rightlyTold_70 : decode cX8_rightlyTold 70 = .ok (.getfield 24, 3) := by decide +kernel
theorem dX8_rightlyTold_73 : decode cX8_rightlyTold 73 = .ok (.invokevirtual 80, 3) := by decide +kernel
theorem dX8_rightlyTold_76 : decode cX8_rightlyTold 76 = .ok (.if_icmp .ge 90, 3) := by decide +kernel
theorem dX8_rightlyTold_79 : decode cX8_rightlyTold 79 = .ok (.aload_n 0, 1) := by decide +kernel
theorem dX8_rightlyTold_80 : decode cX8_rightlyTold 80 = .ok (.getfield 24, 3) := by decide +kernel
theorem dX8_rightlyTold_83 : decode cX8_rightlyTold 83 = .ok (.iload 10, 2) := by decide +kernel
theorem dX8_rightlyTold_85 : decode cX8_rightlyTold 85 = .ok (.invokevirtual 220, 3) := by decide +kernel
theorem dX8_rightlyTold_88 : decode cX8_rightlyTold 88 = .ok (.checkcast 153, 3) := by decide +kernel
theorem dX8_rightlyTold_91 : decode cX8_rightlyTold 91 = .ok (.astore 11, 2) := by decide +kernel
theorem dX8_rightlyTold_93 : decode cX8_rightlyTold 93 = .ok (.aload 11, 2) := by decide +kernel
theorem dX8_rightlyTold_95 : decode cX8_rightlyTold 95 = .ok (.getfield 224, 3) := by decide +kernel
theorem dX8_rightlyTold_98 : decode cX8_rightlyTold 98 = .ok (.iload 5, 2) := by decide +kernel
theorem dX8_rightlyTold_100 : decode cX8_rightlyTold 100 = .ok (.if_icmp .eq 6, 3) := by decide +kernel
theorem dX8_rightlyTold_103 : decode cX8_rightlyTold 103 = .ok (.goto 57, 3) := by decide +kernel
theorem dX8_rightlyTold_106 : decode cX8_rightlyTold 106 = .ok (.aload_n 1, 1) := by decide +kernel
theorem dX8_rightlyTold_107 : decode cX8_rightlyTold 107 = .ok (.iload_n 2, 1) := by decide +kernel
theorem dX8_rightlyTold_108 : decode cX8_rightlyTold 108 = .ok (.iload 6, 2) := by decide +kernel
theorem dX8_rightlyTold_110 : decode cX8_rightlyTold 110 = .ok (.iadd, 1) := by decide +kernel
theorem dX8_rightlyTold_111 : decode cX8_rightlyTold 111 = .ok (.invokevirtual 279, 3) := by decide +kernel
theorem dX8_rightlyTold_114 : decode cX8_rightlyTold 114 = .ok (.ifCond .ne 9, 3) := by decide +kernel
theorem dX8_rightlyTold_117 : decode cX8_rightlyTold 117 = .ok (.bipush 100, 2) := by decide +kernel
theorem dX8_rightlyTold_119 : decode cX8_rightlyTold 119 = .ok (.iload 6, 2) := by decide +kernel
theorem dX8_rightlyTold_121 : decode cX8_rightlyTold 121 = .ok (.iadd, 1) := by decide +kernel
theorem dX8_rightlyTold_122 : decode cX8_rightlyTold 122 = .ok (.ireturn, 1) := by decide +kernel
theorem dX8_rightlyTold_123 : decode cX8_rightlyTold 123 = .ok (.aload_n 1, 1) := by decide +kernel
theorem dX8_rightlyTold_124 : decode cX8_rightlyTold 124 = .ok (.iload_n 2, 1) := by decide +kernel
theorem dX8_rightlyTold_125 : decode cX8_rightlyTold 125 = .ok (.iload 6, 2) := by decide +kernel
theorem dX8_rightlyTold_127 : decode cX8_rightlyTold 127 = .ok (.iadd, 1) := by decide +kernel
theorem dX8_rightlyTold_128 : decode cX8_rightlyTold 128 = .ok (.invokevirtual 289, 3) := by decide +kernel
theorem dX8_rightlyTold_131 : decode cX8_rightlyTold 131 = .ok (.aload 11, 2) := by decide +kernel
theorem dX8_rightlyTold_133 : decode cX8_rightlyTold 133 = .ok (.aload 11, 2) := by decide +kernel
theorem dX8_rightlyTold_135 : decode cX8_rightlyTold 135 = .ok (.aload 9, 2) := by decide +kernel
theorem dX8_rightlyTold_137 : decode cX8_rightlyTold 137 = .ok (.iload 7, 2) := by decide +kernel
theorem dX8_rightlyTold_139 : decode cX8_rightlyTold 139 = .ok (.aload_n 0, 1) := by decide +kernel
theorem dX8_rightlyTold_140 : decode cX8_rightlyTold 140 = .ok (.getfield 37, 3) := by decide +kernel
theorem dX8_rightlyTold_143 : decode cX8_rightlyTold 143 = .ok (.invokevirtual 152, 3) := by decide +kernel
theorem dX8_rightlyTold_146 : decode cX8_rightlyTold 146 = .ok (.invokevirtual 162, 3) := by decide +kernel
theorem dX8_rightlyTold_149 : decode cX8_rightlyTold 149 = .ok (.i2l, 1) := by decide +kernel
theorem dX8_rightlyTold_150 : decode cX8_rightlyTold 150 = .ok (.lcmp, 1) := by decide +kernel
theorem dX8_rightlyTold_151 : decode cX8_rightlyTold 151 = .ok (.ifCond .eq 6, 3) := by decide +kernel
theorem dX8_rightlyTold_154 : decode cX8_rightlyTold 154 = .ok (.iload 6, 2) := by decide +kernel
theorem dX8_rightlyTold_156 : decode cX8_rightlyTold 156 = .ok (.ireturn, 1) := by decide +kernel
theorem dX8_rightlyTold_157 : decode cX8_rightlyTold 157 = .ok (.iinc 6 1, 3) := by decide +kernel
theorem dX8_rightlyTold_160 : decode cX8_rightlyTold 160 = .ok (.iinc 10 1, 3) := by decide +kernel
theorem dX8_rightlyTold_163 : decode cX8_rightlyTold 163 = .ok (.goto (-96), 3) := by decide +kernel
theorem dX8_rightlyTold_166 : decode cX8_rightlyTold 166 = .ok (.iload 7, 2) := by decide +kernel
theorem dX8_rightlyTold_168 : decode cX8_rightlyTold 168 = .ok (.iconst 1, 1) := by decide +kernel
theorem dX8_rightlyTold_169 : decode cX8_rightlyTold 169 = .ok (.if_icmp .eq 9, 3) := by decide +kernel
theorem dX8_rightlyTold_172 : decode cX8_rightlyTold 172 = .ok (.aload_n 0, 1) := by decide +kernel
theorem dX8_rightlyTold_173 : decode cX8_rightlyTold 173 = .ok (.aload 9, 2) := by decide +kernel
theorem dX8_rightlyTold_175 : decode cX8_rightlyTold 175 = .ok (.invokevirtual 336, 3) := by decide +kernel
theorem dX8_rightlyTold_178 : decode cX8_rightlyTold 178 = .ok (.iconst 0, 1) := by decide +kernel
theorem dX8_rightlyTold_179 : decode cX8_rightlyTold 179 = .ok (.istore 7, 2) := by decide +kernel
theorem dX8_rightlyTold_181 : decode cX8_rightlyTold 181 = .ok (.iinc 8 1, 3) := by decide +kernel
theorem dX8_rightlyTold_184 : decode cX8_rightlyTold 184 = .ok (.goto (-158), 3) := by decide +kernel
theorem dX8_rightlyTold_187 : decode cX8_rightlyTold 187 = .ok (.iload 6, 2) := by decide +kernel
theorem dX8_rightlyTold_189 : decode cX8_rightlyTold 189 = .ok (.ireturn, 1) := by decide +kernel
theorem dX8_letPartsWait_0 : decode cX8_letPartsWait 0 = .ok (.aload_n 1, 1) := by decide +kernel
theorem dX8_letPartsWait_1 : decode cX8_letPartsWait 1 = .ok (.getfield 108, 3) := by decide +kernel
theorem dX8_letPartsWait_4 : decode cX8_letPartsWait 4 = .ok (.invokevirtual 80, 3) := by decide +kernel
theorem dX8_letPartsWait_7 : decode cX8_letPartsWait 7 = .ok (.iconst 1, 1) := by decide +kernel
theorem dX8_letPartsWait_8 : decode cX8_letPartsWait 8 = .ok (.isub, 1) := by decide +kernel
theorem dX8_letPartsWait_9 : decode cX8_letPartsWait 9 = .ok (.istore_n 2, 1) := by decide +kernel
theorem dX8_letPartsWait_10 : decode cX8_letPartsWait 10 = .ok (.iload_n 2, 1) := by decide +kernel
theorem dX8_letPartsWait_11 : decode cX8_letPartsWait 11 = .ok (.ifCond .lt 28, 3) := by decide +kernel
theorem dX8_letPartsWait_14 : decode cX8_letPartsWait 14 = .ok (.aload_n 0, 1) := by decide +kernel
theorem dX8_letPartsWait_15 : decode cX8_letPartsWait 15 = .ok (.getfield 57, 3) := by decide +kernel
theorem dX8_letPartsWait_18 : decode cX8_letPartsWait 18 = .ok (.aload_n 1, 1) := by decide +kernel
theorem dX8_letPartsWait_19 : decode cX8_letPartsWait 19 = .ok (.getfield 108, 3) := by decide +kernel
theorem dX8_letPartsWait_22 : decode cX8_letPartsWait 22 = .ok (.iload_n 2, 1) := by decide +kernel
theorem dX8_letPartsWait_23 : decode cX8_letPartsWait 23 = .ok (.invokevirtual 220, 3) := by decide +kernel
theorem dX8_letPartsWait_26 : decode cX8_letPartsWait 26 = .ok (.checkcast 84, 3) := by decide +kernel
theorem dX8_letPartsWait_29 : decode cX8_letPartsWait 29 = .ok (.invokevirtual 89, 3) := by decide +kernel
theorem dX8_letPartsWait_32 : decode cX8_letPartsWait 32 = .ok (.pop, 1) := by decide +kernel
theorem dX8_letPartsWait_33 : decode cX8_letPartsWait 33 = .ok (.iinc 2 (-1), 3) := by decide +kernel
theorem dX8_letPartsWait_36 : decode cX8_letPartsWait 36 = .ok (.goto (-26), 3) := by decide +kernel
theorem dX8_letPartsWait_39 : decode cX8_letPartsWait 39 = .ok (.return_, 1) := by decide +kernel
theorem dX8_kindAbove_0 : decode cX8_kindAbove 0 = .ok (.iload_n 0, 1) := by decide +kernel
theorem dX8_kindAbove_1 : decode cX8_kindAbove 1 = .ok (.tableswitch 39 2 6 #[35, 39, 39, 37, 35], 35) := by decide +kernel
theorem dX8_kindAbove_36 : decode cX8_kindAbove 36 = .ok (.iconst 1, 1) := by decide +kernel
theorem dX8_kindAbove_37 : decode cX8_kindAbove 37 = .ok (.ireturn, 1) := by decide +kernel
theorem dX8_kindAbove_38 : decode cX8_kindAbove 38 = .ok (.iconst 2, 1) := by decide +kernel
theorem dX8_kindAbove_39 : decode cX8_kindAbove 39 = .ok (.ireturn, 1) := by decide +kernel
theorem dX8_kindAbove_40 : decode cX8_kindAbove 40 = .ok (.iconst 0, 1) := by decide +kernel
theorem dX8_kindAbove_41 : decode cX8_kindAbove 41 = .ok (.ireturn, 1) := by decide +kernel
theorem dJ11_isValidCodePoint_9a6ad_0 : decode cJ11_isValidCodePoint_9a6ad 0 = .ok (.iload_n 0, 1) := by decide +kernel
theorem dJ11_isValidCodePoint_9a6ad_1 : decode cJ11_isValidCodePoint_9a6ad 1 = .ok (.bipush 16, 2) := by decide +kernel
theorem dJ11_isValidCodePoint_9a6ad_3 : decode cJ11_isValidCodePoint_9a6ad 3 = .ok (.iushr, 1) := by decide +kernel
theorem dJ11_isValidCodePoint_9a6ad_4 : decode cJ11_isValidCodePoint_9a6ad 4 = .ok (.istore_n 1, 1) := by decide +kernel
theorem dJ11_isValidCodePoint_9a6ad_5 : decode cJ11_isValidCodePoint_9a6ad 5 = .ok (.iload_n 1, 1) := by decide +kernel
theorem dJ11_isValidCodePoint_9a6ad_6 : decode cJ11_isValidCodePoint_9a6ad 6 = .ok (.bipush 17, 2) := by decide +kernel
theorem dJ11_isValidCodePoint_9a6ad_8 : decode cJ11_isValidCodePoint_9a6ad 8 = .ok (.if_icmp .ge 7, 3) := by decide +kernel
theorem dJ11_isValidCodePoint_9a6ad_11 : decode cJ11_isValidCodePoint_9a6ad 11 = .ok (.iconst 1, 1) := by decide +kernel
theorem dJ11_isValidCodePoint_9a6ad_12 : decode cJ11_isValidCodePoint_9a6ad 12 = .ok (.goto 4, 3) := by decide +kernel
theorem dJ11_isValidCodePoint_9a6ad_15 : decode cJ11_isValidCodePoint_9a6ad 15 = .ok (.iconst 0, 1) := by decide +kernel
theorem dJ11_isValidCodePoint_9a6ad_16 : decode cJ11_isValidCodePoint_9a6ad 16 = .ok (.ireturn, 1) := by decide +kernel
theorem dJ11_highSurrogate_5068e_0 : decode cJ11_highSurrogate_5068e 0 = .ok (.iload_n 0, 1) := by decide +kernel
theorem dJ11_highSurrogate_5068e_1 : decode cJ11_highSurrogate_5068e 1 = .ok (.bipush 10, 2) := by decide +kernel
theorem dJ11_highSurrogate_5068e_3 : decode cJ11_highSurrogate_5068e 3 = .ok (.iushr, 1) := by decide +kernel
theorem dJ11_highSurrogate_5068e_4 : decode cJ11_highSurrogate_5068e 4 = .ok (.ldc 110, 2) := by decide +kernel
theorem dJ11_highSurrogate_5068e_6 : decode cJ11_highSurrogate_5068e 6 = .ok (.iadd, 1) := by decide +kernel
theorem dJ11_highSurrogate_5068e_7 : decode cJ11_highSurrogate_5068e 7 = .ok (.i2c, 1) := by decide +kernel
theorem dJ11_highSurrogate_5068e_8 : decode cJ11_highSurrogate_5068e 8 = .ok (.ireturn, 1) := by decide +kernel
theorem dJ11_lowSurrogate_5068e_0 : decode cJ11_lowSurrogate_5068e 0 = .ok (.iload_n 0, 1) := by decide +kernel
theorem dJ11_lowSurrogate_5068e_1 : decode cJ11_lowSurrogate_5068e 1 = .ok (.sipush 1023, 3) := by decide +kernel
theorem dJ11_lowSurrogate_5068e_4 : decode cJ11_lowSurrogate_5068e 4 = .ok (.iand, 1) := by decide +kernel
theorem dJ11_lowSurrogate_5068e_5 : decode cJ11_lowSurrogate_5068e 5 = .ok (.ldc 76, 2) := by decide +kernel
theorem dJ11_lowSurrogate_5068e_7 : decode cJ11_lowSurrogate_5068e 7 = .ok (.iadd, 1) := by decide +kernel
theorem dJ11_lowSurrogate_5068e_8 : decode cJ11_lowSurrogate_5068e 8 = .ok (.i2c, 1) := by decide +kernel
theorem dJ11_lowSurrogate_5068e_9 : decode cJ11_lowSurrogate_5068e 9 = .ok (.ireturn, 1) := by decide +kernel
theorem dJ6_numberOfTrailingZeros_0f7a4_0 : decode cJ6_numberOfTrailingZeros_0f7a4 0 = .ok (.iload_n 0, 1) := by decide +kernel
theorem dJ6_numberOfTrailingZeros_0f7a4_1 : decode cJ6_numberOfTrailingZeros_0f7a4 1 = .ok (.iconst (-1), 1) := by decide +kernel
theorem dJ6_numberOfTrailingZeros_0f7a4_2 : decode cJ6_numberOfTrailingZeros_0f7a4 2 = .ok (.ixor, 1) := by decide +kernel
theorem dJ6_numberOfTrailingZeros_0f7a4_3 : decode cJ6_numberOfTrailingZeros_0f7a4 3 = .ok (.iload_n 0, 1) := by decide +kernel
theorem dJ6_numberOfTrailingZeros_0f7a4_4 : decode cJ6_numberOfTrailingZeros_0f7a4 4 = .ok (.iconst 1, 1) := by decide +kernel
theorem dJ6_numberOfTrailingZeros_0f7a4_5 : decode cJ6_numberOfTrailingZeros_0f7a4 5 = .ok (.isub, 1) := by decide +kernel
theorem dJ6_numberOfTrailingZeros_0f7a4_6 : decode cJ6_numberOfTrailingZeros_0f7a4 6 = .ok (.iand, 1) := by decide +kernel
theorem dJ6_numberOfTrailingZeros_0f7a4_7 : decode cJ6_numberOfTrailingZeros_0f7a4 7 = .ok (.istore_n 0, 1) := by decide +kernel
theorem dJ6_numberOfTrailingZeros_0f7a4_8 : decode cJ6_numberOfTrailingZeros_0f7a4 8 = .ok (.iload_n 0, 1) := by decide +kernel
theorem dJ6_numberOfTrailingZeros_0f7a4_9 : decode cJ6_numberOfTrailingZeros_0f7a4 9 = .ok (.ifCond .gt 8, 3) := by decide +kernel
theorem dJ6_numberOfTrailingZeros_0f7a4_12 : decode cJ6_numberOfTrailingZeros_0f7a4 12 = .ok (.iload_n 0, 1) := by decide +kernel
theorem dJ6_numberOfTrailingZeros_0f7a4_13 : decode cJ6_numberOfTrailingZeros_0f7a4 13 = .ok (.bipush 32, 2) := by decide +kernel
theorem dJ6_numberOfTrailingZeros_0f7a4_15 : decode cJ6_numberOfTrailingZeros_0f7a4 15 = .ok (.iand, 1) := by decide +kernel
theorem dJ6_numberOfTrailingZeros_0f7a4_16 : decode cJ6_numberOfTrailingZeros_0f7a4 16 = .ok (.ireturn, 1) := by decide +kernel
theorem dJ6_numberOfTrailingZeros_0f7a4_17 : decode cJ6_numberOfTrailingZeros_0f7a4 17 = .ok (.iconst 1, 1) := by decide +kernel
theorem dJ6_numberOfTrailingZeros_0f7a4_18 : decode cJ6_numberOfTrailingZeros_0f7a4 18 = .ok (.istore_n 1, 1) := by decide +kernel
theorem dJ6_numberOfTrailingZeros_0f7a4_19 : decode cJ6_numberOfTrailingZeros_0f7a4 19 = .ok (.iload_n 0, 1) := by decide +kernel
theorem dJ6_numberOfTrailingZeros_0f7a4_20 : decode cJ6_numberOfTrailingZeros_0f7a4 20 = .ok (.ldc_w 264, 3) := by decide +kernel
theorem dJ6_numberOfTrailingZeros_0f7a4_23 : decode cJ6_numberOfTrailingZeros_0f7a4 23 = .ok (.if_icmp .le 11, 3) := by decide +kernel
theorem dJ6_numberOfTrailingZeros_0f7a4_26 : decode cJ6_numberOfTrailingZeros_0f7a4 26 = .ok (.iinc 1 16, 3) := by decide +kernel
theorem dJ6_numberOfTrailingZeros_0f7a4_29 : decode cJ6_numberOfTrailingZeros_0f7a4 29 = .ok (.iload_n 0, 1) := by decide +kernel
theorem dJ6_numberOfTrailingZeros_0f7a4_30 : decode cJ6_numberOfTrailingZeros_0f7a4 30 = .ok (.bipush 16, 2) := by decide +kernel
theorem dJ6_numberOfTrailingZeros_0f7a4_32 : decode cJ6_numberOfTrailingZeros_0f7a4 32 = .ok (.iushr, 1) := by decide +kernel
theorem dJ6_numberOfTrailingZeros_0f7a4_33 : decode cJ6_numberOfTrailingZeros_0f7a4 33 = .ok (.istore_n 0, 1) := by decide +kernel
theorem dJ6_numberOfTrailingZeros_0f7a4_34 : decode cJ6_numberOfTrailingZeros_0f7a4 34 = .ok (.iload_n 0, 1) := by decide +kernel
theorem dJ6_numberOfTrailingZeros_0f7a4_35 : decode cJ6_numberOfTrailingZeros_0f7a4 35 = .ok (.sipush 256, 3) := by decide +kernel
theorem dJ6_numberOfTrailingZeros_0f7a4_38 : decode cJ6_numberOfTrailingZeros_0f7a4 38 = .ok (.if_icmp .le 11, 3) := by decide +kernel
theorem dJ6_numberOfTrailingZeros_0f7a4_41 : decode cJ6_numberOfTrailingZeros_0f7a4 41 = .ok (.iinc 1 8, 3) := by decide +kernel
theorem dJ6_numberOfTrailingZeros_0f7a4_44 : decode cJ6_numberOfTrailingZeros_0f7a4 44 = .ok (.iload_n 0, 1) := by decide +kernel
theorem dJ6_numberOfTrailingZeros_0f7a4_45 : decode cJ6_numberOfTrailingZeros_0f7a4 45 = .ok (.bipush 8, 2) := by decide +kernel
theorem dJ6_numberOfTrailingZeros_0f7a4_47 : decode cJ6_numberOfTrailingZeros_0f7a4 47 = .ok (.iushr, 1) := by decide +kernel
theorem dJ6_numberOfTrailingZeros_0f7a4_48 : decode cJ6_numberOfTrailingZeros_0f7a4 48 = .ok (.istore_n 0, 1) := by decide +kernel
theorem dJ6_numberOfTrailingZeros_0f7a4_49 : decode cJ6_numberOfTrailingZeros_0f7a4 49 = .ok (.iload_n 0, 1) := by decide +kernel
theorem dJ6_numberOfTrailingZeros_0f7a4_50 : decode cJ6_numberOfTrailingZeros_0f7a4 50 = .ok (.bipush 16, 2) := by decide +kernel
theorem dJ6_numberOfTrailingZeros_0f7a4_52 : decode cJ6_numberOfTrailingZeros_0f7a4 52 = .ok (.if_icmp .le 10, 3) := by decide +kernel
theorem dJ6_numberOfTrailingZeros_0f7a4_55 : decode cJ6_numberOfTrailingZeros_0f7a4 55 = .ok (.iinc 1 4, 3) := by decide +kernel
theorem dJ6_numberOfTrailingZeros_0f7a4_58 : decode cJ6_numberOfTrailingZeros_0f7a4 58 = .ok (.iload_n 0, 1) := by decide +kernel
theorem dJ6_numberOfTrailingZeros_0f7a4_59 : decode cJ6_numberOfTrailingZeros_0f7a4 59 = .ok (.iconst 4, 1) := by decide +kernel
theorem dJ6_numberOfTrailingZeros_0f7a4_60 : decode cJ6_numberOfTrailingZeros_0f7a4 60 = .ok (.iushr, 1) := by decide +kernel
theorem dJ6_numberOfTrailingZeros_0f7a4_61 : decode cJ6_numberOfTrailingZeros_0f7a4 61 = .ok (.istore_n 0, 1) := by decide +kernel
theorem dJ6_numberOfTrailingZeros_0f7a4_62 : decode cJ6_numberOfTrailingZeros_0f7a4 62 = .ok (.iload_n 0, 1) := by decide +kernel
theorem dJ6_numberOfTrailingZeros_0f7a4_63 : decode cJ6_numberOfTrailingZeros_0f7a4 63 = .ok (.iconst 4, 1) := by decide +kernel
theorem dJ6_numberOfTrailingZeros_0f7a4_64 : decode cJ6_numberOfTrailingZeros_0f7a4 64 = .ok (.if_icmp .le 10, 3) := by decide +kernel
theorem dJ6_numberOfTrailingZeros_0f7a4_67 : decode cJ6_numberOfTrailingZeros_0f7a4 67 = .ok (.iinc 1 2, 3) := by decide +kernel
theorem dJ6_numberOfTrailingZeros_0f7a4_70 : decode cJ6_numberOfTrailingZeros_0f7a4 70 = .ok (.iload_n 0, 1) := by decide +kernel
theorem dJ6_numberOfTrailingZeros_0f7a4_71 : decode cJ6_numberOfTrailingZeros_0f7a4 71 = .ok (.iconst 2, 1) := by decide +kernel
theorem dJ6_numberOfTrailingZeros_0f7a4_72 : decode cJ6_numberOfTrailingZeros_0f7a4 72 = .ok (.iushr, 1) := by decide +kernel
theorem dJ6_numberOfTrailingZeros_0f7a4_73 : decode cJ6_numberOfTrailingZeros_0f7a4 73 = .ok (.istore_n 0, 1) := by decide +kernel
theorem dJ6_numberOfTrailingZeros_0f7a4_74 : decode cJ6_numberOfTrailingZeros_0f7a4 74 = .ok (.iload_n 1, 1) := by decide +kernel
theorem dJ6_numberOfTrailingZeros_0f7a4_75 : decode cJ6_numberOfTrailingZeros_0f7a4 75 = .ok (.iload_n 0, 1) := by decide +kernel
theorem dJ6_numberOfTrailingZeros_0f7a4_76 : decode cJ6_numberOfTrailingZeros_0f7a4 76 = .ok (.iconst 1, 1) := by decide +kernel
theorem dJ6_numberOfTrailingZeros_0f7a4_77 : decode cJ6_numberOfTrailingZeros_0f7a4 77 = .ok (.iushr, 1) := by decide +kernel
theorem dJ6_numberOfTrailingZeros_0f7a4_78 : decode cJ6_numberOfTrailingZeros_0f7a4 78 = .ok (.iadd, 1) := by decide +kernel
theorem dJ6_numberOfTrailingZeros_0f7a4_79 : decode cJ6_numberOfTrailingZeros_0f7a4 79 = .ok (.ireturn, 1) := by decide +kernel
theorem dJ6_bitCount_0f7a4_0 : decode cJ6_bitCount_0f7a4 0 = .ok (.iload_n 0, 1) := by decide +kernel
theorem dJ6_bitCount_0f7a4_1 : decode cJ6_bitCount_0f7a4 1 = .ok (.iload_n 0, 1) := by decide +kernel
theorem dJ6_bitCount_0f7a4_2 : decode cJ6_bitCount_0f7a4 2 = .ok (.iconst 1, 1) := by decide +kernel
theorem dJ6_bitCount_0f7a4_3 : decode cJ6_bitCount_0f7a4 3 = .ok (.iushr, 1) := by decide +kernel
theorem dJ6_bitCount_0f7a4_4 : decode cJ6_bitCount_0f7a4 4 = .ok (.ldc_w 265, 3) := by decide +kernel
theorem dJ6_bitCount_0f7a4_7 : decode cJ6_bitCount_0f7a4 7 = .ok (.iand, 1) := by decide +kernel
theorem dJ6_bitCount_0f7a4_8 : decode cJ6_bitCount_0f7a4 8 = .ok (.isub, 1) := by decide +kernel
theorem dJ6_bitCount_0f7a4_9 : decode cJ6_bitCount_0f7a4 9 = .ok (.istore_n 0, 1) := by decide +kernel
theorem dJ6_bitCount_0f7a4_10 : decode cJ6_bitCount_0f7a4 10 = .ok (.iload_n 0, 1) := by decide +kernel
theorem dJ6_bitCount_0f7a4_11 : decode cJ6_bitCount_0f7a4 11 = .ok (.ldc_w 266, 3) := by decide +kernel
theorem dJ6_bitCount_0f7a4_14 : decode cJ6_bitCount_0f7a4 14 = .ok (.iand, 1) := by decide +kernel
theorem dJ6_bitCount_0f7a4_15 : decode cJ6_bitCount_0f7a4 15 = .ok (.iload_n 0, 1) := by decide +kernel
theorem dJ6_bitCount_0f7a4_16 : decode cJ6_bitCount_0f7a4 16 = .ok (.iconst 2, 1) := by decide +kernel
theorem dJ6_bitCount_0f7a4_17 : decode cJ6_bitCount_0f7a4 17 = .ok (.iushr, 1) := by decide +kernel
theorem dJ6_bitCount_0f7a4_18 : decode cJ6_bitCount_0f7a4 18 = .ok (.ldc_w 266, 3) := by decide +kernel
theorem dJ6_bitCount_0f7a4_21 : decode cJ6_bitCount_0f7a4 21 = .ok (.iand, 1) := by decide +kernel
theorem dJ6_bitCount_0f7a4_22 : decode cJ6_bitCount_0f7a4 22 = .ok (.iadd, 1) := by decide +kernel
theorem dJ6_bitCount_0f7a4_23 : decode cJ6_bitCount_0f7a4 23 = .ok (.istore_n 0, 1) := by decide +kernel
theorem dJ6_bitCount_0f7a4_24 : decode cJ6_bitCount_0f7a4 24 = .ok (.iload_n 0, 1) := by decide +kernel
theorem dJ6_bitCount_0f7a4_25 : decode cJ6_bitCount_0f7a4 25 = .ok (.iload_n 0, 1) := by decide +kernel
theorem dJ6_bitCount_0f7a4_26 : decode cJ6_bitCount_0f7a4 26 = .ok (.iconst 4, 1) := by decide +kernel
theorem dJ6_bitCount_0f7a4_27 : decode cJ6_bitCount_0f7a4 27 = .ok (.iushr, 1) := by decide +kernel
theorem dJ6_bitCount_0f7a4_28 : decode cJ6_bitCount_0f7a4 28 = .ok (.iadd, 1) := by decide +kernel
theorem dJ6_bitCount_0f7a4_29 : decode cJ6_bitCount_0f7a4 29 = .ok (.ldc_w 267, 3) := by decide +kernel
theorem dJ6_bitCount_0f7a4_32 : decode cJ6_bitCount_0f7a4 32 = .ok (.iand, 1) := by decide +kernel
theorem dJ6_bitCount_0f7a4_33 : decode cJ6_bitCount_0f7a4 33 = .ok (.istore_n 0, 1) := by decide +kernel
theorem dJ6_bitCount_0f7a4_34 : decode cJ6_bitCount_0f7a4 34 = .ok (.iload_n 0, 1) := by decide +kernel
theorem dJ6_bitCount_0f7a4_35 : decode cJ6_bitCount_0f7a4 35 = .ok (.iload_n 0, 1) := by decide +kernel
theorem dJ6_bitCount_0f7a4_36 : decode cJ6_bitCount_0f7a4 36 = .ok (.bipush 8, 2) := by decide +kernel
theorem dJ6_bitCount_0f7a4_38 : decode cJ6_bitCount_0f7a4 38 = .ok (.iushr, 1) := by decide +kernel
theorem dJ6_bitCount_0f7a4_39 : decode cJ6_bitCount_0f7a4 39 = .ok (.iadd, 1) := by decide +kernel
theorem dJ6_bitCount_0f7a4_40 : decode cJ6_bitCount_0f7a4 40 = .ok (.istore_n 0, 1) := by decide +kernel
theorem dJ6_bitCount_0f7a4_41 : decode cJ6_bitCount_0f7a4 41 = .ok (.iload_n 0, 1) := by decide +kernel
theorem dJ6_bitCount_0f7a4_42 : decode cJ6_bitCount_0f7a4 42 = .ok (.iload_n 0, 1) := by decide +kernel
theorem dJ6_bitCount_0f7a4_43 : decode cJ6_bitCount_0f7a4 43 = .ok (.bipush 16, 2) := by decide +kernel
theorem dJ6_bitCount_0f7a4_45 : decode cJ6_bitCount_0f7a4 45 = .ok (.iushr, 1) := by decide +kernel
theorem dJ6_bitCount_0f7a4_46 : decode cJ6_bitCount_0f7a4 46 = .ok (.iadd, 1) := by decide +kernel
theorem dJ6_bitCount_0f7a4_47 : decode cJ6_bitCount_0f7a4 47 = .ok (.istore_n 0, 1) := by decide +kernel
theorem dJ6_bitCount_0f7a4_48 : decode cJ6_bitCount_0f7a4 48 = .ok (.iload_n 0, 1) := by decide +kernel
theorem dJ6_bitCount_0f7a4_49 : decode cJ6_bitCount_0f7a4 49 = .ok (.bipush 63, 2) := by decide +kernel
theorem dJ6_bitCount_0f7a4_51 : decode cJ6_bitCount_0f7a4 51 = .ok (.iand, 1) := by decide +kernel
theorem dJ6_bitCount_0f7a4_52 : decode cJ6_bitCount_0f7a4 52 = .ok (.ireturn, 1) := by decide +kernel
theorem dJ9_max_7cf53_0 : decode cJ9_max_7cf53 0 = .ok (.iload_n 0, 1) := by decide +kernel
theorem dJ9_max_7cf53_1 : decode cJ9_max_7cf53 1 = .ok (.iload_n 1, 1) := by decide +kernel
theorem dJ9_max_7cf53_2 : decode cJ9_max_7cf53 2 = .ok (.if_icmp .lt 7, 3) := by decide +kernel
theorem dJ9_max_7cf53_5 : decode cJ9_max_7cf53 5 = .ok (.iload_n 0, 1) := by decide +kernel
theorem dJ9_max_7cf53_6 : decode cJ9_max_7cf53 6 = .ok (.goto 4, 3) := by decide +kernel
theorem dJ9_max_7cf53_9 : decode cJ9_max_7cf53 9 = .ok (.iload_n 1, 1) := by decide +kernel
theorem dJ9_max_7cf53_10 : decode cJ9_max_7cf53 10 = .ok (.ireturn, 1) := by decide +kernel
theorem dJ9_min_7cf53_0 : decode cJ9_min_7cf53 0 = .ok (.iload_n 0, 1) := by decide +kernel
theorem dJ9_min_7cf53_1 : decode cJ9_min_7cf53 1 = .ok (.iload_n 1, 1) := by decide +kernel
theorem dJ9_min_7cf53_2 : decode cJ9_min_7cf53 2 = .ok (.if_icmp .gt 7, 3) := by decide +kernel
theorem dJ9_min_7cf53_5 : decode cJ9_min_7cf53 5 = .ok (.iload_n 0, 1) := by decide +kernel
theorem dJ9_min_7cf53_6 : decode cJ9_min_7cf53 6 = .ok (.goto 4, 3) := by decide +kernel
theorem dJ9_min_7cf53_9 : decode cJ9_min_7cf53 9 = .ok (.iload_n 1, 1) := by decide +kernel
theorem dJ9_min_7cf53_10 : decode cJ9_min_7cf53 10 = .ok (.ireturn, 1) := by decide +kernel
theorem dJ0_length_8abf5_0 : decode cJ0_length_8abf5 0 = .ok (.aload_n 0, 1) := by decide +kernel
theorem dJ0_length_8abf5_1 : decode cJ0_length_8abf5 1 = .ok (.getfield 9, 3) := by decide +kernel
theorem dJ0_length_8abf5_4 : decode cJ0_length_8abf5 4 = .ok (.arraylength, 1) := by decide +kernel
theorem dJ0_length_8abf5_5 : decode cJ0_length_8abf5 5 = .ok (.aload_n 0, 1) := by decide +kernel
theorem dJ0_length_8abf5_6 : decode cJ0_length_8abf5 6 = .ok (.invokevirtual 335, 3) := by decide +kernel
theorem dJ0_length_8abf5_9 : decode cJ0_length_8abf5 9 = .ok (.ishr, 1) := by decide +kernel
theorem dJ0_length_8abf5_10 : decode cJ0_length_8abf5 10 = .ok (.ireturn, 1) := by decide +kernel
theorem dJ0_charAt_5068e_0 : decode cJ0_charAt_5068e 0 = .ok (.aload_n 0, 1) := by decide +kernel
theorem dJ0_charAt_5068e_1 : decode cJ0_charAt_5068e 1 = .ok (.invokevirtual 492, 3) := by decide +kernel
theorem dJ0_charAt_5068e_4 : decode cJ0_charAt_5068e 4 = .ok (.ifCond .eq 12, 3) := by decide +kernel
theorem dJ0_charAt_5068e_7 : decode cJ0_charAt_5068e 7 = .ok (.aload_n 0, 1) := by decide +kernel
theorem dJ0_charAt_5068e_8 : decode cJ0_charAt_5068e 8 = .ok (.getfield 9, 3) := by decide +kernel
theorem dJ0_charAt_5068e_11 : decode cJ0_charAt_5068e 11 = .ok (.iload_n 1, 1) := by decide +kernel
theorem dJ0_charAt_5068e_12 : decode cJ0_charAt_5068e 12 = .ok (.invokestatic 495, 3) := by decide +kernel
theorem dJ0_charAt_5068e_15 : decode cJ0_charAt_5068e 15 = .ok (.ireturn, 1) := by decide +kernel
theorem dJ0_charAt_5068e_16 : decode cJ0_charAt_5068e 16 = .ok (.aload_n 0, 1) := by decide +kernel
theorem dJ0_charAt_5068e_17 : decode cJ0_charAt_5068e 17 = .ok (.getfield 9, 3) := by decide +kernel
theorem dJ0_charAt_5068e_20 : decode cJ0_charAt_5068e 20 = .ok (.iload_n 1, 1) := by decide +kernel
theorem dJ0_charAt_5068e_21 : decode cJ0_charAt_5068e 21 = .ok (.invokestatic 498, 3) := by decide +kernel
theorem dJ0_charAt_5068e_24 : decode cJ0_charAt_5068e 24 = .ok (.ireturn, 1) := by decide +kernel
theorem dJ0_indexOf_0f7a4_0 : decode cJ0_indexOf_0f7a4 0 = .ok (.aload_n 0, 1) := by decide +kernel
theorem dJ0_indexOf_0f7a4_1 : decode cJ0_indexOf_0f7a4 1 = .ok (.iload_n 1, 1) := by decide +kernel
theorem dJ0_indexOf_0f7a4_2 : decode cJ0_indexOf_0f7a4 2 = .ok (.iconst 0, 1) := by decide +kernel
theorem dJ0_indexOf_0f7a4_3 : decode cJ0_indexOf_0f7a4 3 = .ok (.invokevirtual 633, 3) := by decide +kernel
theorem dJ0_indexOf_0f7a4_6 : decode cJ0_indexOf_0f7a4 6 = .ok (.ireturn, 1) := by decide +kernel
theorem dJ0_indexOf_7cf53_0 : decode cJ0_indexOf_7cf53 0 = .ok (.aload_n 0, 1) := by decide +kernel
theorem dJ0_indexOf_7cf53_1 : decode cJ0_indexOf_7cf53 1 = .ok (.invokevirtual 492, 3) := by decide +kernel
theorem dJ0_indexOf_7cf53_4 : decode cJ0_indexOf_7cf53 4 = .ok (.ifCond .eq 19, 3) := by decide +kernel
theorem dJ0_indexOf_7cf53_7 : decode cJ0_indexOf_7cf53 7 = .ok (.aload_n 0, 1) := by decide +kernel
theorem dJ0_indexOf_7cf53_8 : decode cJ0_indexOf_7cf53 8 = .ok (.getfield 9, 3) := by decide +kernel
theorem dJ0_indexOf_7cf53_11 : decode cJ0_indexOf_7cf53 11 = .ok (.iload_n 1, 1) := by decide +kernel
theorem dJ0_indexOf_7cf53_12 : decode cJ0_indexOf_7cf53 12 = .ok (.iload_n 2, 1) := by decide +kernel
theorem dJ0_indexOf_7cf53_13 : decode cJ0_indexOf_7cf53 13 = .ok (.aload_n 0, 1) := by decide +kernel
theorem dJ0_indexOf_7cf53_14 : decode cJ0_indexOf_7cf53 14 = .ok (.invokevirtual 505, 3) := by decide +kernel
theorem dJ0_indexOf_7cf53_17 : decode cJ0_indexOf_7cf53 17 = .ok (.invokestatic 637, 3) := by decide +kernel
theorem dJ0_indexOf_7cf53_20 : decode cJ0_indexOf_7cf53 20 = .ok (.goto 16, 3) := by decide +kernel
theorem dJ0_indexOf_7cf53_23 : decode cJ0_indexOf_7cf53 23 = .ok (.aload_n 0, 1) := by decide +kernel
theorem dJ0_indexOf_7cf53_24 : decode cJ0_indexOf_7cf53 24 = .ok (.getfield 9, 3) := by decide +kernel
theorem dJ0_indexOf_7cf53_27 : decode cJ0_indexOf_7cf53 27 = .ok (.iload_n 1, 1) := by decide +kernel
theorem dJ0_indexOf_7cf53_28 : decode cJ0_indexOf_7cf53 28 = .ok (.iload_n 2, 1) := by decide +kernel
theorem dJ0_indexOf_7cf53_29 : decode cJ0_indexOf_7cf53 29 = .ok (.aload_n 0, 1) := by decide +kernel
theorem dJ0_indexOf_7cf53_30 : decode cJ0_indexOf_7cf53 30 = .ok (.invokevirtual 505, 3) := by decide +kernel
theorem dJ0_indexOf_7cf53_33 : decode cJ0_indexOf_7cf53 33 = .ok (.invokestatic 640, 3) := by decide +kernel
theorem dJ0_indexOf_7cf53_36 : decode cJ0_indexOf_7cf53 36 = .ok (.ireturn, 1) := by decide +kernel
theorem dJ0_coder_7d493_0 : decode cJ0_coder_7d493 0 = .ok (.getstatic 38, 3) := by decide +kernel
theorem dJ0_coder_7d493_3 : decode cJ0_coder_7d493 3 = .ok (.ifCond .eq 10, 3) := by decide +kernel
theorem dJ0_coder_7d493_6 : decode cJ0_coder_7d493 6 = .ok (.aload_n 0, 1) := by decide +kernel
theorem dJ0_coder_7d493_7 : decode cJ0_coder_7d493 7 = .ok (.getfield 15, 3) := by decide +kernel
theorem dJ0_coder_7d493_10 : decode cJ0_coder_7d493 10 = .ok (.goto 4, 3) := by decide +kernel
theorem dJ0_coder_7d493_13 : decode cJ0_coder_7d493 13 = .ok (.iconst 1, 1) := by decide +kernel
theorem dJ0_coder_7d493_14 : decode cJ0_coder_7d493 14 = .ok (.ireturn, 1) := by decide +kernel
theorem dJ0_isLatin1_aae02_0 : decode cJ0_isLatin1_aae02 0 = .ok (.getstatic 38, 3) := by decide +kernel
theorem dJ0_isLatin1_aae02_3 : decode cJ0_isLatin1_aae02 3 = .ok (.ifCond .eq 14, 3) := by decide +kernel
theorem dJ0_isLatin1_aae02_6 : decode cJ0_isLatin1_aae02 6 = .ok (.aload_n 0, 1) := by decide +kernel
theorem dJ0_isLatin1_aae02_7 : decode cJ0_isLatin1_aae02 7 = .ok (.getfield 15, 3) := by decide +kernel
theorem dJ0_isLatin1_aae02_10 : decode cJ0_isLatin1_aae02 10 = .ok (.ifCond .ne 7, 3) := by decide +kernel
theorem dJ0_isLatin1_aae02_13 : decode cJ0_isLatin1_aae02 13 = .ok (.iconst 1, 1) := by decide +kernel
theorem dJ0_isLatin1_aae02_14 : decode cJ0_isLatin1_aae02 14 = .ok (.goto 4, 3) := by decide +kernel
theorem dJ0_isLatin1_aae02_17 : decode cJ0_isLatin1_aae02 17 = .ok (.iconst 0, 1) := by decide +kernel
theorem dJ0_isLatin1_aae02_18 : decode cJ0_isLatin1_aae02 18 = .ok (.ireturn, 1) := by decide +kernel
theorem dJ0_checkIndex_df160_0 : decode cJ0_checkIndex_df160 0 = .ok (.iload_n 0, 1) := by decide +kernel
theorem dJ0_checkIndex_df160_1 : decode cJ0_checkIndex_df160 1 = .ok (.iload_n 1, 1) := by decide +kernel
theorem dJ0_checkIndex_df160_2 : decode cJ0_checkIndex_df160 2 = .ok (.getstatic 1053, 3) := by decide +kernel
theorem dJ0_checkIndex_df160_5 : decode cJ0_checkIndex_df160 5 = .ok (.invokestatic 1059, 3) := by decide +kernel
theorem dJ0_checkIndex_df160_8 : decode cJ0_checkIndex_df160 8 = .ok (.pop, 1) := by decide +kernel
theorem dJ0_checkIndex_df160_9 : decode cJ0_checkIndex_df160 9 = .ok (.return_, 1) := by decide +kernel
theorem dJ0_checkBoundsBeginEnd_23922_0 : decode cJ0_checkBoundsBeginEnd_23922 0 = .ok (.iload_n 0, 1) := by decide +kernel
theorem dJ0_checkBoundsBeginEnd_23922_1 : decode cJ0_checkBoundsBeginEnd_23922 1 = .ok (.iload_n 1, 1) := by decide +kernel
theorem dJ0_checkBoundsBeginEnd_23922_2 : decode cJ0_checkBoundsBeginEnd_23922 2 = .ok (.iload_n 2, 1) := by decide +kernel
theorem dJ0_checkBoundsBeginEnd_23922_3 : decode cJ0_checkBoundsBeginEnd_23922 3 = .ok (.getstatic 1053, 3) := by decide +kernel
theorem dJ0_checkBoundsBeginEnd_23922_6 : decode cJ0_checkBoundsBeginEnd_23922 6 = .ok (.invokestatic 1062, 3) := by decide +kernel
theorem dJ0_checkBoundsBeginEnd_23922_9 : decode cJ0_checkBoundsBeginEnd_23922 9 = .ok (.pop, 1) := by decide +kernel
theorem dJ0_checkBoundsBeginEnd_23922_10 : decode cJ0_checkBoundsBeginEnd_23922 10 = .ok (.return_, 1) := by decide +kernel
theorem dJ1_charAt_3b067_0 : decode cJ1_charAt_3b067 0 = .ok (.iload_n 1, 1) := by decide +kernel
theorem dJ1_charAt_3b067_1 : decode cJ1_charAt_3b067 1 = .ok (.aload_n 0, 1) := by decide +kernel
theorem dJ1_charAt_3b067_2 : decode cJ1_charAt_3b067 2 = .ok (.arraylength, 1) := by decide +kernel
theorem dJ1_charAt_3b067_3 : decode cJ1_charAt_3b067 3 = .ok (.invokestatic 9, 3) := by decide +kernel
theorem dJ1_charAt_3b067_6 : decode cJ1_charAt_3b067 6 = .ok (.aload_n 0, 1) := by decide +kernel
theorem dJ1_charAt_3b067_7 : decode cJ1_charAt_3b067 7 = .ok (.iload_n 1, 1) := by decide +kernel
theorem dJ1_charAt_3b067_8 : decode cJ1_charAt_3b067 8 = .ok (.baload, 1) := by decide +kernel
theorem dJ1_charAt_3b067_9 : decode cJ1_charAt_3b067 9 = .ok (.sipush 255, 3) := by decide +kernel
theorem dJ1_charAt_3b067_12 : decode cJ1_charAt_3b067 12 = .ok (.iand, 1) := by decide +kernel
theorem dJ1_charAt_3b067_13 : decode cJ1_charAt_3b067 13 = .ok (.i2c, 1) := by decide +kernel
theorem dJ1_charAt_3b067_14 : decode cJ1_charAt_3b067 14 = .ok (.ireturn, 1) := by decide +kernel
theorem dJ1_canEncode_9a6ad_0 : decode cJ1_canEncode_9a6ad 0 = .ok (.iload_n 0, 1) := by decide +kernel
theorem dJ1_canEncode_9a6ad_1 : decode cJ1_canEncode_9a6ad 1 = .ok (.ifCond .lt 14, 3) := by decide +kernel
theorem dJ1_canEncode_9a6ad_4 : decode cJ1_canEncode_9a6ad 4 = .ok (.iload_n 0, 1) := by decide +kernel
theorem dJ1_canEncode_9a6ad_5 : decode cJ1_canEncode_9a6ad 5 = .ok (.sipush 255, 3) := by decide +kernel
theorem dJ1_canEncode_9a6ad_8 : decode cJ1_canEncode_9a6ad 8 = .ok (.if_icmp .gt 7, 3) := by decide +kernel
theorem dJ1_canEncode_9a6ad_11 : decode cJ1_canEncode_9a6ad 11 = .ok (.iconst 1, 1) := by decide +kernel
theorem dJ1_canEncode_9a6ad_12 : decode cJ1_canEncode_9a6ad 12 = .ok (.goto 4, 3) := by decide +kernel
theorem dJ1_canEncode_9a6ad_15 : decode cJ1_canEncode_9a6ad 15 = .ok (.iconst 0, 1) := by decide +kernel
theorem dJ1_canEncode_9a6ad_16 : decode cJ1_canEncode_9a6ad 16 = .ok (.ireturn, 1) := by decide +kernel
theorem dJ1_indexOf_4cfef_0 : decode cJ1_indexOf_4cfef 0 = .ok (.iload_n 1, 1) := by decide +kernel
theorem dJ1_indexOf_4cfef_1 : decode cJ1_indexOf_4cfef 1 = .ok (.invokestatic 88, 3) := by decide +kernel
theorem dJ1_indexOf_4cfef_4 : decode cJ1_indexOf_4cfef 4 = .ok (.ifCond .ne 5, 3) := by decide +kernel
theorem dJ1_indexOf_4cfef_7 : decode cJ1_indexOf_4cfef 7 = .ok (.iconst (-1), 1) := by decide +kernel
theorem dJ1_indexOf_4cfef_8 : decode cJ1_indexOf_4cfef 8 = .ok (.ireturn, 1) := by decide +kernel
theorem dJ1_indexOf_4cfef_9 : decode cJ1_indexOf_4cfef 9 = .ok (.iload_n 2, 1) := by decide +kernel
theorem dJ1_indexOf_4cfef_10 : decode cJ1_indexOf_4cfef 10 = .ok (.iconst 0, 1) := by decide +kernel
theorem dJ1_indexOf_4cfef_11 : decode cJ1_indexOf_4cfef 11 = .ok (.invokestatic 92, 3) := by decide +kernel
theorem dJ1_indexOf_4cfef_14 : decode cJ1_indexOf_4cfef 14 = .ok (.istore_n 2, 1) := by decide +kernel
theorem dJ1_indexOf_4cfef_15 : decode cJ1_indexOf_4cfef 15 = .ok (.iload_n 3, 1) := by decide +kernel
theorem dJ1_indexOf_4cfef_16 : decode cJ1_indexOf_4cfef 16 = .ok (.aload_n 0, 1) := by decide +kernel
theorem dJ1_indexOf_4cfef_17 : decode cJ1_indexOf_4cfef 17 = .ok (.arraylength, 1) := by decide +kernel
theorem dJ1_indexOf_4cfef_18 : decode cJ1_indexOf_4cfef 18 = .ok (.invokestatic 38, 3) := by decide +kernel
theorem dJ1_indexOf_4cfef_21 : decode cJ1_indexOf_4cfef 21 = .ok (.istore_n 3, 1) := by decide +kernel
theorem dJ1_indexOf_4cfef_22 : decode cJ1_indexOf_4cfef 22 = .ok (.iload_n 2, 1) := by decide +kernel
theorem dJ1_indexOf_4cfef_23 : decode cJ1_indexOf_4cfef 23 = .ok (.iload_n 3, 1) := by decide +kernel
theorem dJ1_indexOf_4cfef_24 : decode cJ1_indexOf_4cfef 24 = .ok (.if_icmp .lt 5, 3) := by decide +kernel
theorem dJ1_indexOf_4cfef_27 : decode cJ1_indexOf_4cfef 27 = .ok (.iconst (-1), 1) := by decide +kernel
theorem dJ1_indexOf_4cfef_28 : decode cJ1_indexOf_4cfef 28 = .ok (.ireturn, 1) := by decide +kernel
theorem dJ1_indexOf_4cfef_29 : decode cJ1_indexOf_4cfef 29 = .ok (.aload_n 0, 1) := by decide +kernel
theorem dJ1_indexOf_4cfef_30 : decode cJ1_indexOf_4cfef 30 = .ok (.iload_n 1, 1) := by decide +kernel
theorem dJ1_indexOf_4cfef_31 : decode cJ1_indexOf_4cfef 31 = .ok (.iload_n 2, 1) := by decide +kernel
theorem dJ1_indexOf_4cfef_32 : decode cJ1_indexOf_4cfef 32 = .ok (.iload_n 3, 1) := by decide +kernel
theorem dJ1_indexOf_4cfef_33 : decode cJ1_indexOf_4cfef 33 = .ok (.invokestatic 95, 3) := by decide +kernel
theorem dJ1_indexOf_4cfef_36 : decode cJ1_indexOf_4cfef 36 = .ok (.ireturn, 1) := by decide +kernel
theorem dJ1_indexOfChar_4cfef_0 : decode cJ1_indexOfChar_4cfef 0 = .ok (.iload_n 1, 1) := by decide +kernel
theorem dJ1_indexOfChar_4cfef_1 : decode cJ1_indexOfChar_4cfef 1 = .ok (.i2b, 1) := by decide +kernel
theorem dJ1_indexOfChar_4cfef_2 : decode cJ1_indexOfChar_4cfef 2 = .ok (.istore 4, 2) := by decide +kernel
theorem dJ1_indexOfChar_4cfef_4 : decode cJ1_indexOfChar_4cfef 4 = .ok (.iload_n 2, 1) := by decide +kernel
theorem dJ1_indexOfChar_4cfef_5 : decode cJ1_indexOfChar_4cfef 5 = .ok (.istore 5, 2) := by decide +kernel
theorem dJ1_indexOfChar_4cfef_7 : decode cJ1_indexOfChar_4cfef 7 = .ok (.iload 5, 2) := by decide +kernel
theorem dJ1_indexOfChar_4cfef_9 : decode cJ1_indexOfChar_4cfef 9 = .ok (.iload_n 3, 1) := by decide +kernel
theorem dJ1_indexOfChar_4cfef_10 : decode cJ1_indexOfChar_4cfef 10 = .ok (.if_icmp .ge 21, 3) := by decide +kernel
theorem dJ1_indexOfChar_4cfef_13 : decode cJ1_indexOfChar_4cfef 13 = .ok (.aload_n 0, 1) := by decide +kernel
theorem dJ1_indexOfChar_4cfef_14 : decode cJ1_indexOfChar_4cfef 14 = .ok (.iload 5, 2) := by decide +kernel
theorem dJ1_indexOfChar_4cfef_16 : decode cJ1_indexOfChar_4cfef 16 = .ok (.baload, 1) := by decide +kernel
theorem dJ1_indexOfChar_4cfef_17 : decode cJ1_indexOfChar_4cfef 17 = .ok (.iload 4, 2) := by decide +kernel
theorem dJ1_indexOfChar_4cfef_19 : decode cJ1_indexOfChar_4cfef 19 = .ok (.if_icmp .ne 6, 3) := by decide +kernel
theorem dJ1_indexOfChar_4cfef_22 : decode cJ1_indexOfChar_4cfef 22 = .ok (.iload 5, 2) := by decide +kernel
theorem dJ1_indexOfChar_4cfef_24 : decode cJ1_indexOfChar_4cfef 24 = .ok (.ireturn, 1) := by decide +kernel
theorem dJ1_indexOfChar_4cfef_25 : decode cJ1_indexOfChar_4cfef 25 = .ok (.iinc 5 1, 3) := by decide +kernel
theorem dJ1_indexOfChar_4cfef_28 : decode cJ1_indexOfChar_4cfef 28 = .ok (.goto (-21), 3) := by decide +kernel
theorem dJ1_indexOfChar_4cfef_31 : decode cJ1_indexOfChar_4cfef 31 = .ok (.iconst (-1), 1) := by decide +kernel
theorem dJ1_indexOfChar_4cfef_32 : decode cJ1_indexOfChar_4cfef 32 = .ok (.ireturn, 1) := by decide +kernel
theorem dJ2_getChar_3b067_0 : decode cJ2_getChar_3b067 0 = .ok (.getstatic 44, 3) := by decide +kernel
theorem dJ2_getChar_3b067_3 : decode cJ2_getChar_3b067 3 = .ok (.ifCond .ne 25, 3) := by decide +kernel
theorem dJ2_getChar_3b067_6 : decode cJ2_getChar_3b067 6 = .ok (.iload_n 1, 1) := by decide +kernel
theorem dJ2_getChar_3b067_7 : decode cJ2_getChar_3b067 7 = .ok (.ifCond .lt 11, 3) := by decide +kernel
theorem dJ2_getChar_3b067_10 : decode cJ2_getChar_3b067 10 = .ok (.iload_n 1, 1) := by decide +kernel
theorem dJ2_getChar_3b067_11 : decode cJ2_getChar_3b067 11 = .ok (.aload_n 0, 1) := by decide +kernel
theorem dJ2_getChar_3b067_12 : decode cJ2_getChar_3b067 12 = .ok (.invokestatic 48, 3) := by decide +kernel
theorem dJ2_getChar_3b067_15 : decode cJ2_getChar_3b067 15 = .ok (.if_icmp .lt 13, 3) := by decide +kernel
theorem dJ2_getChar_3b067_18 : decode cJ2_getChar_3b067 18 = .ok (.new 52, 3) := by decide +kernel
theorem dJ2_getChar_3b067_21 : decode cJ2_getChar_3b067 21 = .ok (.dup, 1) := by decide +kernel
theorem dJ2_getChar_3b067_22 : decode cJ2_getChar_3b067 22 = .ok (.ldc 54, 2) := by decide +kernel
theorem dJ2_getChar_3b067_24 : decode cJ2_getChar_3b067 24 = .ok (.invokespecial 56, 3) := by decide +kernel
theorem dJ2_getChar_3b067_27 : decode cJ2_getChar_3b067 27 = .ok (.athrow, 1) := by decide +kernel
theorem dJ2_getChar_3b067_28 : decode cJ2_getChar_3b067 28 = .ok (.iload_n 1, 1) := by decide +kernel
theorem dJ2_getChar_3b067_29 : decode cJ2_getChar_3b067 29 = .ok (.iconst 1, 1) := by decide +kernel
theorem dJ2_getChar_3b067_30 : decode cJ2_getChar_3b067 30 = .ok (.ishl, 1) := by decide +kernel
theorem dJ2_getChar_3b067_31 : decode cJ2_getChar_3b067 31 = .ok (.istore_n 1, 1) := by decide +kernel
theorem dJ2_getChar_3b067_32 : decode cJ2_getChar_3b067 32 = .ok (.aload_n 0, 1) := by decide +kernel
theorem dJ2_getChar_3b067_33 : decode cJ2_getChar_3b067 33 = .ok (.iload_n 1, 1) := by decide +kernel
theorem dJ2_getChar_3b067_34 : decode cJ2_getChar_3b067 34 = .ok (.iinc 1 1, 3) := by decide +kernel
theorem dJ2_getChar_3b067_37 : decode cJ2_getChar_3b067 37 = .ok (.baload, 1) := by decide +kernel
theorem dJ2_getChar_3b067_38 : decode cJ2_getChar_3b067 38 = .ok (.sipush 255, 3) := by decide +kernel
theorem dJ2_getChar_3b067_41 : decode cJ2_getChar_3b067 41 = .ok (.iand, 1) := by decide +kernel
theorem dJ2_getChar_3b067_42 : decode cJ2_getChar_3b067 42 = .ok (.getstatic 59, 3) := by decide +kernel
theorem dJ2_getChar_3b067_45 : decode cJ2_getChar_3b067 45 = .ok (.ishl, 1) := by decide +kernel
theorem dJ2_getChar_3b067_46 : decode cJ2_getChar_3b067 46 = .ok (.aload_n 0, 1) := by decide +kernel
theorem dJ2_getChar_3b067_47 : decode cJ2_getChar_3b067 47 = .ok (.iload_n 1, 1) := by decide +kernel
theorem dJ2_getChar_3b067_48 : decode cJ2_getChar_3b067 48 = .ok (.baload, 1) := by decide +kernel
theorem dJ2_getChar_3b067_49 : decode cJ2_getChar_3b067 49 = .ok (.sipush 255, 3) := by decide +kernel
theorem dJ2_getChar_3b067_52 : decode cJ2_getChar_3b067 52 = .ok (.iand, 1) := by decide +kernel
theorem dJ2_getChar_3b067_53 : decode cJ2_getChar_3b067 53 = .ok (.getstatic 63, 3) := by decide +kernel
theorem dJ2_getChar_3b067_56 : decode cJ2_getChar_3b067 56 = .ok (.ishl, 1) := by decide +kernel
theorem dJ2_getChar_3b067_57 : decode cJ2_getChar_3b067 57 = .ok (.ior, 1) := by decide +kernel
theorem dJ2_getChar_3b067_58 : decode cJ2_getChar_3b067 58 = .ok (.i2c, 1) := by decide +kernel
theorem dJ2_getChar_3b067_59 : decode cJ2_getChar_3b067 59 = .ok (.ireturn, 1) := by decide +kernel
theorem dJ2_length_9d52b_0 : decode cJ2_length_9d52b 0 = .ok (.aload_n 0, 1) := by decide +kernel
theorem dJ2_length_9d52b_1 : decode cJ2_length_9d52b 1 = .ok (.arraylength, 1) := by decide +kernel
theorem dJ2_length_9d52b_2 : decode cJ2_length_9d52b 2 = .ok (.iconst 1, 1) := by decide +kernel
theorem dJ2_length_9d52b_3 : decode cJ2_length_9d52b 3 = .ok (.ishr, 1) := by decide +kernel
theorem dJ2_length_9d52b_4 : decode cJ2_length_9d52b 4 = .ok (.ireturn, 1) := by decide +kernel
theorem dJ2_indexOf_4cfef_0 : decode cJ2_indexOf_4cfef 0 = .ok (.iload_n 2, 1) := by decide +kernel
theorem dJ2_indexOf_4cfef_1 : decode cJ2_indexOf_4cfef 1 = .ok (.iconst 0, 1) := by decide +kernel
theorem dJ2_indexOf_4cfef_2 : decode cJ2_indexOf_4cfef 2 = .ok (.invokestatic 224, 3) := by decide +kernel
theorem dJ2_indexOf_4cfef_5 : decode cJ2_indexOf_4cfef 5 = .ok (.istore_n 2, 1) := by decide +kernel
theorem dJ2_indexOf_4cfef_6 : decode cJ2_indexOf_4cfef 6 = .ok (.iload_n 3, 1) := by decide +kernel
theorem dJ2_indexOf_4cfef_7 : decode cJ2_indexOf_4cfef 7 = .ok (.aload_n 0, 1) := by decide +kernel
theorem dJ2_indexOf_4cfef_8 : decode cJ2_indexOf_4cfef 8 = .ok (.arraylength, 1) := by decide +kernel
theorem dJ2_indexOf_4cfef_9 : decode cJ2_indexOf_4cfef 9 = .ok (.iconst 1, 1) := by decide +kernel
theorem dJ2_indexOf_4cfef_10 : decode cJ2_indexOf_4cfef 10 = .ok (.ishr, 1) := by decide +kernel
theorem dJ2_indexOf_4cfef_11 : decode cJ2_indexOf_4cfef 11 = .ok (.invokestatic 183, 3) := by decide +kernel
theorem dJ2_indexOf_4cfef_14 : decode cJ2_indexOf_4cfef 14 = .ok (.istore_n 3, 1) := by decide +kernel
theorem dJ2_indexOf_4cfef_15 : decode cJ2_indexOf_4cfef 15 = .ok (.iload_n 2, 1) := by decide +kernel
theorem dJ2_indexOf_4cfef_16 : decode cJ2_indexOf_4cfef 16 = .ok (.iload_n 3, 1) := by decide +kernel
theorem dJ2_indexOf_4cfef_17 : decode cJ2_indexOf_4cfef 17 = .ok (.if_icmp .lt 5, 3) := by decide +kernel
theorem dJ2_indexOf_4cfef_20 : decode cJ2_indexOf_4cfef 20 = .ok (.iconst (-1), 1) := by decide +kernel
theorem dJ2_indexOf_4cfef_21 : decode cJ2_indexOf_4cfef 21 = .ok (.ireturn, 1) := by decide +kernel
theorem dJ2_indexOf_4cfef_22 : decode cJ2_indexOf_4cfef 22 = .ok (.iload_n 1, 1) := by decide +kernel
theorem dJ2_indexOf_4cfef_23 : decode cJ2_indexOf_4cfef 23 = .ok (.ldc 227, 2) := by decide +kernel
theorem dJ2_indexOf_4cfef_25 : decode cJ2_indexOf_4cfef 25 = .ok (.if_icmp .ge 11, 3) := by decide +kernel
theorem dJ2_indexOf_4cfef_28 : decode cJ2_indexOf_4cfef 28 = .ok (.aload_n 0, 1) := by decide +kernel
theorem dJ2_indexOf_4cfef_29 : decode cJ2_indexOf_4cfef 29 = .ok (.iload_n 1, 1) := by decide +kernel
theorem dJ2_indexOf_4cfef_30 : decode cJ2_indexOf_4cfef 30 = .ok (.iload_n 2, 1) := by decide +kernel
theorem dJ2_indexOf_4cfef_31 : decode cJ2_indexOf_4cfef 31 = .ok (.iload_n 3, 1) := by decide +kernel
theorem dJ2_indexOf_4cfef_32 : decode cJ2_indexOf_4cfef 32 = .ok (.invokestatic 228, 3) := by decide +kernel
theorem dJ2_indexOf_4cfef_35 : decode cJ2_indexOf_4cfef 35 = .ok (.ireturn, 1) := by decide +kernel
theorem dJ2_indexOf_4cfef_36 : decode cJ2_indexOf_4cfef 36 = .ok (.aload_n 0, 1) := by decide +kernel
theorem dJ2_indexOf_4cfef_37 : decode cJ2_indexOf_4cfef 37 = .ok (.iload_n 1, 1) := by decide +kernel
theorem dJ2_indexOf_4cfef_38 : decode cJ2_indexOf_4cfef 38 = .ok (.iload_n 2, 1) := by decide +kernel
theorem dJ2_indexOf_4cfef_39 : decode cJ2_indexOf_4cfef 39 = .ok (.iload_n 3, 1) := by decide +kernel
theorem dJ2_indexOf_4cfef_40 : decode cJ2_indexOf_4cfef 40 = .ok (.invokestatic 232, 3) := by decide +kernel
theorem dJ2_indexOf_4cfef_43 : decode cJ2_indexOf_4cfef 43 = .ok (.ireturn, 1) := by decide +kernel
theorem dJ2_indexOfChar_4cfef_0 : decode cJ2_indexOfChar_4cfef 0 = .ok (.iload_n 2, 1) := by decide +kernel
theorem dJ2_indexOfChar_4cfef_1 : decode cJ2_indexOfChar_4cfef 1 = .ok (.iload_n 3, 1) := by decide +kernel
theorem dJ2_indexOfChar_4cfef_2 : decode cJ2_indexOfChar_4cfef 2 = .ok (.aload_n 0, 1) := by decide +kernel
theorem dJ2_indexOfChar_4cfef_3 : decode cJ2_indexOfChar_4cfef 3 = .ok (.invokestatic 96, 3) := by decide +kernel
theorem dJ2_indexOfChar_4cfef_6 : decode cJ2_indexOfChar_4cfef 6 = .ok (.aload_n 0, 1) := by decide +kernel
theorem dJ2_indexOfChar_4cfef_7 : decode cJ2_indexOfChar_4cfef 7 = .ok (.iload_n 1, 1) := by decide +kernel
theorem dJ2_indexOfChar_4cfef_8 : decode cJ2_indexOfChar_4cfef 8 = .ok (.iload_n 2, 1) := by decide +kernel
theorem dJ2_indexOfChar_4cfef_9 : decode cJ2_indexOfChar_4cfef 9 = .ok (.iload_n 3, 1) := by decide +kernel
theorem dJ2_indexOfChar_4cfef_10 : decode cJ2_indexOfChar_4cfef 10 = .ok (.invokestatic 244, 3) := by decide +kernel
theorem dJ2_indexOfChar_4cfef_13 : decode cJ2_indexOfChar_4cfef 13 = .ok (.ireturn, 1) := by decide +kernel
theorem dJ2_indexOfCharUnsafe_4cfef_0 : decode cJ2_indexOfCharUnsafe_4cfef 0 = .ok (.iload_n 2, 1) := by decide +kernel
theorem dJ2_indexOfCharUnsafe_4cfef_1 : decode cJ2_indexOfCharUnsafe_4cfef 1 = .ok (.istore 4, 2) := by decide +kernel
theorem dJ2_indexOfCharUnsafe_4cfef_3 : decode cJ2_indexOfCharUnsafe_4cfef 3 = .ok (.iload 4, 2) := by decide +kernel
theorem dJ2_indexOfCharUnsafe_4cfef_5 : decode cJ2_indexOfCharUnsafe_4cfef 5 = .ok (.iload_n 3, 1) := by decide +kernel
theorem dJ2_indexOfCharUnsafe_4cfef_6 : decode cJ2_indexOfCharUnsafe_4cfef 6 = .ok (.if_icmp .ge 22, 3) := by decide +kernel
theorem dJ2_indexOfCharUnsafe_4cfef_9 : decode cJ2_indexOfCharUnsafe_4cfef 9 = .ok (.aload_n 0, 1) := by decide +kernel
theorem dJ2_indexOfCharUnsafe_4cfef_10 : decode cJ2_indexOfCharUnsafe_4cfef 10 = .ok (.iload 4, 2) := by decide +kernel
theorem dJ2_indexOfCharUnsafe_4cfef_12 : decode cJ2_indexOfCharUnsafe_4cfef 12 = .ok (.invokestatic 71, 3) := by decide +kernel
theorem dJ2_indexOfCharUnsafe_4cfef_15 : decode cJ2_indexOfCharUnsafe_4cfef 15 = .ok (.iload_n 1, 1) := by decide +kernel
theorem dJ2_indexOfCharUnsafe_4cfef_16 : decode cJ2_indexOfCharUnsafe_4cfef 16 = .ok (.if_icmp .ne 6, 3) := by decide +kernel
theorem dJ2_indexOfCharUnsafe_4cfef_19 : decode cJ2_indexOfCharUnsafe_4cfef 19 = .ok (.iload 4, 2) := by decide +kernel
theorem dJ2_indexOfCharUnsafe_4cfef_21 : decode cJ2_indexOfCharUnsafe_4cfef 21 = .ok (.ireturn, 1) := by decide +kernel
theorem dJ2_indexOfCharUnsafe_4cfef_22 : decode cJ2_indexOfCharUnsafe_4cfef 22 = .ok (.iinc 4 1, 3) := by decide +kernel
theorem dJ2_indexOfCharUnsafe_4cfef_25 : decode cJ2_indexOfCharUnsafe_4cfef 25 = .ok (.goto (-22), 3) := by decide +kernel
theorem dJ2_indexOfCharUnsafe_4cfef_28 : decode cJ2_indexOfCharUnsafe_4cfef 28 = .ok (.iconst (-1), 1) := by decide +kernel
theorem dJ2_indexOfCharUnsafe_4cfef_29 : decode cJ2_indexOfCharUnsafe_4cfef 29 = .ok (.ireturn, 1) := by decide +kernel
theorem dJ2_indexOfSupplementary_4cfef_0 : decode cJ2_indexOfSupplementary_4cfef 0 = .ok (.iload_n 1, 1) := by decide +kernel
theorem dJ2_indexOfSupplementary_4cfef_1 : decode cJ2_indexOfSupplementary_4cfef 1 = .ok (.invokestatic 164, 3) := by decide +kernel
theorem dJ2_indexOfSupplementary_4cfef_4 : decode cJ2_indexOfSupplementary_4cfef 4 = .ok (.ifCond .eq 65, 3) := by decide +kernel
theorem dJ2_indexOfSupplementary_4cfef_7 : decode cJ2_indexOfSupplementary_4cfef 7 = .ok (.iload_n 1, 1) := by decide +kernel
theorem dJ2_indexOfSupplementary_4cfef_8 : decode cJ2_indexOfSupplementary_4cfef 8 = .ok (.invokestatic 157, 3) := by decide +kernel
theorem dJ2_indexOfSupplementary_4cfef_11 : decode cJ2_indexOfSupplementary_4cfef 11 = .ok (.istore 4, 2) := by decide +kernel
theorem dJ2_indexOfSupplementary_4cfef_13 : decode cJ2_indexOfSupplementary_4cfef 13 = .ok (.iload_n 1, 1) := by decide +kernel
theorem dJ2_indexOfSupplementary_4cfef_14 : decode cJ2_indexOfSupplementary_4cfef 14 = .ok (.invokestatic 161, 3) := by decide +kernel
theorem dJ2_indexOfSupplementary_4cfef_17 : decode cJ2_indexOfSupplementary_4cfef 17 = .ok (.istore 5, 2) := by decide +kernel
theorem dJ2_indexOfSupplementary_4cfef_19 : decode cJ2_indexOfSupplementary_4cfef 19 = .ok (.iload_n 2, 1) := by decide +kernel
theorem dJ2_indexOfSupplementary_4cfef_20 : decode cJ2_indexOfSupplementary_4cfef 20 = .ok (.iload_n 3, 1) := by decide +kernel
theorem dJ2_indexOfSupplementary_4cfef_21 : decode cJ2_indexOfSupplementary_4cfef 21 = .ok (.aload_n 0, 1) := by decide +kernel
theorem dJ2_indexOfSupplementary_4cfef_22 : decode cJ2_indexOfSupplementary_4cfef 22 = .ok (.invokestatic 96, 3) := by decide +kernel
theorem dJ2_indexOfSupplementary_4cfef_25 : decode cJ2_indexOfSupplementary_4cfef 25 = .ok (.iload_n 2, 1) := by decide +kernel
theorem dJ2_indexOfSupplementary_4cfef_26 : decode cJ2_indexOfSupplementary_4cfef 26 = .ok (.istore 6, 2) := by decide +kernel
theorem dJ2_indexOfSupplementary_4cfef_28 : decode cJ2_indexOfSupplementary_4cfef 28 = .ok (.iload 6, 2) := by decide +kernel
theorem dJ2_indexOfSupplementary_4cfef_30 : decode cJ2_indexOfSupplementary_4cfef 30 = .ok (.iload_n 3, 1) := by decide +kernel
theorem dJ2_indexOfSupplementary_4cfef_31 : decode cJ2_indexOfSupplementary_4cfef 31 = .ok (.iconst 1, 1) := by decide +kernel
theorem dJ2_indexOfSupplementary_4cfef_32 : decode cJ2_indexOfSupplementary_4cfef 32 = .ok (.isub, 1) := by decide +kernel
theorem dJ2_indexOfSupplementary_4cfef_33 : decode cJ2_indexOfSupplementary_4cfef 33 = .ok (.if_icmp .ge 36, 3) := by decide +kernel
theorem dJ2_indexOfSupplementary_4cfef_36 : decode cJ2_indexOfSupplementary_4cfef 36 = .ok (.aload_n 0, 1) := by decide +kernel
theorem dJ2_indexOfSupplementary_4cfef_37 : decode cJ2_indexOfSupplementary_4cfef 37 = .ok (.iload 6, 2) := by decide +kernel
theorem dJ2_indexOfSupplementary_4cfef_39 : decode cJ2_indexOfSupplementary_4cfef 39 = .ok (.invokestatic 71, 3) := by decide +kernel
theorem dJ2_indexOfSupplementary_4cfef_42 : decode cJ2_indexOfSupplementary_4cfef 42 = .ok (.iload 4, 2) := by decide +kernel
theorem dJ2_indexOfSupplementary_4cfef_44 : decode cJ2_indexOfSupplementary_4cfef 44 = .ok (.if_icmp .ne 19, 3) := by decide +kernel
theorem dJ2_indexOfSupplementary_4cfef_47 : decode cJ2_indexOfSupplementary_4cfef 47 = .ok (.aload_n 0, 1) := by decide +kernel
theorem dJ2_indexOfSupplementary_4cfef_48 : decode cJ2_indexOfSupplementary_4cfef 48 = .ok (.iload 6, 2) := by decide +kernel
theorem dJ2_indexOfSupplementary_4cfef_50 : decode cJ2_indexOfSupplementary_4cfef 50 = .ok (.iconst 1, 1) := by decide +kernel
theorem dJ2_indexOfSupplementary_4cfef_51 : decode cJ2_indexOfSupplementary_4cfef 51 = .ok (.iadd, 1) := by decide +kernel
theorem dJ2_indexOfSupplementary_4cfef_52 : decode cJ2_indexOfSupplementary_4cfef 52 = .ok (.invokestatic 71, 3) := by decide +kernel
theorem dJ2_indexOfSupplementary_4cfef_55 : decode cJ2_indexOfSupplementary_4cfef 55 = .ok (.iload 5, 2) := by decide +kernel
theorem dJ2_indexOfSupplementary_4cfef_57 : decode cJ2_indexOfSupplementary_4cfef 57 = .ok (.if_icmp .ne 6, 3) := by decide +kernel
theorem dJ2_indexOfSupplementary_4cfef_60 : decode cJ2_indexOfSupplementary_4cfef 60 = .ok (.iload 6, 2) := by decide +kernel
theorem dJ2_indexOfSupplementary_4cfef_62 : decode cJ2_indexOfSupplementary_4cfef 62 = .ok (.ireturn, 1) := by decide +kernel
theorem dJ2_indexOfSupplementary_4cfef_63 : decode cJ2_indexOfSupplementary_4cfef 63 = .ok (.iinc 6 1, 3) := by decide +kernel
theorem dJ2_indexOfSupplementary_4cfef_66 : decode cJ2_indexOfSupplementary_4cfef 66 = .ok (.goto (-38), 3) := by decide +kernel
theorem dJ2_indexOfSupplementary_4cfef_69 : decode cJ2_indexOfSupplementary_4cfef 69 = .ok (.iconst (-1), 1) := by decide +kernel
theorem dJ2_indexOfSupplementary_4cfef_70 : decode cJ2_indexOfSupplementary_4cfef 70 = .ok (.ireturn, 1) := by decide +kernel
theorem dJ2_charAt_3b067_0 : decode cJ2_charAt_3b067 0 = .ok (.iload_n 1, 1) := by decide +kernel
theorem dJ2_charAt_3b067_1 : decode cJ2_charAt_3b067 1 = .ok (.aload_n 0, 1) := by decide +kernel
theorem dJ2_charAt_3b067_2 : decode cJ2_charAt_3b067 2 = .ok (.invokestatic 67, 3) := by decide +kernel
theorem dJ2_charAt_3b067_5 : decode cJ2_charAt_3b067 5 = .ok (.aload_n 0, 1) := by decide +kernel
theorem dJ2_charAt_3b067_6 : decode cJ2_charAt_3b067 6 = .ok (.iload_n 1, 1) := by decide +kernel
theorem dJ2_charAt_3b067_7 : decode cJ2_charAt_3b067 7 = .ok (.invokestatic 71, 3) := by decide +kernel
theorem dJ2_charAt_3b067_10 : decode cJ2_charAt_3b067 10 = .ok (.ireturn, 1) := by decide +kernel
theorem dJ2_checkIndex_2214a_0 : decode cJ2_checkIndex_2214a 0 = .ok (.iload_n 0, 1) := by decide +kernel
theorem dJ2_checkIndex_2214a_1 : decode cJ2_checkIndex_2214a 1 = .ok (.aload_n 1, 1) := by decide +kernel
theorem dJ2_checkIndex_2214a_2 : decode cJ2_checkIndex_2214a 2 = .ok (.invokestatic 48, 3) := by decide +kernel
theorem dJ2_checkIndex_2214a_5 : decode cJ2_checkIndex_2214a 5 = .ok (.invokestatic 414, 3) := by decide +kernel
theorem dJ2_checkIndex_2214a_8 : decode cJ2_checkIndex_2214a 8 = .ok (.return_, 1) := by decide +kernel
theorem dJ2_checkBoundsBeginEnd_d044e_0 : decode cJ2_checkBoundsBeginEnd_d044e 0 = .ok (.iload_n 0, 1) := by decide +kernel
theorem dJ2_checkBoundsBeginEnd_d044e_1 : decode cJ2_checkBoundsBeginEnd_d044e 1 = .ok (.iload_n 1, 1) := by decide +kernel
theorem dJ2_checkBoundsBeginEnd_d044e_2 : decode cJ2_checkBoundsBeginEnd_d044e 2 = .ok (.aload_n 2, 1) := by decide +kernel
theorem dJ2_checkBoundsBeginEnd_d044e_3 : decode cJ2_checkBoundsBeginEnd_d044e 3 = .ok (.invokestatic 48, 3) := by decide +kernel
theorem dJ2_checkBoundsBeginEnd_d044e_6 : decode cJ2_checkBoundsBeginEnd_d044e 6 = .ok (.invokestatic 241, 3) := by decide +kernel
theorem dJ2_checkBoundsBeginEnd_d044e_9 : decode cJ2_checkBoundsBeginEnd_d044e 9 = .ok (.return_, 1) := by decide +kernel
theorem dJxa1e45_init_da8c8_0 : decode cJxa1e45_init_da8c8 0 = .ok (.aload_n 0, 1) := by decide +kernel
theorem dJxa1e45_init_da8c8_1 : decode cJxa1e45_init_da8c8 1 = .ok (.invokespecial 1, 3) := by decide +kernel
theorem dJxa1e45_init_da8c8_4 : decode cJxa1e45_init_da8c8 4 = .ok (.return_, 1) := by decide +kernel
theorem dJxc12de_init_da8c8_0 : decode cJxc12de_init_da8c8 0 = .ok (.aload_n 0, 1) := by decide +kernel
theorem dJxc12de_init_da8c8_1 : decode cJxc12de_init_da8c8 1 = .ok (.invokespecial 1, 3) := by decide +kernel
theorem dJxc12de_init_da8c8_4 : decode cJxc12de_init_da8c8 4 = .ok (.aload_n 0, 1) := by decide +kernel
theorem dJxc12de_init_da8c8_5 : decode cJxc12de_init_da8c8 5 = .ok (.iconst 0, 1) := by decide +kernel
theorem dJxc12de_init_da8c8_6 : decode cJxc12de_init_da8c8 6 = .ok (.putfield 7, 3) := by decide +kernel
theorem dJxc12de_init_da8c8_9 : decode cJxc12de_init_da8c8 9 = .ok (.return_, 1) := by decide +kernel
theorem dJx4a65c_init_da8c8_0 : decode cJx4a65c_init_da8c8 0 = .ok (.aload_n 0, 1) := by decide +kernel
theorem dJx4a65c_init_da8c8_1 : decode cJx4a65c_init_da8c8 1 = .ok (.invokespecial 1, 3) := by decide +kernel
theorem dJx4a65c_init_da8c8_4 : decode cJx4a65c_init_da8c8 4 = .ok (.aload_n 0, 1) := by decide +kernel
theorem dJx4a65c_init_da8c8_5 : decode cJx4a65c_init_da8c8 5 = .ok (.getstatic 39, 3) := by decide +kernel
theorem dJx4a65c_init_da8c8_8 : decode cJx4a65c_init_da8c8 8 = .ok (.putfield 9, 3) := by decide +kernel
theorem dJx4a65c_init_da8c8_11 : decode cJx4a65c_init_da8c8 11 = .ok (.return_, 1) := by decide +kernel
theorem dJx4a65c_grow_92f84_0 : decode cJx4a65c_grow_92f84 0 = .ok (.aload_n 0, 1) := by decide +kernel
theorem dJx4a65c_grow_92f84_1 : decode cJx4a65c_grow_92f84 1 = .ok (.getfield 9, 3) := by decide +kernel
theorem dJx4a65c_grow_92f84_4 : decode cJx4a65c_grow_92f84 4 = .ok (.arraylength, 1) := by decide +kernel
theorem dJx4a65c_grow_92f84_5 : decode cJx4a65c_grow_92f84 5 = .ok (.istore_n 2, 1) := by decide +kernel
theorem dJx4a65c_grow_92f84_6 : decode cJx4a65c_grow_92f84 6 = .ok (.iload_n 2, 1) := by decide +kernel
theorem dJx4a65c_grow_92f84_7 : decode cJx4a65c_grow_92f84 7 = .ok (.ifCond .gt 13, 3) := by decide +kernel
theorem dJx4a65c_grow_92f84_10 : decode cJx4a65c_grow_92f84 10 = .ok (.aload_n 0, 1) := by decide +kernel
theorem dJx4a65c_grow_92f84_11 : decode cJx4a65c_grow_92f84 11 = .ok (.getfield 9, 3) := by decide +kernel
theorem dJx4a65c_grow_92f84_14 : decode cJx4a65c_grow_92f84 14 = .ok (.getstatic 39, 3) := by decide +kernel
theorem dJx4a65c_grow_92f84_17 : decode cJx4a65c_grow_92f84 17 = .ok (.if_acmp .eq 28, 3) := by decide +kernel
theorem dJx4a65c_grow_92f84_20 : decode cJx4a65c_grow_92f84 20 = .ok (.iload_n 2, 1) := by decide +kernel
theorem dJx4a65c_grow_92f84_21 : decode cJx4a65c_grow_92f84 21 = .ok (.iload_n 1, 1) := by decide +kernel
theorem dJx4a65c_grow_92f84_22 : decode cJx4a65c_grow_92f84 22 = .ok (.iload_n 2, 1) := by decide +kernel
theorem dJx4a65c_grow_92f84_23 : decode cJx4a65c_grow_92f84 23 = .ok (.isub, 1) := by decide +kernel
theorem dJx4a65c_grow_92f84_24 : decode cJx4a65c_grow_92f84 24 = .ok (.iload_n 2, 1) := by decide +kernel
theorem dJx4a65c_grow_92f84_25 : decode cJx4a65c_grow_92f84 25 = .ok (.iconst 1, 1) := by decide +kernel
theorem dJx4a65c_grow_92f84_26 : decode cJx4a65c_grow_92f84 26 = .ok (.ishr, 1) := by decide +kernel
theorem dJx4a65c_grow_92f84_27 : decode cJx4a65c_grow_92f84 27 = .ok (.invokestatic 73, 3) := by decide +kernel
theorem dJx4a65c_grow_92f84_30 : decode cJx4a65c_grow_92f84 30 = .ok (.istore_n 3, 1) := by decide +kernel
theorem dJx4a65c_grow_92f84_31 : decode cJx4a65c_grow_92f84 31 = .ok (.aload_n 0, 1) := by decide +kernel
theorem dJx4a65c_grow_92f84_32 : decode cJx4a65c_grow_92f84 32 = .ok (.aload_n 0, 1) := by decide +kernel
theorem dJx4a65c_grow_92f84_33 : decode cJx4a65c_grow_92f84 33 = .ok (.getfield 9, 3) := by decide +kernel
theorem dJx4a65c_grow_92f84_36 : decode cJx4a65c_grow_92f84 36 = .ok (.iload_n 3, 1) := by decide +kernel
theorem dJx4a65c_grow_92f84_37 : decode cJx4a65c_grow_92f84 37 = .ok (.invokestatic 66, 3) := by decide +kernel
theorem dJx4a65c_grow_92f84_40 : decode cJx4a65c_grow_92f84 40 = .ok (.dup_x1, 1) := by decide +kernel
theorem dJx4a65c_grow_92f84_41 : decode cJx4a65c_grow_92f84 41 = .ok (.putfield 9, 3) := by decide +kernel
theorem dJx4a65c_grow_92f84_44 : decode cJx4a65c_grow_92f84 44 = .ok (.areturn, 1) := by decide +kernel
theorem dJx4a65c_grow_92f84_45 : decode cJx4a65c_grow_92f84 45 = .ok (.aload_n 0, 1) := by decide +kernel
theorem dJx4a65c_grow_92f84_46 : decode cJx4a65c_grow_92f84 46 = .ok (.bipush 10, 2) := by decide +kernel
theorem dJx4a65c_grow_92f84_48 : decode cJx4a65c_grow_92f84 48 = .ok (.iload_n 1, 1) := by decide +kernel
theorem dJx4a65c_grow_92f84_49 : decode cJx4a65c_grow_92f84 49 = .ok (.invokestatic 79, 3) := by decide +kernel
theorem dJx4a65c_grow_92f84_52 : decode cJx4a65c_grow_92f84 52 = .ok (.anewarray 7, 3) := by decide +kernel
theorem dJx4a65c_grow_92f84_55 : decode cJx4a65c_grow_92f84 55 = .ok (.dup_x1, 1) := by decide +kernel
theorem dJx4a65c_grow_92f84_56 : decode cJx4a65c_grow_92f84 56 = .ok (.putfield 9, 3) := by decide +kernel
theorem dJx4a65c_grow_92f84_59 : decode cJx4a65c_grow_92f84 59 = .ok (.areturn, 1) := by decide +kernel
theorem dJx4a65c_grow_d5877_0 : decode cJx4a65c_grow_d5877 0 = .ok (.aload_n 0, 1) := by decide +kernel
theorem dJx4a65c_grow_d5877_1 : decode cJx4a65c_grow_d5877 1 = .ok (.aload_n 0, 1) := by decide +kernel
theorem dJx4a65c_grow_d5877_2 : decode cJx4a65c_grow_d5877 2 = .ok (.getfield 48, 3) := by decide +kernel
theorem dJx4a65c_grow_d5877_5 : decode cJx4a65c_grow_d5877 5 = .ok (.iconst 1, 1) := by decide +kernel
theorem dJx4a65c_grow_d5877_6 : decode cJx4a65c_grow_d5877 6 = .ok (.iadd, 1) := by decide +kernel
theorem dJx4a65c_grow_d5877_7 : decode cJx4a65c_grow_d5877 7 = .ok (.invokevirtual 69, 3) := by decide +kernel
theorem dJx4a65c_grow_d5877_10 : decode cJx4a65c_grow_d5877 10 = .ok (.areturn, 1) := by decide +kernel
theorem dJx4a65c_size_8abf5_0 : decode cJx4a65c_size_8abf5 0 = .ok (.aload_n 0, 1) := by decide +kernel
theorem dJx4a65c_size_8abf5_1 : decode cJx4a65c_size_8abf5 1 = .ok (.getfield 48, 3) := by decide +kernel
theorem dJx4a65c_size_8abf5_4 : decode cJx4a65c_size_8abf5 4 = .ok (.ireturn, 1) := by decide +kernel
theorem dJx4a65c_isEmpty_aae02_0 : decode cJx4a65c_isEmpty_aae02 0 = .ok (.aload_n 0, 1) := by decide +kernel
theorem dJx4a65c_isEmpty_aae02_1 : decode cJx4a65c_isEmpty_aae02 1 = .ok (.getfield 48, 3) := by decide +kernel
theorem dJx4a65c_isEmpty_aae02_4 : decode cJx4a65c_isEmpty_aae02 4 = .ok (.ifCond .ne 7, 3) := by decide +kernel
theorem dJx4a65c_isEmpty_aae02_7 : decode cJx4a65c_isEmpty_aae02 7 = .ok (.iconst 1, 1) := by decide +kernel
theorem dJx4a65c_isEmpty_aae02_8 : decode cJx4a65c_isEmpty_aae02 8 = .ok (.goto 4, 3) := by decide +kernel
theorem dJx4a65c_isEmpty_aae02_11 : decode cJx4a65c_isEmpty_aae02 11 = .ok (.iconst 0, 1) := by decide +kernel
theorem dJx4a65c_isEmpty_aae02_12 : decode cJx4a65c_isEmpty_aae02 12 = .ok (.ireturn, 1) := by decide +kernel
theorem dJx4a65c_elementData_915e3_0 : decode cJx4a65c_elementData_915e3 0 = .ok (.aload_n 0, 1) := by decide +kernel
theorem dJx4a65c_elementData_915e3_1 : decode cJx4a65c_elementData_915e3 1 = .ok (.getfield 9, 3) := by decide +kernel
theorem dJx4a65c_elementData_915e3_4 : decode cJx4a65c_elementData_915e3 4 = .ok (.iload_n 1, 1) := by decide +kernel
theorem dJx4a65c_elementData_915e3_5 : decode cJx4a65c_elementData_915e3 5 = .ok (.aaload, 1) := by decide +kernel
theorem dJx4a65c_elementData_915e3_6 : decode cJx4a65c_elementData_915e3 6 = .ok (.areturn, 1) := by decide +kernel
theorem dJx4a65c_get_915e3_0 : decode cJx4a65c_get_915e3 0 = .ok (.iload_n 1, 1) := by decide +kernel
theorem dJx4a65c_get_915e3_1 : decode cJx4a65c_get_915e3 1 = .ok (.aload_n 0, 1) := by decide +kernel
theorem dJx4a65c_get_915e3_2 : decode cJx4a65c_get_915e3 2 = .ok (.getfield 48, 3) := by decide +kernel
theorem dJx4a65c_get_915e3_5 : decode cJx4a65c_get_915e3 5 = .ok (.invokestatic 118, 3) := by decide +kernel
theorem dJx4a65c_get_915e3_8 : decode cJx4a65c_get_915e3 8 = .ok (.pop, 1) := by decide +kernel
theorem dJx4a65c_get_915e3_9 : decode cJx4a65c_get_915e3 9 = .ok (.aload_n 0, 1) := by decide +kernel
theorem dJx4a65c_get_915e3_10 : decode cJx4a65c_get_915e3 10 = .ok (.iload_n 1, 1) := by decide +kernel
theorem dJx4a65c_get_915e3_11 : decode cJx4a65c_get_915e3 11 = .ok (.invokevirtual 123, 3) := by decide +kernel
theorem dJx4a65c_get_915e3_14 : decode cJx4a65c_get_915e3 14 = .ok (.areturn, 1) := by decide +kernel
theorem dJx4a65c_add_72be8_0 : decode cJx4a65c_add_72be8 0 = .ok (.iload_n 3, 1) := by decide +kernel
theorem dJx4a65c_add_72be8_1 : decode cJx4a65c_add_72be8 1 = .ok (.aload_n 2, 1) := by decide +kernel
theorem dJx4a65c_add_72be8_2 : decode cJx4a65c_add_72be8 2 = .ok (.arraylength, 1) := by decide +kernel
theorem dJx4a65c_add_72be8_3 : decode cJx4a65c_add_72be8 3 = .ok (.if_icmp .ne 8, 3) := by decide +kernel
theorem dJx4a65c_add_72be8_6 : decode cJx4a65c_add_72be8 6 = .ok (.aload_n 0, 1) := by decide +kernel
theorem dJx4a65c_add_72be8_7 : decode cJx4a65c_add_72be8 7 = .ok (.invokevirtual 129, 3) := by decide +kernel
theorem dJx4a65c_add_72be8_10 : decode cJx4a65c_add_72be8 10 = .ok (.astore_n 2, 1) := by decide +kernel
theorem dJx4a65c_add_72be8_11 : decode cJx4a65c_add_72be8 11 = .ok (.aload_n 2, 1) := by decide +kernel
theorem dJx4a65c_add_72be8_12 : decode cJx4a65c_add_72be8 12 = .ok (.iload_n 3, 1) := by decide +kernel
theorem dJx4a65c_add_72be8_13 : decode cJx4a65c_add_72be8 13 = .ok (.aload_n 1, 1) := by decide +kernel
theorem dJx4a65c_add_72be8_14 : decode cJx4a65c_add_72be8 14 = .ok (.aastore, 1) := by decide +kernel
theorem dJx4a65c_add_72be8_15 : decode cJx4a65c_add_72be8 15 = .ok (.aload_n 0, 1) := by decide +kernel
theorem dJx4a65c_add_72be8_16 : decode cJx4a65c_add_72be8 16 = .ok (.iload_n 3, 1) := by decide +kernel
theorem dJx4a65c_add_72be8_17 : decode cJx4a65c_add_72be8 17 = .ok (.iconst 1, 1) := by decide +kernel
theorem dJx4a65c_add_72be8_18 : decode cJx4a65c_add_72be8 18 = .ok (.iadd, 1) := by decide +kernel
theorem dJx4a65c_add_72be8_19 : decode cJx4a65c_add_72be8 19 = .ok (.putfield 48, 3) := by decide +kernel
theorem dJx4a65c_add_72be8_22 : decode cJx4a65c_add_72be8 22 = .ok (.return_, 1) := by decide +kernel
theorem dJx4a65c_add_9ea2d_0 : decode cJx4a65c_add_9ea2d 0 = .ok (.aload_n 0, 1) := by decide +kernel
theorem dJx4a65c_add_9ea2d_1 : decode cJx4a65c_add_9ea2d 1 = .ok (.dup, 1) := by decide +kernel
theorem dJx4a65c_add_9ea2d_2 : decode cJx4a65c_add_9ea2d 2 = .ok (.getfield 63, 3) := by decide +kernel
theorem dJx4a65c_add_9ea2d_5 : decode cJx4a65c_add_9ea2d 5 = .ok (.iconst 1, 1) := by decide +kernel
theorem dJx4a65c_add_9ea2d_6 : decode cJx4a65c_add_9ea2d 6 = .ok (.iadd, 1) := by decide +kernel
theorem dJx4a65c_add_9ea2d_7 : decode cJx4a65c_add_9ea2d 7 = .ok (.putfield 63, 3) := by decide +kernel
theorem dJx4a65c_add_9ea2d_10 : decode cJx4a65c_add_9ea2d 10 = .ok (.aload_n 0, 1) := by decide +kernel
theorem dJx4a65c_add_9ea2d_11 : decode cJx4a65c_add_9ea2d 11 = .ok (.aload_n 1, 1) := by decide +kernel
theorem dJx4a65c_add_9ea2d_12 : decode cJx4a65c_add_9ea2d 12 = .ok (.aload_n 0, 1) := by decide +kernel
theorem dJx4a65c_add_9ea2d_13 : decode cJx4a65c_add_9ea2d 13 = .ok (.getfield 9, 3) := by decide +kernel
theorem dJx4a65c_add_9ea2d_16 : decode cJx4a65c_add_9ea2d 16 = .ok (.aload_n 0, 1) := by decide +kernel
theorem dJx4a65c_add_9ea2d_17 : decode cJx4a65c_add_9ea2d 17 = .ok (.getfield 48, 3) := by decide +kernel
theorem dJx4a65c_add_9ea2d_20 : decode cJx4a65c_add_9ea2d 20 = .ok (.invokevirtual 131, 3) := by decide +kernel
theorem dJx4a65c_add_9ea2d_23 : decode cJx4a65c_add_9ea2d 23 = .ok (.iconst 1, 1) := by decide +kernel
theorem dJx4a65c_add_9ea2d_24 : decode cJx4a65c_add_9ea2d 24 = .ok (.ireturn, 1) := by decide +kernel
theorem dJx4a65c_remove_915e3_0 : decode cJx4a65c_remove_915e3 0 = .ok (.iload_n 1, 1) := by decide +kernel
theorem dJx4a65c_remove_915e3_1 : decode cJx4a65c_remove_915e3 1 = .ok (.aload_n 0, 1) := by decide +kernel
theorem dJx4a65c_remove_915e3_2 : decode cJx4a65c_remove_915e3 2 = .ok (.getfield 48, 3) := by decide +kernel
theorem dJx4a65c_remove_915e3_5 : decode cJx4a65c_remove_915e3 5 = .ok (.invokestatic 118, 3) := by decide +kernel
theorem dJx4a65c_remove_915e3_8 : decode cJx4a65c_remove_915e3 8 = .ok (.pop, 1) := by decide +kernel
theorem dJx4a65c_remove_915e3_9 : decode cJx4a65c_remove_915e3 9 = .ok (.aload_n 0, 1) := by decide +kernel
theorem dJx4a65c_remove_915e3_10 : decode cJx4a65c_remove_915e3 10 = .ok (.getfield 9, 3) := by decide +kernel
theorem dJx4a65c_remove_915e3_13 : decode cJx4a65c_remove_915e3 13 = .ok (.astore_n 2, 1) := by decide +kernel
theorem dJx4a65c_remove_915e3_14 : decode cJx4a65c_remove_915e3 14 = .ok (.aload_n 2, 1) := by decide +kernel
theorem dJx4a65c_remove_915e3_15 : decode cJx4a65c_remove_915e3 15 = .ok (.iload_n 1, 1) := by decide +kernel
theorem dJx4a65c_remove_915e3_16 : decode cJx4a65c_remove_915e3 16 = .ok (.aaload, 1) := by decide +kernel
theorem dJx4a65c_remove_915e3_17 : decode cJx4a65c_remove_915e3 17 = .ok (.astore_n 3, 1) := by decide +kernel
theorem dJx4a65c_remove_915e3_18 : decode cJx4a65c_remove_915e3 18 = .ok (.aload_n 0, 1) := by decide +kernel
theorem dJx4a65c_remove_915e3_19 : decode cJx4a65c_remove_915e3 19 = .ok (.aload_n 2, 1) := by decide +kernel
theorem dJx4a65c_remove_915e3_20 : decode cJx4a65c_remove_915e3 20 = .ok (.iload_n 1, 1) := by decide +kernel
theorem dJx4a65c_remove_915e3_21 : decode cJx4a65c_remove_915e3 21 = .ok (.invokevirtual 144, 3) := by decide +kernel
theorem dJx4a65c_remove_915e3_24 : decode cJx4a65c_remove_915e3 24 = .ok (.aload_n 3, 1) := by decide +kernel
theorem dJx4a65c_remove_915e3_25 : decode cJx4a65c_remove_915e3 25 = .ok (.areturn, 1) := by decide +kernel
theorem dJx4a65c_fastRemove_b59b0_0 : decode cJx4a65c_fastRemove_b59b0 0 = .ok (.aload_n 0, 1) := by decide +kernel
theorem dJx4a65c_fastRemove_b59b0_1 : decode cJx4a65c_fastRemove_b59b0 1 = .ok (.dup, 1) := by decide +kernel
theorem dJx4a65c_fastRemove_b59b0_2 : decode cJx4a65c_fastRemove_b59b0 2 = .ok (.getfield 63, 3) := by decide +kernel
theorem dJx4a65c_fastRemove_b59b0_5 : decode cJx4a65c_fastRemove_b59b0 5 = .ok (.iconst 1, 1) := by decide +kernel
theorem dJx4a65c_fastRemove_b59b0_6 : decode cJx4a65c_fastRemove_b59b0 6 = .ok (.iadd, 1) := by decide +kernel
theorem dJx4a65c_fastRemove_b59b0_7 : decode cJx4a65c_fastRemove_b59b0 7 = .ok (.putfield 63, 3) := by decide +kernel
theorem dJx4a65c_fastRemove_b59b0_10 : decode cJx4a65c_fastRemove_b59b0 10 = .ok (.aload_n 0, 1) := by decide +kernel
theorem dJx4a65c_fastRemove_b59b0_11 : decode cJx4a65c_fastRemove_b59b0 11 = .ok (.getfield 48, 3) := by decide +kernel
theorem dJx4a65c_fastRemove_b59b0_14 : decode cJx4a65c_fastRemove_b59b0 14 = .ok (.iconst 1, 1) := by decide +kernel
theorem dJx4a65c_fastRemove_b59b0_15 : decode cJx4a65c_fastRemove_b59b0 15 = .ok (.isub, 1) := by decide +kernel
theorem dJx4a65c_fastRemove_b59b0_16 : decode cJx4a65c_fastRemove_b59b0 16 = .ok (.dup, 1) := by decide +kernel
theorem dJx4a65c_fastRemove_b59b0_17 : decode cJx4a65c_fastRemove_b59b0 17 = .ok (.istore_n 3, 1) := by decide +kernel
theorem dJx4a65c_fastRemove_b59b0_18 : decode cJx4a65c_fastRemove_b59b0 18 = .ok (.iload_n 2, 1) := by decide +kernel
theorem dJx4a65c_fastRemove_b59b0_19 : decode cJx4a65c_fastRemove_b59b0 19 = .ok (.if_icmp .le 15, 3) := by decide +kernel
theorem dJx4a65c_fastRemove_b59b0_22 : decode cJx4a65c_fastRemove_b59b0 22 = .ok (.aload_n 1, 1) := by decide +kernel
theorem dJx4a65c_fastRemove_b59b0_23 : decode cJx4a65c_fastRemove_b59b0 23 = .ok (.iload_n 2, 1) := by decide +kernel
theorem dJx4a65c_fastRemove_b59b0_24 : decode cJx4a65c_fastRemove_b59b0 24 = .ok (.iconst 1, 1) := by decide +kernel
theorem dJx4a65c_fastRemove_b59b0_25 : decode cJx4a65c_fastRemove_b59b0 25 = .ok (.iadd, 1) := by decide +kernel
theorem dJx4a65c_fastRemove_b59b0_26 : decode cJx4a65c_fastRemove_b59b0 26 = .ok (.aload_n 1, 1) := by decide +kernel
theorem dJx4a65c_fastRemove_b59b0_27 : decode cJx4a65c_fastRemove_b59b0 27 = .ok (.iload_n 2, 1) := by decide +kernel
theorem dJx4a65c_fastRemove_b59b0_28 : decode cJx4a65c_fastRemove_b59b0 28 = .ok (.iload_n 3, 1) := by decide +kernel
theorem dJx4a65c_fastRemove_b59b0_29 : decode cJx4a65c_fastRemove_b59b0 29 = .ok (.iload_n 2, 1) := by decide +kernel
theorem dJx4a65c_fastRemove_b59b0_30 : decode cJx4a65c_fastRemove_b59b0 30 = .ok (.isub, 1) := by decide +kernel
theorem dJx4a65c_fastRemove_b59b0_31 : decode cJx4a65c_fastRemove_b59b0 31 = .ok (.invokestatic 112, 3) := by decide +kernel
theorem dJx4a65c_fastRemove_b59b0_34 : decode cJx4a65c_fastRemove_b59b0 34 = .ok (.aload_n 1, 1) := by decide +kernel
theorem dJx4a65c_fastRemove_b59b0_35 : decode cJx4a65c_fastRemove_b59b0 35 = .ok (.aload_n 0, 1) := by decide +kernel
theorem dJx4a65c_fastRemove_b59b0_36 : decode cJx4a65c_fastRemove_b59b0 36 = .ok (.iload_n 3, 1) := by decide +kernel
theorem dJx4a65c_fastRemove_b59b0_37 : decode cJx4a65c_fastRemove_b59b0 37 = .ok (.dup_x1, 1) := by decide +kernel
theorem dJx4a65c_fastRemove_b59b0_38 : decode cJx4a65c_fastRemove_b59b0 38 = .ok (.putfield 48, 3) := by decide +kernel
theorem dJx4a65c_fastRemove_b59b0_41 : decode cJx4a65c_fastRemove_b59b0 41 = .ok (.aconst_null, 1) := by decide +kernel
theorem dJx4a65c_fastRemove_b59b0_42 : decode cJx4a65c_fastRemove_b59b0 42 = .ok (.aastore, 1) := by decide +kernel
theorem dJx4a65c_fastRemove_b59b0_43 : decode cJx4a65c_fastRemove_b59b0 43 = .ok (.return_, 1) := by decide +kernel
theorem dJx4a65c_clear_da8c8_0 : decode cJx4a65c_clear_da8c8 0 = .ok (.aload_n 0, 1) := by decide +kernel
theorem dJx4a65c_clear_da8c8_1 : decode cJx4a65c_clear_da8c8 1 = .ok (.dup, 1) := by decide +kernel
theorem dJx4a65c_clear_da8c8_2 : decode cJx4a65c_clear_da8c8 2 = .ok (.getfield 63, 3) := by decide +kernel
theorem dJx4a65c_clear_da8c8_5 : decode cJx4a65c_clear_da8c8 5 = .ok (.iconst 1, 1) := by decide +kernel
theorem dJx4a65c_clear_da8c8_6 : decode cJx4a65c_clear_da8c8 6 = .ok (.iadd, 1) := by decide +kernel
theorem dJx4a65c_clear_da8c8_7 : decode cJx4a65c_clear_da8c8 7 = .ok (.putfield 63, 3) := by decide +kernel
theorem dJx4a65c_clear_da8c8_10 : decode cJx4a65c_clear_da8c8 10 = .ok (.aload_n 0, 1) := by decide +kernel
theorem dJx4a65c_clear_da8c8_11 : decode cJx4a65c_clear_da8c8 11 = .ok (.getfield 9, 3) := by decide +kernel
theorem dJx4a65c_clear_da8c8_14 : decode cJx4a65c_clear_da8c8 14 = .ok (.astore_n 1, 1) := by decide +kernel
theorem dJx4a65c_clear_da8c8_15 : decode cJx4a65c_clear_da8c8 15 = .ok (.aload_n 0, 1) := by decide +kernel
theorem dJx4a65c_clear_da8c8_16 : decode cJx4a65c_clear_da8c8 16 = .ok (.getfield 48, 3) := by decide +kernel
theorem dJx4a65c_clear_da8c8_19 : decode cJx4a65c_clear_da8c8 19 = .ok (.istore_n 2, 1) := by decide +kernel
theorem dJx4a65c_clear_da8c8_20 : decode cJx4a65c_clear_da8c8 20 = .ok (.aload_n 0, 1) := by decide +kernel
theorem dJx4a65c_clear_da8c8_21 : decode cJx4a65c_clear_da8c8 21 = .ok (.iconst 0, 1) := by decide +kernel
theorem dJx4a65c_clear_da8c8_22 : decode cJx4a65c_clear_da8c8 22 = .ok (.dup_x1, 1) := by decide +kernel
theorem dJx4a65c_clear_da8c8_23 : decode cJx4a65c_clear_da8c8 23 = .ok (.putfield 48, 3) := by decide +kernel
theorem dJx4a65c_clear_da8c8_26 : decode cJx4a65c_clear_da8c8 26 = .ok (.istore_n 3, 1) := by decide +kernel
theorem dJx4a65c_clear_da8c8_27 : decode cJx4a65c_clear_da8c8 27 = .ok (.iload_n 3, 1) := by decide +kernel
theorem dJx4a65c_clear_da8c8_28 : decode cJx4a65c_clear_da8c8 28 = .ok (.iload_n 2, 1) := by decide +kernel
theorem dJx4a65c_clear_da8c8_29 : decode cJx4a65c_clear_da8c8 29 = .ok (.if_icmp .ge 13, 3) := by decide +kernel
theorem dJx4a65c_clear_da8c8_32 : decode cJx4a65c_clear_da8c8 32 = .ok (.aload_n 1, 1) := by decide +kernel
theorem dJx4a65c_clear_da8c8_33 : decode cJx4a65c_clear_da8c8 33 = .ok (.iload_n 3, 1) := by decide +kernel
theorem dJx4a65c_clear_da8c8_34 : decode cJx4a65c_clear_da8c8 34 = .ok (.aconst_null, 1) := by decide +kernel
theorem dJx4a65c_clear_da8c8_35 : decode cJx4a65c_clear_da8c8 35 = .ok (.aastore, 1) := by decide +kernel
theorem dJx4a65c_clear_da8c8_36 : decode cJx4a65c_clear_da8c8 36 = .ok (.iinc 3 1, 3) := by decide +kernel
theorem dJx4a65c_clear_da8c8_39 : decode cJx4a65c_clear_da8c8 39 = .ok (.goto (-12), 3) := by decide +kernel
theorem dJx4a65c_clear_da8c8_42 : decode cJx4a65c_clear_da8c8 42 = .ok (.return_, 1) := by decide +kernel
theorem dJ7_fill_d0a16_0 : decode cJ7_fill_d0a16 0 = .ok (.iconst 0, 1) := by decide +kernel
theorem dJ7_fill_d0a16_1 : decode cJ7_fill_d0a16 1 = .ok (.istore_n 3, 1) := by decide +kernel
theorem dJ7_fill_d0a16_2 : decode cJ7_fill_d0a16 2 = .ok (.aload_n 0, 1) := by decide +kernel
theorem dJ7_fill_d0a16_3 : decode cJ7_fill_d0a16 3 = .ok (.arraylength, 1) := by decide +kernel
theorem dJ7_fill_d0a16_4 : decode cJ7_fill_d0a16 4 = .ok (.istore 4, 2) := by decide +kernel
theorem dJ7_fill_d0a16_6 : decode cJ7_fill_d0a16 6 = .ok (.iload_n 3, 1) := by decide +kernel
theorem dJ7_fill_d0a16_7 : decode cJ7_fill_d0a16 7 = .ok (.iload 4, 2) := by decide +kernel
theorem dJ7_fill_d0a16_9 : decode cJ7_fill_d0a16 9 = .ok (.if_icmp .ge 13, 3) := by decide +kernel
theorem dJ7_fill_d0a16_12 : decode cJ7_fill_d0a16 12 = .ok (.aload_n 0, 1) := by decide +kernel
theorem dJ7_fill_d0a16_13 : decode cJ7_fill_d0a16 13 = .ok (.iload_n 3, 1) := by decide +kernel
theorem dJ7_fill_d0a16_14 : decode cJ7_fill_d0a16 14 = .ok (.lload_n 1, 1) := by decide +kernel
theorem dJ7_fill_d0a16_15 : decode cJ7_fill_d0a16 15 = .ok (.lastore, 1) := by decide +kernel
theorem dJ7_fill_d0a16_16 : decode cJ7_fill_d0a16 16 = .ok (.iinc 3 1, 3) := by decide +kernel
theorem dJ7_fill_d0a16_19 : decode cJ7_fill_d0a16 19 = .ok (.goto (-13), 3) := by decide +kernel
theorem dJ7_fill_d0a16_22 : decode cJ7_fill_d0a16 22 = .ok (.return_, 1) := by decide +kernel
theorem dJ7_copyOf_1904c_0 : decode cJ7_copyOf_1904c 0 = .ok (.aload_n 0, 1) := by decide +kernel
theorem dJ7_copyOf_1904c_1 : decode cJ7_copyOf_1904c 1 = .ok (.iload_n 1, 1) := by decide +kernel
theorem dJ7_copyOf_1904c_2 : decode cJ7_copyOf_1904c 2 = .ok (.aload_n 0, 1) := by decide +kernel
theorem dJ7_copyOf_1904c_3 : decode cJ7_copyOf_1904c 3 = .ok (.invokevirtual 86, 3) := by decide +kernel
theorem dJ7_copyOf_1904c_6 : decode cJ7_copyOf_1904c 6 = .ok (.invokestatic 300, 3) := by decide +kernel
theorem dJ7_copyOf_1904c_9 : decode cJ7_copyOf_1904c 9 = .ok (.areturn, 1) := by decide +kernel
theorem dJ7_copyOf_6403c_0 : decode cJ7_copyOf_6403c 0 = .ok (.aload_n 2, 1) := by decide +kernel
theorem dJ7_copyOf_6403c_1 : decode cJ7_copyOf_6403c 1 = .ok (.ldc 110, 2) := by decide +kernel
theorem dJ7_copyOf_6403c_3 : decode cJ7_copyOf_6403c 3 = .ok (.if_acmp .ne 10, 3) := by decide +kernel
theorem dJ7_copyOf_6403c_6 : decode cJ7_copyOf_6403c 6 = .ok (.iload_n 1, 1) := by decide +kernel
theorem dJ7_copyOf_6403c_7 : decode cJ7_copyOf_6403c 7 = .ok (.anewarray 2, 3) := by decide +kernel
theorem dJ7_copyOf_6403c_10 : decode cJ7_copyOf_6403c 10 = .ok (.goto 14, 3) := by decide +kernel
theorem dJ7_copyOf_6403c_13 : decode cJ7_copyOf_6403c 13 = .ok (.aload_n 2, 1) := by decide +kernel
theorem dJ7_copyOf_6403c_14 : decode cJ7_copyOf_6403c 14 = .ok (.invokevirtual 90, 3) := by decide +kernel
theorem dJ7_copyOf_6403c_17 : decode cJ7_copyOf_6403c 17 = .ok (.iload_n 1, 1) := by decide +kernel
theorem dJ7_copyOf_6403c_18 : decode cJ7_copyOf_6403c 18 = .ok (.invokestatic 95, 3) := by decide +kernel
theorem dJ7_copyOf_6403c_21 : decode cJ7_copyOf_6403c 21 = .ok (.checkcast 110, 3) := by decide +kernel
theorem dJ7_copyOf_6403c_24 : decode cJ7_copyOf_6403c 24 = .ok (.astore_n 3, 1) := by decide +kernel
theorem dJ7_copyOf_6403c_25 : decode cJ7_copyOf_6403c 25 = .ok (.aload_n 0, 1) := by decide +kernel
theorem dJ7_copyOf_6403c_26 : decode cJ7_copyOf_6403c 26 = .ok (.iconst 0, 1) := by decide +kernel
theorem dJ7_copyOf_6403c_27 : decode cJ7_copyOf_6403c 27 = .ok (.aload_n 3, 1) := by decide +kernel
theorem dJ7_copyOf_6403c_28 : decode cJ7_copyOf_6403c 28 = .ok (.iconst 0, 1) := by decide +kernel
theorem dJ7_copyOf_6403c_29 : decode cJ7_copyOf_6403c 29 = .ok (.aload_n 0, 1) := by decide +kernel
theorem dJ7_copyOf_6403c_30 : decode cJ7_copyOf_6403c 30 = .ok (.arraylength, 1) := by decide +kernel
theorem dJ7_copyOf_6403c_31 : decode cJ7_copyOf_6403c 31 = .ok (.iload_n 1, 1) := by decide +kernel
theorem dJ7_copyOf_6403c_32 : decode cJ7_copyOf_6403c 32 = .ok (.invokestatic 304, 3) := by decide +kernel
theorem dJ7_copyOf_6403c_35 : decode cJ7_copyOf_6403c 35 = .ok (.invokestatic 150, 3) := by decide +kernel
theorem dJ7_copyOf_6403c_38 : decode cJ7_copyOf_6403c 38 = .ok (.aload_n 3, 1) := by decide +kernel
theorem dJ7_copyOf_6403c_39 : decode cJ7_copyOf_6403c 39 = .ok (.areturn, 1) := by decide +kernel
theorem dJ7_copyOf_59c91_0 : decode cJ7_copyOf_59c91 0 = .ok (.iload_n 1, 1) := by decide +kernel
theorem dJ7_copyOf_59c91_1 : decode cJ7_copyOf_59c91 1 = .ok (.aload_n 0, 1) := by decide +kernel
theorem dJ7_copyOf_59c91_2 : decode cJ7_copyOf_59c91 2 = .ok (.arraylength, 1) := by decide +kernel
theorem dJ7_copyOf_59c91_3 : decode cJ7_copyOf_59c91 3 = .ok (.if_icmp .ne 11, 3) := by decide +kernel
theorem dJ7_copyOf_59c91_6 : decode cJ7_copyOf_59c91 6 = .ok (.aload_n 0, 1) := by decide +kernel
theorem dJ7_copyOf_59c91_7 : decode cJ7_copyOf_59c91 7 = .ok (.invokevirtual 316, 3) := by decide +kernel
theorem dJ7_copyOf_59c91_10 : decode cJ7_copyOf_59c91 10 = .ok (.checkcast 317, 3) := by decide +kernel
theorem dJ7_copyOf_59c91_13 : decode cJ7_copyOf_59c91 13 = .ok (.areturn, 1) := by decide +kernel
theorem dJ7_copyOf_59c91_14 : decode cJ7_copyOf_59c91 14 = .ok (.iload_n 1, 1) := by decide +kernel
theorem dJ7_copyOf_59c91_15 : decode cJ7_copyOf_59c91 15 = .ok (.newarray .int, 2) := by decide +kernel
theorem dJ7_copyOf_59c91_17 : decode cJ7_copyOf_59c91 17 = .ok (.astore_n 2, 1) := by decide +kernel
theorem dJ7_copyOf_59c91_18 : decode cJ7_copyOf_59c91 18 = .ok (.aload_n 0, 1) := by decide +kernel
theorem dJ7_copyOf_59c91_19 : decode cJ7_copyOf_59c91 19 = .ok (.iconst 0, 1) := by decide +kernel
theorem dJ7_copyOf_59c91_20 : decode cJ7_copyOf_59c91 20 = .ok (.aload_n 2, 1) := by decide +kernel
theorem dJ7_copyOf_59c91_21 : decode cJ7_copyOf_59c91 21 = .ok (.iconst 0, 1) := by decide +kernel
theorem dJ7_copyOf_59c91_22 : decode cJ7_copyOf_59c91 22 = .ok (.aload_n 0, 1) := by decide +kernel
theorem dJ7_copyOf_59c91_23 : decode cJ7_copyOf_59c91 23 = .ok (.arraylength, 1) := by decide +kernel
theorem dJ7_copyOf_59c91_24 : decode cJ7_copyOf_59c91 24 = .ok (.iload_n 1, 1) := by decide +kernel
theorem dJ7_copyOf_59c91_25 : decode cJ7_copyOf_59c91 25 = .ok (.invokestatic 304, 3) := by decide +kernel
theorem dJ7_copyOf_59c91_28 : decode cJ7_copyOf_59c91 28 = .ok (.invokestatic 150, 3) := by decide +kernel
theorem dJ7_copyOf_59c91_31 : decode cJ7_copyOf_59c91 31 = .ok (.aload_n 2, 1) := by decide +kernel
theorem dJ7_copyOf_59c91_32 : decode cJ7_copyOf_59c91 32 = .ok (.areturn, 1) := by decide +kernel
theorem dJ15_checkIndex_7cf53_0 : decode cJ15_checkIndex_7cf53 0 = .ok (.iload_n 0, 1) := by decide +kernel
theorem dJ15_checkIndex_7cf53_1 : decode cJ15_checkIndex_7cf53 1 = .ok (.iload_n 1, 1) := by decide +kernel
theorem dJ15_checkIndex_7cf53_2 : decode cJ15_checkIndex_7cf53 2 = .ok (.aconst_null, 1) := by decide +kernel
theorem dJ15_checkIndex_7cf53_3 : decode cJ15_checkIndex_7cf53 3 = .ok (.invokestatic 105, 3) := by decide +kernel
theorem dJ15_checkIndex_7cf53_6 : decode cJ15_checkIndex_7cf53 6 = .ok (.ireturn, 1) := by decide +kernel
theorem dJ8_newLength_cabcc_0 : decode cJ8_newLength_cabcc 0 = .ok (.iload_n 0, 1) := by decide +kernel
theorem dJ8_newLength_cabcc_1 : decode cJ8_newLength_cabcc 1 = .ok (.iload_n 1, 1) := by decide +kernel
theorem dJ8_newLength_cabcc_2 : decode cJ8_newLength_cabcc 2 = .ok (.iload_n 2, 1) := by decide +kernel
theorem dJ8_newLength_cabcc_3 : decode cJ8_newLength_cabcc 3 = .ok (.invokestatic 194, 3) := by decide +kernel
theorem dJ8_newLength_cabcc_6 : decode cJ8_newLength_cabcc 6 = .ok (.iadd, 1) := by decide +kernel
theorem dJ8_newLength_cabcc_7 : decode cJ8_newLength_cabcc 7 = .ok (.istore_n 3, 1) := by decide +kernel
theorem dJ8_newLength_cabcc_8 : decode cJ8_newLength_cabcc 8 = .ok (.iconst 0, 1) := by decide +kernel
theorem dJ8_newLength_cabcc_9 : decode cJ8_newLength_cabcc 9 = .ok (.iload_n 3, 1) := by decide +kernel
theorem dJ8_newLength_cabcc_10 : decode cJ8_newLength_cabcc 10 = .ok (.if_icmp .ge 11, 3) := by decide +kernel
theorem dJ8_newLength_cabcc_13 : decode cJ8_newLength_cabcc 13 = .ok (.iload_n 3, 1) := by decide +kernel
theorem dJ8_newLength_cabcc_14 : decode cJ8_newLength_cabcc 14 = .ok (.ldc 200, 2) := by decide +kernel
theorem dJ8_newLength_cabcc_16 : decode cJ8_newLength_cabcc 16 = .ok (.if_icmp .gt 5, 3) := by decide +kernel
theorem dJ8_newLength_cabcc_19 : decode cJ8_newLength_cabcc 19 = .ok (.iload_n 3, 1) := by decide +kernel
theorem dJ8_newLength_cabcc_20 : decode cJ8_newLength_cabcc 20 = .ok (.ireturn, 1) := by decide +kernel
theorem dJ8_newLength_cabcc_21 : decode cJ8_newLength_cabcc 21 = .ok (.iload_n 0, 1) := by decide +kernel
theorem dJ8_newLength_cabcc_22 : decode cJ8_newLength_cabcc 22 = .ok (.iload_n 1, 1) := by decide +kernel
theorem dJ8_newLength_cabcc_23 : decode cJ8_newLength_cabcc 23 = .ok (.invokestatic 201, 3) := by decide +kernel
theorem dJ8_newLength_cabcc_26 : decode cJ8_newLength_cabcc 26 = .ok (.ireturn, 1) := by decide +kernel
theorem dJ8_hugeLength_7cf53_0 : decode cJ8_hugeLength_7cf53 0 = .ok (.iload_n 0, 1) := by decide +kernel
theorem dJ8_hugeLength_7cf53_1 : decode cJ8_hugeLength_7cf53 1 = .ok (.iload_n 1, 1) := by decide +kernel
theorem dJ8_hugeLength_7cf53_2 : decode cJ8_hugeLength_7cf53 2 = .ok (.iadd, 1) := by decide +kernel
theorem dJ8_hugeLength_7cf53_3 : decode cJ8_hugeLength_7cf53 3 = .ok (.istore_n 2, 1) := by decide +kernel
theorem dJ8_hugeLength_7cf53_4 : decode cJ8_hugeLength_7cf53 4 = .ok (.iload_n 2, 1) := by decide +kernel
theorem dJ8_hugeLength_7cf53_5 : decode cJ8_hugeLength_7cf53 5 = .ok (.ifCond .ge 44, 3) := by decide +kernel
theorem dJ8_hugeLength_7cf53_8 : decode cJ8_hugeLength_7cf53 8 = .ok (.new 204, 3) := by decide +kernel
theorem dJ8_hugeLength_7cf53_11 : decode cJ8_hugeLength_7cf53 11 = .ok (.dup, 1) := by decide +kernel
theorem dJ8_hugeLength_7cf53_12 : decode cJ8_hugeLength_7cf53 12 = .ok (.new 89, 3) := by decide +kernel
theorem dJ8_hugeLength_7cf53_15 : decode cJ8_hugeLength_7cf53 15 = .ok (.dup, 1) := by decide +kernel
theorem dJ8_hugeLength_7cf53_16 : decode cJ8_hugeLength_7cf53 16 = .ok (.invokespecial 91, 3) := by decide +kernel
theorem dJ8_hugeLength_7cf53_19 : decode cJ8_hugeLength_7cf53 19 = .ok (.ldc 206, 2) := by decide +kernel
theorem dJ8_hugeLength_7cf53_21 : decode cJ8_hugeLength_7cf53 21 = .ok (.invokevirtual 94, 3) := by decide +kernel
theorem dJ8_hugeLength_7cf53_24 : decode cJ8_hugeLength_7cf53 24 = .ok (.iload_n 0, 1) := by decide +kernel
theorem dJ8_hugeLength_7cf53_25 : decode cJ8_hugeLength_7cf53 25 = .ok (.invokevirtual 98, 3) := by decide +kernel
theorem dJ8_hugeLength_7cf53_28 : decode cJ8_hugeLength_7cf53 28 = .ok (.ldc 208, 2) := by decide +kernel
theorem dJ8_hugeLength_7cf53_30 : decode cJ8_hugeLength_7cf53 30 = .ok (.invokevirtual 94, 3) := by decide +kernel
theorem dJ8_hugeLength_7cf53_33 : decode cJ8_hugeLength_7cf53 33 = .ok (.iload_n 1, 1) := by decide +kernel
theorem dJ8_hugeLength_7cf53_34 : decode cJ8_hugeLength_7cf53 34 = .ok (.invokevirtual 98, 3) := by decide +kernel
theorem dJ8_hugeLength_7cf53_37 : decode cJ8_hugeLength_7cf53 37 = .ok (.ldc 210, 2) := by decide +kernel
theorem dJ8_hugeLength_7cf53_39 : decode cJ8_hugeLength_7cf53 39 = .ok (.invokevirtual 94, 3) := by decide +kernel
theorem dJ8_hugeLength_7cf53_42 : decode cJ8_hugeLength_7cf53 42 = .ok (.invokevirtual 101, 3) := by decide +kernel
theorem dJ8_hugeLength_7cf53_45 : decode cJ8_hugeLength_7cf53 45 = .ok (.invokespecial 212, 3) := by decide +kernel
theorem dJ8_hugeLength_7cf53_48 : decode cJ8_hugeLength_7cf53 48 = .ok (.athrow, 1) := by decide +kernel
theorem dJ8_hugeLength_7cf53_49 : decode cJ8_hugeLength_7cf53 49 = .ok (.iload_n 2, 1) := by decide +kernel
theorem dJ8_hugeLength_7cf53_50 : decode cJ8_hugeLength_7cf53 50 = .ok (.ldc 200, 2) := by decide +kernel
theorem dJ8_hugeLength_7cf53_52 : decode cJ8_hugeLength_7cf53 52 = .ok (.if_icmp .gt 6, 3) := by decide +kernel
theorem dJ8_hugeLength_7cf53_55 : decode cJ8_hugeLength_7cf53 55 = .ok (.ldc 200, 2) := by decide +kernel
theorem dJ8_hugeLength_7cf53_57 : decode cJ8_hugeLength_7cf53 57 = .ok (.ireturn, 1) := by decide +kernel
theorem dJ8_hugeLength_7cf53_58 : decode cJ8_hugeLength_7cf53 58 = .ok (.iload_n 2, 1) := by decide +kernel
theorem dJ8_hugeLength_7cf53_59 : decode cJ8_hugeLength_7cf53 59 = .ok (.ireturn, 1) := by decide +kernel
theorem dJ3_checkIndex_8e157_0 : decode cJ3_checkIndex_8e157 0 = .ok (.iload_n 0, 1) := by decide +kernel
theorem dJ3_checkIndex_8e157_1 : decode cJ3_checkIndex_8e157 1 = .ok (.ifCond .lt 8, 3) := by decide +kernel
theorem dJ3_checkIndex_8e157_4 : decode cJ3_checkIndex_8e157 4 = .ok (.iload_n 0, 1) := by decide +kernel
theorem dJ3_checkIndex_8e157_5 : decode cJ3_checkIndex_8e157 5 = .ok (.iload_n 1, 1) := by decide +kernel
theorem dJ3_checkIndex_8e157_6 : decode cJ3_checkIndex_8e157 6 = .ok (.if_icmp .lt 10, 3) := by decide +kernel
theorem dJ3_checkIndex_8e157_9 : decode cJ3_checkIndex_8e157 9 = .ok (.aload_n 2, 1) := by decide +kernel
theorem dJ3_checkIndex_8e157_10 : decode cJ3_checkIndex_8e157 10 = .ok (.iload_n 0, 1) := by decide +kernel
theorem dJ3_checkIndex_8e157_11 : decode cJ3_checkIndex_8e157 11 = .ok (.iload_n 1, 1) := by decide +kernel
theorem dJ3_checkIndex_8e157_12 : decode cJ3_checkIndex_8e157 12 = .ok (.invokestatic 95, 3) := by decide +kernel
theorem dJ3_checkIndex_8e157_15 : decode cJ3_checkIndex_8e157 15 = .ok (.athrow, 1) := by decide +kernel
theorem dJ3_checkIndex_8e157_16 : decode cJ3_checkIndex_8e157 16 = .ok (.iload_n 0, 1) := by decide +kernel
theorem dJ3_checkIndex_8e157_17 : decode cJ3_checkIndex_8e157 17 = .ok (.ireturn, 1) := by decide +kernel
theorem dJ3_checkFromToIndex_8c36e_0 : decode cJ3_checkFromToIndex_8c36e 0 = .ok (.iload_n 0, 1) := by decide +kernel
theorem dJ3_checkFromToIndex_8c36e_1 : decode cJ3_checkFromToIndex_8c36e 1 = .ok (.ifCond .lt 13, 3) := by decide +kernel
theorem dJ3_checkFromToIndex_8c36e_4 : decode cJ3_checkFromToIndex_8c36e 4 = .ok (.iload_n 0, 1) := by decide +kernel
theorem dJ3_checkFromToIndex_8c36e_5 : decode cJ3_checkFromToIndex_8c36e 5 = .ok (.iload_n 1, 1) := by decide +kernel
theorem dJ3_checkFromToIndex_8c36e_6 : decode cJ3_checkFromToIndex_8c36e 6 = .ok (.if_icmp .gt 8, 3) := by decide +kernel
theorem dJ3_checkFromToIndex_8c36e_9 : decode cJ3_checkFromToIndex_8c36e 9 = .ok (.iload_n 1, 1) := by decide +kernel
theorem dJ3_checkFromToIndex_8c36e_10 : decode cJ3_checkFromToIndex_8c36e 10 = .ok (.iload_n 2, 1) := by decide +kernel
theorem dJ3_checkFromToIndex_8c36e_11 : decode cJ3_checkFromToIndex_8c36e 11 = .ok (.if_icmp .le 11, 3) := by decide +kernel
theorem dJ3_checkFromToIndex_8c36e_14 : decode cJ3_checkFromToIndex_8c36e 14 = .ok (.aload_n 3, 1) := by decide +kernel
theorem dJ3_checkFromToIndex_8c36e_15 : decode cJ3_checkFromToIndex_8c36e 15 = .ok (.iload_n 0, 1) := by decide +kernel
theorem dJ3_checkFromToIndex_8c36e_16 : decode cJ3_checkFromToIndex_8c36e 16 = .ok (.iload_n 1, 1) := by decide +kernel
theorem dJ3_checkFromToIndex_8c36e_17 : decode cJ3_checkFromToIndex_8c36e 17 = .ok (.iload_n 2, 1) := by decide +kernel
theorem dJ3_checkFromToIndex_8c36e_18 : decode cJ3_checkFromToIndex_8c36e 18 = .ok (.invokestatic 99, 3) := by decide +kernel
theorem dJ3_checkFromToIndex_8c36e_21 : decode cJ3_checkFromToIndex_8c36e 21 = .ok (.athrow, 1) := by decide +kernel
theorem dJ3_checkFromToIndex_8c36e_22 : decode cJ3_checkFromToIndex_8c36e 22 = .ok (.iload_n 0, 1) := by decide +kernel
theorem dJ3_checkFromToIndex_8c36e_23 : decode cJ3_checkFromToIndex_8c36e 23 = .ok (.ireturn, 1) := by decide +kernel
