theorem dX8_clash_71 : decode cX8_clash 71 = .ok (.aload 4, 2) := by decide +kernel
theorem dX8_clash_73 : decode cX8_clash 73 = .ok (.iload_n 2, 1) := by decide +kernel
theorem dX8_clash_74 : decode cX8_clash 74 = .ok (.aload_n 0, 1) := by decide +kernel
theorem dX8_clash_75 : decode cX8_clash 75 = .ok (.getfield 37, 3) := by decide +kernel
theorem dX8_clash_78 : decode cX8_clash 78 = .ok (.invokevirtual 152, 3) := by decide +kernel
theorem dX8_clash_81 : decode cX8_clash 81 = .ok (.istore 9, 2) := by decide +kernel
theorem dX8_clash_83 : decode cX8_clash 83 = .ok (.aload 8, 2) := by decide +kernel
theorem dX8_clash_85 : decode cX8_clash 85 = .ok (.iload 9, 2) := by decide +kernel
theorem dX8_clash_87 : decode cX8_clash 87 = .ok (.aload_n 0, 1) := by decide +kernel
theorem dX8_clash_88 : decode cX8_clash 88 = .ok (.getfield 37, 3) := by decide +kernel
theorem dX8_clash_91 : decode cX8_clash 91 = .ok (.invokevirtual 158, 3) := by decide +kernel
theorem dX8_clash_94 : decode cX8_clash 94 = .ok (.ifCond .eq 9, 3) := by decide +kernel
theorem dX8_clash_97 : decode cX8_clash 97 = .ok (.iinc 5 1, 3) := by decide +kernel
theorem dX8_clash_100 : decode cX8_clash 100 = .ok (.goto 17, 3) := by decide +kernel
theorem dX8_clash_103 : decode cX8_clash 103 = .ok (.iload 9, 2) := by decide +kernel
theorem dX8_clash_105 : decode cX8_clash 105 = .ok (.aload 8, 2) := by decide +kernel
theorem dX8_clash_107 : decode cX8_clash 107 = .ok (.getfield 227, 3) := by decide +kernel
theorem dX8_clash_110 : decode cX8_clash 110 = .ok (.iand, 1) := by decide +kernel
theorem dX8_clash_111 : decode cX8_clash 111 = .ok (.ifCond .eq 6, 3) := by decide +kernel
theorem dX8_clash_114 : decode cX8_clash 114 = .ok (.iinc 6 1, 3) := by decide +kernel
theorem dX8_clash_117 : decode cX8_clash 117 = .ok (.iinc 7 1, 3) := by decide +kernel
theorem dX8_clash_120 : decode cX8_clash 120 = .ok (.goto (-89), 3) := by decide +kernel
theorem dX8_clash_123 : decode cX8_clash 123 = .ok (.iload 5, 2) := by decide +kernel
theorem dX8_clash_125 : decode cX8_clash 125 = .ok (.iload 6, 2) := by decide +kernel
theorem dX8_clash_127 : decode cX8_clash 127 = .ok (.imul, 1) := by decide +kernel
theorem dX8_clash_128 : decode cX8_clash 128 = .ok (.ireturn, 1) := by decide +kernel
set_option maxRecDepth 20000 in
theorem ggX8_silent_X8_isOffer : GoodIn wsX8_silent wsX8_isOffer := goodIn_r _ [6, 7, 8, 5, 9] (by decide +kernel) (by decide +kernel)
set_option maxRecDepth 20000 in
theorem gX8_silent_X8_isOffer : GoodIn wsX8_silent (va_wsS RX8 166 yX8_isOffer wsX8_isOffer) := goodIn_app (goodIn_of _ (by decide +kernel)) ggX8_silent_X8_isOffer
set_option maxRecDepth 20000 in
theorem ggX8_silent_Jx4a65c_size_8abf5 : GoodIn wsX8_silent wsJx4a65c_size_8abf5 := goodIn_r _ [14, 15, 85, 86, 87] (by decide +kernel) (by decide +kernel)
set_option maxRecDepth 20000 in
theorem gX8_silent_Jx4a65c_size_8abf5 : GoodIn wsX8_silent (wsV RX8 80 RJx4a65c yJx4a65c_size_8abf5 wsJx4a65c_size_8abf5) := goodIn_app (goodIn_of _ (by decide +kernel)) ggX8_silent_Jx4a65c_size_8abf5
set_option maxRecDepth 20000 in
theorem ggX8_silent_Jx4a65c_get_915e3 : GoodIn wsX8_silent wsJx4a65c_get_915e3 := goodIn_r _ [19, 15, 20, 21, 22, 23, 24, 25, 26, 27, 28, 29, 30, 13, 31, 32, 85, 86, 87] (by decide +kernel) (by decide +kernel)
set_option maxRecDepth 20000 in
theorem gX8_silent_Jx4a65c_get_915e3 : GoodIn wsX8_silent (wsV RX8 220 RJx4a65c yJx4a65c_get_915e3 wsJx4a65c_get_915e3) := goodIn_app (goodIn_of _ (by decide +kernel)) ggX8_silent_Jx4a65c_get_915e3
set_option maxRecDepth 20000 in
theorem ggX8_silent_X8_isMet : GoodIn wsX8_silent wsX8_isMet := goodIn_r _ [36, 37, 38, 39, 40, 10, 11, 12, 13, 14, 15, 16, 17, 18, 19, 20, 21, 22, 23, 24, 25, 26, 27, 28, 29, 30, 31, 32, 41, 42, 43, 44, 45, 46, 47, 48, 49, 50, 51, 52, 53, 54, 55, 56, 57, 58, 59, 60, 61, 62, 63, 64, 65, 66, 67, 68, 69, 70, 71, 72, 73, 74, 75, 76, 77, 78, 79, 80, 81, 82, 83, 84, 88, 89, 90, 91, 92, 93, 94, 85, 86, 87, 95, 96, 97, 98, 99, 100, 101, 102, 103, 104, 105, 106, 107, 108, 109, 110] (by decide +kernel) (by decide +kernel)
set_option maxRecDepth 20000 in
theorem gX8_silent_X8_isMet : GoodIn wsX8_silent (wsV RX8 230 RX8 yX8_isMet wsX8_isMet) := goodIn_app (goodIn_of _ (by decide +kernel)) ggX8_silent_X8_isMet
theorem dX8_silent_0 : decode cX8_silent 0 = .ok (.iload_n 1, 1) := by decide +kernel
theorem dX8_silent_1 : decode cX8_silent 1 = .ok (.iload_n 2, 1) := by decide +kernel
theorem dX8_silent_2 : decode cX8_silent 2 = .ok (.invokestatic 166, 3) := by decide +kernel
theorem dX8_silent_5 : decode cX8_silent 5 = .ok (.ifCond .ne 5, 3) := by decide +kernel
theorem dX8_silent_8 : decode cX8_silent 8 = .ok (.iconst (-1), 1) := by decide +kernel
theorem dX8_silent_9 : decode cX8_silent 9 = .ok (.ireturn, 1) := by decide +kernel
theorem dX8_silent_10 : decode cX8_silent 10 = .ok (.iconst 0, 1) := by decide +kernel
theorem dX8_silent_11 : decode cX8_silent 11 = .ok (.istore_n 3, 1) := by decide +kernel
theorem dX8_silent_12 : decode cX8_silent 12 = .ok (.iconst 0, 1) := by decide +kernel
theorem dX8_silent_13 : decode cX8_silent 13 = .ok (.istore 4, 2) := by decide +kernel
theorem dX8_silent_15 : decode cX8_silent 15 = .ok (.iload 4, 2) := by decide +kernel
theorem dX8_silent_17 : decode cX8_silent 17 = .ok (.aload_n 0, 1) := by decide +kernel
theorem dX8_silent_18 : decode cX8_silent 18 = .ok (.getfield 20, 3) := by decide +kernel
theorem dX8_silent_21 : decode cX8_silent 21 = .ok (.invokevirtual 80, 3) := by decide +kernel
theorem dX8_silent_24 : decode cX8_silent 24 = .ok (.if_icmp .ge 37, 3) := by decide +kernel
theorem dX8_silent_27 : decode cX8_silent 27 = .ok (.aload_n 0, 1) := by decide +kernel
theorem dX8_silent_28 : decode cX8_silent 28 = .ok (.aload_n 0, 1) := by decide +kernel
theorem dX8_silent_29 : decode cX8_silent 29 = .ok (.getfield 20, 3) := by decide +kernel
theorem dX8_silent_32 : decode cX8_silent 32 = .ok (.iload 4, 2) := by decide +kernel
theorem dX8_silent_34 : decode cX8_silent 34 = .ok (.invokevirtual 220, 3) := by decide +kernel
theorem dX8_silent_37 : decode cX8_silent 37 = .ok (.checkcast 84, 3) := by decide +kernel
theorem dX8_silent_40 : decode cX8_silent 40 = .ok (.iload_n 1, 1) := by decide +kernel
theorem dX8_silent_41 : decode cX8_silent 41 = .ok (.iload_n 2, 1) := by decide +kernel
theorem dX8_silent_42 : decode cX8_silent 42 = .ok (.invokevirtual 230, 3) := by decide +kernel
theorem dX8_silent_45 : decode cX8_silent 45 = .ok (.ifCond .ne 10, 3) := by decide +kernel
theorem dX8_silent_48 : decode cX8_silent 48 = .ok (.iload_n 3, 1) := by decide +kernel
theorem dX8_silent_49 : decode cX8_silent 49 = .ok (.iconst 1, 1) := by decide +kernel
theorem dX8_silent_50 : decode cX8_silent 50 = .ok (.iload 4, 2) := by decide +kernel
theorem dX8_silent_52 : decode cX8_silent 52 = .ok (.ishl, 1) := by decide +kernel
theorem dX8_silent_53 : decode cX8_silent 53 = .ok (.ior, 1) := by decide +kernel
theorem dX8_silent_54 : decode cX8_silent 54 = .ok (.istore_n 3, 1) := by decide +kernel
theorem dX8_silent_55 : decode cX8_silent 55 = .ok (.iinc 4 1, 3) := by decide +kernel
theorem dX8_silent_58 : decode cX8_silent 58 = .ok (.goto (-43), 3) := by decide +kernel
theorem dX8_silent_61 : decode cX8_silent 61 = .ok (.iload_n 3, 1) := by decide +kernel
theorem dX8_silent_62 : decode cX8_silent 62 = .ok (.ireturn, 1) := by decide +kernel
set_option maxRecDepth 20000 in
theorem ggX8_hangs_X8_ruleAt : GoodIn wsX8_hangs wsX8_ruleAt := goodIn_r _ [5, 6, 7, 8, 9, 10, 11, 12, 13, 14, 15, 16, 17, 18, 19, 20, 21, 22, 23, 24, 25, 26, 27, 28, 29, 30, 119, 120, 121, 122, 123, 124, 125, 126, 127, 128, 129, 130, 131] (by decide +kernel) (by decide +kernel)
set_option maxRecDepth 20000 in
theorem gX8_hangs_X8_ruleAt : GoodIn wsX8_hangs (wsV RX8 148 RX8 yX8_ruleAt wsX8_ruleAt) := goodIn_app (goodIn_of _ (by decide +kernel)) ggX8_hangs_X8_ruleAt
set_option maxRecDepth 20000 in
theorem ggX8_hangs_X8_hangingOn : GoodIn wsX8_hangs wsX8_hangingOn := goodIn_r _ [34, 35, 36, 37, 38, 39, 40, 41, 42, 43, 4, 44, 45, 8, 9, 10, 11, 12, 13, 46, 47, 48, 49, 50, 51, 52, 53, 54, 55, 56, 57, 14, 15, 16, 17, 18, 19, 20, 21, 22, 23, 24, 25, 26, 27, 28, 29, 30, 58, 59, 60, 61, 62, 63, 64, 6, 7, 65, 66, 67, 68, 69, 70, 71, 72, 73, 74, 75, 76, 77, 78, 79, 80, 81, 82, 83, 84, 85, 86, 87, 88, 89, 90, 91, 92, 93, 94, 95, 96, 97, 98, 99, 100, 101, 102, 103, 104, 105, 106, 107, 108, 109, 110, 111, 112, 113, 114, 115, 116, 117, 118, 132, 133, 134, 135, 136, 137, 138, 119, 120, 121, 122, 123, 124, 125, 126, 127, 128, 139, 140, 141, 129, 130, 131, 142, 143, 144, 145, 146, 147, 148, 149, 150, 151, 152, 153, 154] (by decide +kernel) (by decide +kernel)
set_option maxRecDepth 20000 in
theorem gX8_hangs_X8_hangingOn : GoodIn wsX8_hangs (wsV RX8 234 RX8 yX8_hangingOn wsX8_hangingOn) := goodIn_app (goodIn_of _ (by decide +kernel)) ggX8_hangs_X8_hangingOn
theorem dX8_hangs_0 : decode cX8_hangs 0 = .ok (.aload_n 0, 1) := by decide +kernel
theorem dX8_hangs_1 : decode cX8_hangs 1 = .ok (.iload_n 1, 1) := by decide +kernel
theorem dX8_hangs_2 : decode cX8_hangs 2 = .ok (.invokevirtual 148, 3) := by decide +kernel
theorem dX8_hangs_5 : decode cX8_hangs 5 = .ok (.astore_n 2, 1) := by decide +kernel
theorem dX8_hangs_6 : decode cX8_hangs 6 = .ok (.aload_n 2, 1) := by decide +kernel
theorem dX8_hangs_7 : decode cX8_hangs 7 = .ok (.ifnonnull 7, 3) := by decide +kernel
theorem dX8_hangs_10 : decode cX8_hangs 10 = .ok (.iconst (-1), 1) := by decide +kernel
theorem dX8_hangs_11 : decode cX8_hangs 11 = .ok (.goto 8, 3) := by decide +kernel
theorem dX8_hangs_14 : decode cX8_hangs 14 = .ok (.aload_n 0, 1) := by decide +kernel
theorem dX8_hangs_15 : decode cX8_hangs 15 = .ok (.aload_n 2, 1) := by decide +kernel
theorem dX8_hangs_16 : decode cX8_hangs 16 = .ok (.invokevirtual 234, 3) := by decide +kernel
theorem dX8_hangs_19 : decode cX8_hangs 19 = .ok (.ireturn, 1) := by decide +kernel
set_option maxRecDepth 20000 in
theorem ggX8_most_Jx4a65c_size_8abf5 : GoodIn wsX8_most wsJx4a65c_size_8abf5 := goodIn_r _ [7, 8, 125, 126, 127] (by decide +kernel) (by decide +kernel)
set_option maxRecDepth 20000 in
theorem gX8_most_Jx4a65c_size_8abf5 : GoodIn wsX8_most (wsV RX8 80 RJx4a65c yJx4a65c_size_8abf5 wsJx4a65c_size_8abf5) := goodIn_app (goodIn_of _ (by decide +kernel)) ggX8_most_Jx4a65c_size_8abf5
set_option maxRecDepth 20000 in
theorem ggX8_most_Jx4a65c_get_915e3 : GoodIn wsX8_most wsJx4a65c_get_915e3 := goodIn_r _ [12, 8, 13, 14, 15, 16, 17, 18, 19, 20, 21, 22, 23, 6, 24, 25, 125, 126, 127] (by decide +kernel) (by decide +kernel)
set_option maxRecDepth 20000 in
theorem gX8_most_Jx4a65c_get_915e3 : GoodIn wsX8_most (wsV RX8 220 RJx4a65c yJx4a65c_get_915e3 wsJx4a65c_get_915e3) := goodIn_app (goodIn_of _ (by decide +kernel)) ggX8_most_Jx4a65c_get_915e3
set_option maxRecDepth 20000 in
theorem ggX8_most_X8_hangingOn : GoodIn wsX8_most wsX8_hangingOn := goodIn_r _ [30, 31, 32, 33, 34, 35, 36, 37, 38, 39, 29, 40, 41, 3, 4, 5, 6, 7, 8, 42, 43, 44, 45, 46, 47, 48, 49, 50, 51, 52, 53, 9, 10, 11, 12, 13, 14, 15, 16, 17, 18, 19, 20, 21, 22, 23, 24, 25, 54, 55, 56, 57, 58, 59, 60, 1, 2, 61, 62, 63, 64, 65, 66, 67, 68, 69, 70, 71, 72, 73, 74, 75, 76, 77, 78, 79, 80, 81, 82, 83, 84, 85, 86, 87, 88, 89, 90, 91, 92, 93, 94, 95, 96, 97, 98, 99, 100, 101, 102, 103, 104, 105, 106, 107, 108, 109, 110, 111, 112, 113, 114, 128, 129, 130, 131, 132, 133, 134, 115, 116, 117, 118, 119, 120, 121, 122, 123, 124, 135, 136, 137, 125, 126, 127, 138, 139, 140, 141, 142, 143, 144, 145, 146, 147, 148, 149, 150] (by decide +kernel) (by decide +kernel)
set_option maxRecDepth 20000 in
theorem gX8_most_X8_hangingOn : GoodIn wsX8_most (wsV RX8 234 RX8 yX8_hangingOn wsX8_hangingOn) := goodIn_app (goodIn_of _ (by decide +kernel)) ggX8_most_X8_hangingOn
theorem dX8_most_0 : decode cX8_most 0 = .ok (.bipush (-5), 2) := by decide +kernel
theorem dX8_most_2 : decode cX8_most 2 = .ok (.istore_n 1, 1) := by decide +kernel
theorem dX8_most_3 : decode cX8_most 3 = .ok (.iconst (-1), 1) := by decide +kernel
theorem dX8_most_4 : decode cX8_most 4 = .ok (.istore_n 2, 1) := by decide +kernel
theorem dX8_most_5 : decode cX8_most 5 = .ok (.iconst 0, 1) := by decide +kernel
theorem dX8_most_6 : decode cX8_most 6 = .ok (.istore_n 3, 1) := by decide +kernel
theorem dX8_most_7 : decode cX8_most 7 = .ok (.iload_n 3, 1) := by decide +kernel
theorem dX8_most_8 : decode cX8_most 8 = .ok (.aload_n 0, 1) := by decide +kernel
theorem dX8_most_9 : decode cX8_most 9 = .ok (.getfield 24, 3) := by decide +kernel
theorem dX8_most_12 : decode cX8_most 12 = .ok (.invokevirtual 80, 3) := by decide +kernel
theorem dX8_most_15 : decode cX8_most 15 = .ok (.if_icmp .ge 37, 3) := by decide +kernel
theorem dX8_most_18 : decode cX8_most 18 = .ok (.aload_n 0, 1) := by decide +kernel
theorem dX8_most_19 : decode cX8_most 19 = .ok (.aload_n 0, 1) := by decide +kernel
theorem dX8_most_20 : decode cX8_most 20 = .ok (.getfield 24, 3) := by decide +kernel
theorem dX8_most_23 : decode cX8_most 23 = .ok (.iload_n 3, 1) := by decide +kernel
theorem dX8_most_24 : decode cX8_most 24 = .ok (.invokevirtual 220, 3) := by decide +kernel
theorem dX8_most_27 : decode cX8_most 27 = .ok (.checkcast 153, 3) := by decide +kernel
theorem dX8_most_30 : decode cX8_most 30 = .ok (.invokevirtual 234, 3) := by decide +kernel
theorem dX8_most_33 : decode cX8_most 33 = .ok (.istore 4, 2) := by decide +kernel
theorem dX8_most_35 : decode cX8_most 35 = .ok (.iload 4, 2) := by decide +kernel
theorem dX8_most_37 : decode cX8_most 37 = .ok (.iload_n 2, 1) := by decide +kernel
theorem dX8_most_38 : decode cX8_most 38 = .ok (.if_icmp .le 8, 3) := by decide +kernel
theorem dX8_most_41 : decode cX8_most 41 = .ok (.iload 4, 2) := by decide +kernel
theorem dX8_most_43 : decode cX8_most 43 = .ok (.istore_n 2, 1) := by decide +kernel
theorem dX8_most_44 : decode cX8_most 44 = .ok (.iload_n 3, 1) := by decide +kernel
theorem dX8_most_45 : decode cX8_most 45 = .ok (.istore_n 1, 1) := by decide +kernel
theorem dX8_most_46 : decode cX8_most 46 = .ok (.iinc 3 1, 3) := by decide +kernel
theorem dX8_most_49 : decode cX8_most 49 = .ok (.goto (-42), 3) := by decide +kernel
theorem dX8_most_52 : decode cX8_most 52 = .ok (.iload_n 1, 1) := by decide +kernel
theorem dX8_most_53 : decode cX8_most 53 = .ok (.ireturn, 1) := by decide +kernel
set_option maxRecDepth 20000 in
theorem ggX8_beside_X8_within : GoodIn wsX8_beside wsX8_within := goodIn_r _ [5] (by decide +kernel) (by decide +kernel)
set_option maxRecDepth 20000 in
theorem gX8_beside_X8_within : GoodIn wsX8_beside (va_wsS RX8 72 yX8_within wsX8_within) := goodIn_app (goodIn_of _ (by decide +kernel)) ggX8_beside_X8_within
set_option maxRecDepth 20000 in
theorem ggX8_beside_X8_allWords : GoodIn wsX8_beside wsX8_allWords := goodIn_r _ [9, 10, 11, 12, 13, 14, 15, 16, 103, 104, 105, 106, 107, 108, 109, 110, 111, 112, 113, 114, 115] (by decide +kernel) (by decide +kernel)
set_option maxRecDepth 20000 in
theorem gX8_beside_X8_allWords : GoodIn wsX8_beside (wsV RX8 207 RX8 yX8_allWords wsX8_allWords) := goodIn_app (goodIn_of _ (by decide +kernel)) ggX8_beside_X8_allWords
set_option maxRecDepth 20000 in
theorem ggX8_beside_X8_heardToPartsEnd : GoodIn wsX8_beside wsX8_heardToPartsEnd := goodIn_r _ [20, 10, 21, 22, 11, 12, 13, 14, 15, 16, 23, 24, 25, 26, 27, 28, 29, 30, 31, 32, 33, 34, 35, 36, 37, 38, 39, 40, 41, 4, 42, 43, 44, 45, 46, 47, 48, 49, 50, 51, 52, 53, 54, 55, 56, 57, 58, 59, 60, 61, 62, 63, 64, 65, 66, 67, 68, 69, 70, 71, 72, 73, 74, 75, 76, 77, 78, 79, 80, 81, 82, 83, 84, 85, 86, 87, 88, 89, 90, 91, 92, 93, 94, 95, 96, 97, 98, 103, 104, 105, 106, 107, 108, 109, 110, 111, 112, 116, 117, 118, 119, 120, 121, 122, 113, 114, 115, 123, 124, 125, 126, 127, 128, 129, 130, 131, 132, 133, 134, 135, 136, 137, 138] (by decide +kernel) (by decide +kernel)
set_option maxRecDepth 20000 in
theorem gX8_beside_X8_heardToPartsEnd : GoodIn wsX8_beside (wsV RX8 180 RX8 yX8_heardToPartsEnd wsX8_heardToPartsEnd) := goodIn_app (goodIn_of _ (by decide +kernel)) ggX8_beside_X8_heardToPartsEnd
set_option maxRecDepth 20000 in
theorem ggX8_beside_X8_heardTo : GoodIn wsX8_beside wsX8_heardTo := goodIn_r _ [102, 10, 21, 22, 11, 12, 13, 14, 15, 16, 23, 24, 25, 26, 27, 28, 29, 30, 31, 32, 33, 34, 35, 36, 37, 38, 39, 43, 44, 45, 4, 46, 47, 48, 49, 50, 51, 52, 53, 54, 55, 56, 57, 58, 59, 60, 61, 62, 63, 64, 65, 66, 67, 68, 69, 70, 71, 72, 73, 74, 75, 76, 77, 78, 79, 80, 81, 82, 83, 84, 85, 86, 87, 88, 89, 90, 91, 92, 41, 42, 93, 94, 95, 96, 97, 98, 103, 104, 105, 106, 107, 108, 109, 110, 111, 112, 116, 117, 118, 119, 120, 121, 122, 113, 114, 115, 123, 124, 125, 126, 127, 128, 129, 130, 131, 132, 133, 134, 135, 136, 137, 138] (by decide +kernel) (by decide +kernel)
set_option maxRecDepth 20000 in
theorem gX8_beside_X8_heardTo : GoodIn wsX8_beside (wsV RX8 238 RX8 yX8_heardTo wsX8_heardTo) := goodIn_app (goodIn_of _ (by decide +kernel)) ggX8_beside_X8_heardTo
theorem dX8_beside_0 : decode cX8_beside 0 = .ok (.iload_n 1, 1) := by decide +kernel
theorem dX8_beside_1 : decode cX8_beside 1 = .ok (.iconst 4, 1) := by decide +kernel
theorem dX8_beside_2 : decode cX8_beside 2 = .ok (.invokestatic 72, 3) := by decide +kernel
theorem dX8_beside_5 : decode cX8_beside 5 = .ok (.ifCond .eq 11, 3) := by decide +kernel
theorem dX8_beside_8 : decode cX8_beside 8 = .ok (.iload_n 2, 1) := by decide +kernel
theorem dX8_beside_9 : decode cX8_beside 9 = .ok (.iconst 3, 1) := by decide +kernel
theorem dX8_beside_10 : decode cX8_beside 10 = .ok (.invokestatic 72, 3) := by decide +kernel
theorem dX8_beside_13 : decode cX8_beside 13 = .ok (.ifCond .ne 5, 3) := by decide +kernel
theorem dX8_beside_16 : decode cX8_beside 16 = .ok (.iconst (-1), 1) := by decide +kernel
theorem dX8_beside_17 : decode cX8_beside 17 = .ok (.ireturn, 1) := by decide +kernel
theorem dX8_beside_18 : decode cX8_beside 18 = .ok (.aload_n 0, 1) := by decide +kernel
theorem dX8_beside_19 : decode cX8_beside 19 = .ok (.iload_n 1, 1) := by decide +kernel
theorem dX8_beside_20 : decode cX8_beside 20 = .ok (.iconst 0, 1) := by decide +kernel
theorem dX8_beside_21 : decode cX8_beside 21 = .ok (.aload_n 0, 1) := by decide +kernel
theorem dX8_beside_22 : decode cX8_beside 22 = .ok (.getfield 37, 3) := by decide +kernel
theorem dX8_beside_25 : decode cX8_beside 25 = .ok (.aload_n 0, 1) := by decide +kernel
theorem dX8_beside_26 : decode cX8_beside 26 = .ok (.aload_n 0, 1) := by decide +kernel
theorem dX8_beside_27 : decode cX8_beside 27 = .ok (.invokevirtual 207, 3) := by decide +kernel
theorem dX8_beside_30 : decode cX8_beside 30 = .ok (.iconst 0, 1) := by decide +kernel
theorem dX8_beside_31 : decode cX8_beside 31 = .ok (.aload_n 0, 1) := by decide +kernel
theorem dX8_beside_32 : decode cX8_beside 32 = .ok (.getfield 37, 3) := by decide +kernel
theorem dX8_beside_35 : decode cX8_beside 35 = .ok (.invokevirtual 180, 3) := by decide +kernel
theorem dX8_beside_38 : decode cX8_beside 38 = .ok (.invokevirtual 238, 3) := by decide +kernel
theorem dX8_beside_41 : decode cX8_beside 41 = .ok (.istore_n 3, 1) := by decide +kernel
theorem dX8_beside_42 : decode cX8_beside 42 = .ok (.aload_n 0, 1) := by decide +kernel
theorem dX8_beside_43 : decode cX8_beside 43 = .ok (.iload_n 1, 1) := by decide +kernel
theorem dX8_beside_44 : decode cX8_beside 44 = .ok (.iconst 1, 1) := by decide +kernel
theorem dX8_beside_45 : decode cX8_beside 45 = .ok (.aload_n 0, 1) := by decide +kernel
theorem dX8_beside_46 : decode cX8_beside 46 = .ok (.getfield 37, 3) := by decide +kernel
theorem dX8_beside_49 : decode cX8_beside 49 = .ok (.aload_n 0, 1) := by decide +kernel
theorem dX8_beside_50 : decode cX8_beside 50 = .ok (.aload_n 0, 1) := by decide +kernel
theorem dX8_beside_51 : decode cX8_beside 51 = .ok (.invokevirtual 207, 3) := by decide +kernel
theorem dX8_beside_54 : decode cX8_beside 54 = .ok (.iconst 1, 1) := by decide +kernel
theorem dX8_beside_55 : decode cX8_beside 55 = .ok (.aload_n 0, 1) := by decide +kernel
theorem dX8_beside_56 : decode cX8_beside 56 = .ok (.getfield 37, 3) := by decide +kernel
theorem dX8_beside_59 : decode cX8_beside 59 = .ok (.invokevirtual 180, 3) := by decide +kernel
theorem dX8_beside_62 : decode cX8_beside 62 = .ok (.invokevirtual 238, 3) := by decide +kernel
theorem dX8_beside_65 : decode cX8_beside 65 = .ok (.istore 4, 2) := by decide +kernel
theorem dX8_beside_67 : decode cX8_beside 67 = .ok (.iload_n 2, 1) := by decide +kernel
theorem dX8_beside_68 : decode cX8_beside 68 = .ok (.ifCond .ne 10, 3) := by decide +kernel
theorem dX8_beside_71 : decode cX8_beside 71 = .ok (.iload_n 3, 1) := by decide +kernel
theorem dX8_beside_72 : decode cX8_beside 72 = .ok (.iload 4, 2) := by decide +kernel
theorem dX8_beside_74 : decode cX8_beside 74 = .ok (.iconst (-1), 1) := by decide +kernel
theorem dX8_beside_75 : decode cX8_beside 75 = .ok (.ixor, 1) := by decide +kernel
theorem dX8_beside_76 : decode cX8_beside 76 = .ok (.iand, 1) := by decide +kernel
theorem dX8_beside_77 : decode cX8_beside 77 = .ok (.ireturn, 1) := by decide +kernel
theorem dX8_beside_78 : decode cX8_beside 78 = .ok (.iload_n 2, 1) := by decide +kernel
theorem dX8_beside_79 : decode cX8_beside 79 = .ok (.iconst 1, 1) := by decide +kernel
theorem dX8_beside_80 : decode cX8_beside 80 = .ok (.if_icmp .ne 12, 3) := by decide +kernel
theorem dX8_beside_83 : decode cX8_beside 83 = .ok (.iload 4, 2) := by decide +kernel
theorem dX8_beside_85 : decode cX8_beside 85 = .ok (.iload_n 3, 1) := by decide +kernel
theorem dX8_beside_86 : decode cX8_beside 86 = .ok (.iconst (-1), 1) := by decide +kernel
theorem dX8_beside_87 : decode cX8_beside 87 = .ok (.ixor, 1) := by decide +kernel
theorem dX8_beside_88 : decode cX8_beside 88 = .ok (.iand, 1) := by decide +kernel
theorem dX8_beside_89 : decode cX8_beside 89 = .ok (.goto 7, 3) := by decide +kernel
theorem dX8_beside_92 : decode cX8_beside 92 = .ok (.iload_n 3, 1) := by decide +kernel
theorem dX8_beside_93 : decode cX8_beside 93 = .ok (.iload 4, 2) := by decide +kernel
theorem dX8_beside_95 : decode cX8_beside 95 = .ok (.iand, 1) := by decide +kernel
theorem dX8_beside_96 : decode cX8_beside 96 = .ok (.ireturn, 1) := by decide +kernel
set_option maxRecDepth 20000 in
theorem ggX8_way_X8_tapeAt : GoodIn wsX8_way wsX8_tapeAt := goodIn_r _ [5, 6, 184, 185, 186, 187, 188, 189, 190, 191, 192, 193] (by decide +kernel) (by decide +kernel)
set_option maxRecDepth 20000 in
theorem gX8_way_X8_tapeAt : GoodIn wsX8_way (wsV RX8 242 RX8 yX8_tapeAt wsX8_tapeAt) := goodIn_app (goodIn_of _ (by decide +kernel)) ggX8_way_X8_tapeAt
set_option maxRecDepth 20000 in
theorem ggX8_way_X8_wordAt : GoodIn wsX8_way wsX8_wordAt := goodIn_r _ [10, 11, 12, 13, 14, 15, 16, 17, 18, 19, 20, 21, 22, 23, 24, 25, 26, 27, 28, 29, 30, 31, 32, 33, 34, 35, 184, 185, 186, 187, 188, 189, 190, 191, 192, 193, 194, 195, 196] (by decide +kernel) (by decide +kernel)
set_option maxRecDepth 20000 in
theorem gX8_way_X8_wordAt : GoodIn wsX8_way (wsV RX8 95 RX8 yX8_wordAt wsX8_wordAt) := goodIn_app (goodIn_of _ (by decide +kernel)) ggX8_way_X8_wordAt
set_option maxRecDepth 20000 in
theorem ggX8_way_X8_isOffer : GoodIn wsX8_way wsX8_isOffer := goodIn_r _ [38, 39, 40, 4, 41] (by decide +kernel) (by decide +kernel)
set_option maxRecDepth 20000 in
theorem gX8_way_X8_isOffer : GoodIn wsX8_way (va_wsS RX8 166 yX8_isOffer wsX8_isOffer) := goodIn_app (goodIn_of _ (by decide +kernel)) ggX8_way_X8_isOffer
set_option maxRecDepth 20000 in
theorem ggX8_way_X8_rightlyTold : GoodIn wsX8_way wsX8_rightlyTold := goodIn_r _ [45, 46, 12, 47, 48, 49, 50, 51, 52, 53, 16, 54, 55, 56, 35, 18, 57, 58, 59, 60, 61, 62, 63, 64, 65, 66, 67, 68, 69, 70, 71, 72, 73, 74, 75, 76, 77, 78, 79, 80, 81, 82, 83, 84, 85, 86, 87, 88, 89, 90, 91, 92, 93, 94, 95, 96, 97, 98, 99, 100, 101, 102, 103, 104, 105, 106, 107, 108, 109, 110, 111, 13, 14, 15, 17, 112, 113, 114, 115, 23, 24, 25, 26, 27, 28, 29, 30, 116, 117, 118, 119, 120, 19, 20, 21, 22, 31, 32, 33, 34, 121, 122, 123, 124, 125, 126, 127, 128, 129, 130, 131, 132, 133, 134, 135, 136, 137, 138, 139, 140, 141, 142, 143, 144, 145, 146, 147, 148, 149, 150, 151, 152, 153, 154, 155, 156, 157, 158, 159, 160, 161, 162, 163, 164, 165, 166, 167, 168, 169, 170, 171, 172, 173, 174, 175, 176, 177, 178, 4, 179, 180, 184, 185, 186, 187, 188, 189, 190, 191, 192, 193, 197, 198, 199, 200, 201, 202, 203, 194, 195, 196, 181, 182, 183, 204, 205, 206, 207, 208, 209, 210, 211, 212, 213, 214, 215, 216, 217, 218, 219] (by decide +kernel) (by decide +kernel)
set_option maxRecDepth 20000 in
theorem gX8_way_X8_rightlyTold : GoodIn wsX8_way (wsV RX8 249 RX8 yX8_rightlyTold wsX8_rightlyTold) := goodIn_app (goodIn_of _ (by decide +kernel)) ggX8_way_X8_rightlyTold
theorem dX8_way_0 : decode cX8_way 0 = .ok (.aload_n 0, 1) := by decide +kernel
theorem dX8_way_1 : decode cX8_way 1 = .ok (.iload_n 1, 1) := by decide +kernel
theorem dX8_way_2 : decode cX8_way 2 = .ok (.invokevirtual 242, 3) := by decide +kernel
theorem dX8_way_5 : decode cX8_way 5 = .ok (.astore 6, 2) := by decide +kernel
theorem dX8_way_7 : decode cX8_way 7 = .ok (.aload_n 0, 1) := by decide +kernel
theorem dX8_way_8 : decode cX8_way 8 = .ok (.iload_n 3, 1) := by decide +kernel
theorem dX8_way_9 : decode cX8_way 9 = .ok (.invokevirtual 95, 3) := by decide +kernel
theorem dX8_way_12 : decode cX8_way 12 = .ok (.astore 7, 2) := by decide +kernel
theorem dX8_way_14 : decode cX8_way 14 = .ok (.aload 6, 2) := by decide +kernel
theorem dX8_way_16 : decode cX8_way 16 = .ok (.ifnull 18, 3) := by decide +kernel
theorem dX8_way_19 : decode cX8_way 19 = .ok (.aload 7, 2) := by decide +kernel
theorem dX8_way_21 : decode cX8_way 21 = .ok (.ifnull 13, 3) := by decide +kernel
theorem dX8_way_24 : decode cX8_way 24 = .ok (.iload 4, 2) := by decide +kernel
theorem dX8_way_26 : decode cX8_way 26 = .ok (.iload 5, 2) := by decide +kernel
theorem dX8_way_28 : decode cX8_way 28 = .ok (.invokestatic 166, 3) := by decide +kernel
theorem dX8_way_31 : decode cX8_way 31 = .ok (.ifCond .ne 5, 3) := by decide +kernel
theorem dX8_way_34 : decode cX8_way 34 = .ok (.iconst (-1), 1) := by decide +kernel
theorem dX8_way_35 : decode cX8_way 35 = .ok (.ireturn, 1) := by decide +kernel
theorem dX8_way_36 : decode cX8_way 36 = .ok (.aload 6, 2) := by decide +kernel
theorem dX8_way_38 : decode cX8_way 38 = .ok (.getfield 246, 3) := by decide +kernel
theorem dX8_way_41 : decode cX8_way 41 = .ok (.iconst (-1), 1) := by decide +kernel
theorem dX8_way_42 : decode cX8_way 42 = .ok (.if_icmp .eq 14, 3) := by decide +kernel
theorem dX8_way_45 : decode cX8_way 45 = .ok (.aload 6, 2) := by decide +kernel
theorem dX8_way_47 : decode cX8_way 47 = .ok (.getfield 246, 3) := by decide +kernel
theorem dX8_way_50 : decode cX8_way 50 = .ok (.ifCond .eq 6, 3) := by decide +kernel
theorem dX8_way_53 : decode cX8_way 53 = .ok (.bipush (-12), 2) := by decide +kernel
theorem dX8_way_55 : decode cX8_way 55 = .ok (.ireturn, 1) := by decide +kernel
theorem dX8_way_56 : decode cX8_way 56 = .ok (.aload_n 0, 1) := by decide +kernel
theorem dX8_way_57 : decode cX8_way 57 = .ok (.aload 6, 2) := by decide +kernel
theorem dX8_way_59 : decode cX8_way 59 = .ok (.iload_n 2, 1) := by decide +kernel
theorem dX8_way_60 : decode cX8_way 60 = .ok (.aload 7, 2) := by decide +kernel
theorem dX8_way_62 : decode cX8_way 62 = .ok (.iload 4, 2) := by decide +kernel
theorem dX8_way_64 : decode cX8_way 64 = .ok (.iload 5, 2) := by decide +kernel
theorem dX8_way_66 : decode cX8_way 66 = .ok (.invokevirtual 249, 3) := by decide +kernel
theorem dX8_way_69 : decode cX8_way 69 = .ok (.ireturn, 1) := by decide +kernel
set_option maxRecDepth 20000 in
theorem ggX8_act_X8_wordAt : GoodIn wsX8_act wsX8_wordAt := goodIn_r _ [7, 8, 9, 10, 11, 12, 13, 14, 15, 16, 17, 18, 19, 20, 21, 22, 23, 24, 25, 26, 27, 28, 29, 30, 31, 32, 58, 59, 60, 61, 62, 63, 64, 65, 66, 67, 77, 78, 79] (by decide +kernel) (by decide +kernel)
set_option maxRecDepth 20000 in
theorem gX8_act_X8_wordAt : GoodIn wsX8_act (wsV RX8 95 RX8 yX8_wordAt wsX8_wordAt) := goodIn_app (goodIn_of _ (by decide +kernel)) ggX8_act_X8_wordAt
set_option maxRecDepth 20000 in
theorem ggX8_act_X0_hears : GoodIn wsX8_act wsX0_hears := goodIn_r _ [36, 37, 38, 39, 40, 41, 42, 34, 43, 44, 45, 46, 6, 47, 48, 33, 35, 70, 71, 72, 73, 74, 75, 76, 80, 81, 82, 68, 69] (by decide +kernel) (by decide +kernel)
set_option maxRecDepth 20000 in
theorem gX8_act_X0_hears_n256 : GoodIn wsX8_act (wsX0_hears) := ggX8_act_X0_hears
set_option maxRecDepth 20000 in
theorem ggX8_act_X0_keeps : GoodIn wsX8_act wsX0_keeps := goodIn_r _ [51, 52, 38, 39, 40, 41, 42, 34, 43, 44, 45, 48, 33, 35, 36, 37, 46, 6, 47, 53, 49, 50, 70, 71, 72, 73, 74, 75, 76, 80, 81, 82, 68, 69] (by decide +kernel) (by decide +kernel)
set_option maxRecDepth 20000 in
theorem gX8_act_X0_keeps_n260 : GoodIn wsX8_act (wsX0_keeps) := ggX8_act_X0_keeps
set_option maxRecDepth 20000 in
theorem ggX8_act_X0_tells : GoodIn wsX8_act wsX0_tells := goodIn_r _ [56, 52, 37, 40, 41, 42, 34, 43, 44, 45, 53, 49, 50, 51, 38, 39, 48, 33, 35, 36, 46, 6, 47, 57, 54, 55, 70, 71, 72, 73, 74, 75, 76, 68, 69, 80, 81, 82] (by decide +kernel) (by decide +kernel)
set_option maxRecDepth 20000 in
theorem gX8_act_X0_tells_n263 : GoodIn wsX8_act (wsX0_tells) := ggX8_act_X0_tells
theorem dX8_act_0 : decode cX8_act 0 = .ok (.aload_n 0, 1) := by decide +kernel
theorem dX8_act_1 : decode cX8_act 1 = .ok (.getfield 53, 3) := by decide +kernel
theorem dX8_act_4 : decode cX8_act 4 = .ok (.iconst 0, 1) := by decide +kernel
theorem dX8_act_5 : decode cX8_act 5 = .ok (.putfield 253, 3) := by decide +kernel
theorem dX8_act_8 : decode cX8_act 8 = .ok (.aload_n 0, 1) := by decide +kernel
theorem dX8_act_9 : decode cX8_act 9 = .ok (.iload_n 1, 1) := by decide +kernel
theorem dX8_act_10 : decode cX8_act 10 = .ok (.invokevirtual 95, 3) := by decide +kernel
theorem dX8_act_13 : decode cX8_act 13 = .ok (.astore 4, 2) := by decide +kernel
theorem dX8_act_15 : decode cX8_act 15 = .ok (.aload 4, 2) := by decide +kernel
theorem dX8_act_17 : decode cX8_act 17 = .ok (.ifnonnull 5, 3) := by decide +kernel
theorem dX8_act_20 : decode cX8_act 20 = .ok (.iconst 0, 1) := by decide +kernel
theorem dX8_act_21 : decode cX8_act 21 = .ok (.ireturn, 1) := by decide +kernel
theorem dX8_act_22 : decode cX8_act 22 = .ok (.iload_n 2, 1) := by decide +kernel
theorem dX8_act_23 : decode cX8_act 23 = .ok (.tableswitch 73 0 2 #[25, 41, 57], 25) := by decide +kernel
theorem dX8_act_48 : decode cX8_act 48 = .ok (.aload_n 0, 1) := by decide +kernel
theorem dX8_act_49 : decode cX8_act 49 = .ok (.getfield 53, 3) := by decide +kernel
theorem dX8_act_52 : decode cX8_act 52 = .ok (.aload 4, 2) := by decide +kernel
theorem dX8_act_54 : decode cX8_act 54 = .ok (.aload 4, 2) := by decide +kernel
theorem dX8_act_56 : decode cX8_act 56 = .ok (.getfield 111, 3) := by decide +kernel
theorem dX8_act_59 : decode cX8_act 59 = .ok (.iload_n 3, 1) := by decide +kernel
theorem dX8_act_60 : decode cX8_act 60 = .ok (.invokevirtual 256, 3) := by decide +kernel
theorem dX8_act_63 : decode cX8_act 63 = .ok (.ireturn, 1) := by decide +kernel
theorem dX8_act_64 : decode cX8_act 64 = .ok (.aload_n 0, 1) := by decide +kernel
theorem dX8_act_65 : decode cX8_act 65 = .ok (.getfield 53, 3) := by decide +kernel
theorem dX8_act_68 : decode cX8_act 68 = .ok (.aload 4, 2) := by decide +kernel
theorem dX8_act_70 : decode cX8_act 70 = .ok (.aload 4, 2) := by decide +kernel
theorem dX8_act_72 : decode cX8_act 72 = .ok (.getfield 111, 3) := by decide +kernel
theorem dX8_act_75 : decode cX8_act 75 = .ok (.iload_n 3, 1) := by decide +kernel
theorem dX8_act_76 : decode cX8_act 76 = .ok (.invokevirtual 260, 3) := by decide +kernel
theorem dX8_act_79 : decode cX8_act 79 = .ok (.ireturn, 1) := by decide +kernel
theorem dX8_act_80 : decode cX8_act 80 = .ok (.aload_n 0, 1) := by decide +kernel
theorem dX8_act_81 : decode cX8_act 81 = .ok (.getfield 53, 3) := by decide +kernel
theorem dX8_act_84 : decode cX8_act 84 = .ok (.aload 4, 2) := by decide +kernel
theorem dX8_act_86 : decode cX8_act 86 = .ok (.aload 4, 2) := by decide +kernel
theorem dX8_act_88 : decode cX8_act 88 = .ok (.getfield 111, 3) := by decide +kernel
theorem dX8_act_91 : decode cX8_act 91 = .ok (.iload_n 3, 1) := by decide +kernel
theorem dX8_act_92 : decode cX8_act 92 = .ok (.invokevirtual 263, 3) := by decide +kernel
theorem dX8_act_95 : decode cX8_act 95 = .ok (.ireturn, 1) := by decide +kernel
theorem dX8_act_96 : decode cX8_act 96 = .ok (.iconst 0, 1) := by decide +kernel
theorem dX8_act_97 : decode cX8_act 97 = .ok (.ireturn, 1) := by decide +kernel
set_option maxRecDepth 20000 in
theorem ggX8_trace_X0_traced : GoodIn wsX8_trace wsX0_traced := goodIn_r _ [5, 6, 7, 18, 19] (by decide +kernel) (by decide +kernel)
set_option maxRecDepth 20000 in
theorem gX8_trace_X0_traced_n266 : GoodIn wsX8_trace (wsX0_traced) := ggX8_trace_X0_traced
theorem dX8_trace_0 : decode cX8_trace 0 = .ok (.aload_n 0, 1) := by decide +kernel
theorem dX8_trace_1 : decode cX8_trace 1 = .ok (.getfield 53, 3) := by decide +kernel
theorem dX8_trace_4 : decode cX8_trace 4 = .ok (.iload_n 1, 1) := by decide +kernel
theorem dX8_trace_5 : decode cX8_trace 5 = .ok (.invokevirtual 266, 3) := by decide +kernel
theorem dX8_trace_8 : decode cX8_trace 8 = .ok (.ireturn, 1) := by decide +kernel
set_option maxRecDepth 20000 in
theorem ggX8_taken_X8_within : GoodIn wsX8_taken wsX8_within := goodIn_r _ [6] (by decide +kernel) (by decide +kernel)
set_option maxRecDepth 20000 in
theorem gX8_taken_X8_within : GoodIn wsX8_taken (va_wsS RX8 72 yX8_within wsX8_within) := goodIn_app (goodIn_of _ (by decide +kernel)) ggX8_taken_X8_within
set_option maxRecDepth 20000 in
theorem ggX8_taken_X8_wordAt : GoodIn wsX8_taken wsX8_wordAt := goodIn_r _ [10, 11, 12, 13, 14, 15, 16, 17, 18, 19, 20, 21, 22, 23, 24, 25, 26, 27, 28, 29, 30, 31, 32, 33, 34, 35, 46, 47, 48, 49, 50, 51, 52, 53, 54, 55, 56, 57, 58] (by decide +kernel) (by decide +kernel)
set_option maxRecDepth 20000 in
theorem gX8_taken_X8_wordAt : GoodIn wsX8_taken (wsV RX8 95 RX8 yX8_wordAt wsX8_wordAt) := goodIn_app (goodIn_of _ (by decide +kernel)) ggX8_taken_X8_wordAt
set_option maxRecDepth 20000 in
theorem ggX8_taken_X8_has : GoodIn wsX8_taken wsX8_has := goodIn_r _ [38] (by decide +kernel) (by decide +kernel)
set_option maxRecDepth 20000 in
theorem gX8_taken_X8_has : GoodIn wsX8_taken (va_wsS RX8 105 yX8_has wsX8_has) := goodIn_app (goodIn_of _ (by decide +kernel)) ggX8_taken_X8_has
theorem dX8_taken_0 : decode cX8_taken 0 = .ok (.iload_n 2, 1) := by decide +kernel
theorem dX8_taken_1 : decode cX8_taken 1 = .ok (.bipush 7, 2) := by decide +kernel
theorem dX8_taken_3 : decode cX8_taken 3 = .ok (.invokestatic 72, 3) := by decide +kernel
theorem dX8_taken_6 : decode cX8_taken 6 = .ok (.ifCond .ne 6, 3) := by decide +kernel
theorem dX8_taken_9 : decode cX8_taken 9 = .ok (.bipush (-2), 2) := by decide +kernel
theorem dX8_taken_11 : decode cX8_taken 11 = .ok (.ireturn, 1) := by decide +kernel
theorem dX8_taken_12 : decode cX8_taken 12 = .ok (.aload_n 0, 1) := by decide +kernel
theorem dX8_taken_13 : decode cX8_taken 13 = .ok (.iload_n 1, 1) := by decide +kernel
theorem dX8_taken_14 : decode cX8_taken 14 = .ok (.invokevirtual 95, 3) := by decide +kernel
theorem dX8_taken_17 : decode cX8_taken 17 = .ok (.astore_n 3, 1) := by decide +kernel
theorem dX8_taken_18 : decode cX8_taken 18 = .ok (.aload_n 3, 1) := by decide +kernel
theorem dX8_taken_19 : decode cX8_taken 19 = .ok (.ifnonnull 6, 3) := by decide +kernel
theorem dX8_taken_22 : decode cX8_taken 22 = .ok (.bipush (-11), 2) := by decide +kernel
theorem dX8_taken_24 : decode cX8_taken 24 = .ok (.ireturn, 1) := by decide +kernel
theorem dX8_taken_25 : decode cX8_taken 25 = .ok (.aload_n 3, 1) := by decide +kernel
theorem dX8_taken_26 : decode cX8_taken 26 = .ok (.getfield 269, 3) := by decide +kernel
theorem dX8_taken_29 : decode cX8_taken 29 = .ok (.iload_n 2, 1) := by decide +kernel
theorem dX8_taken_30 : decode cX8_taken 30 = .ok (.invokestatic 105, 3) := by decide +kernel
theorem dX8_taken_33 : decode cX8_taken 33 = .ok (.ifCond .eq 10, 3) := by decide +kernel
theorem dX8_taken_36 : decode cX8_taken 36 = .ok (.aload_n 3, 1) := by decide +kernel
theorem dX8_taken_37 : decode cX8_taken 37 = .ok (.getfield 111, 3) := by decide +kernel
theorem dX8_taken_40 : decode cX8_taken 40 = .ok (.goto 5, 3) := by decide +kernel
theorem dX8_taken_43 : decode cX8_taken 43 = .ok (.bipush (-12), 2) := by decide +kernel
theorem dX8_taken_45 : decode cX8_taken 45 = .ok (.ireturn, 1) := by decide +kernel
set_option maxRecDepth 20000 in
theorem ggX8_count_Jx4a65c_size_8abf5 : GoodIn wsX8_count wsJx4a65c_size_8abf5 := goodIn_r _ [9, 10, 54, 55, 56] (by decide +kernel) (by decide +kernel)
set_option maxRecDepth 20000 in
theorem gX8_count_Jx4a65c_size_8abf5 : GoodIn wsX8_count (wsV RX8 80 RJx4a65c yJx4a65c_size_8abf5 wsJx4a65c_size_8abf5) := goodIn_app (goodIn_of _ (by decide +kernel)) ggX8_count_Jx4a65c_size_8abf5
set_option maxRecDepth 20000 in
theorem ggX8_count_X8_rulesOfFirstLand : GoodIn wsX8_count wsX8_rulesOfFirstLand := goodIn_r _ [15, 2, 16, 17, 5, 6, 7, 8, 9, 10, 18, 19, 20, 21, 22, 23, 24, 25, 26, 27, 28, 29, 30, 31, 32, 33, 34, 35, 36, 37, 38, 39, 40, 41, 42, 43, 44, 57, 58, 59, 60, 61, 62, 63, 54, 55, 56] (by decide +kernel) (by decide +kernel)
set_option maxRecDepth 20000 in
theorem gX8_count_X8_rulesOfFirstLand : GoodIn wsX8_count (wsV RX8 272 RX8 yX8_rulesOfFirstLand wsX8_rulesOfFirstLand) := goodIn_app (goodIn_of _ (by decide +kernel)) ggX8_count_X8_rulesOfFirstLand
theorem dX8_count_0 : decode cX8_count 0 = .ok (.iload_n 1, 1) := by decide +kernel
theorem dX8_count_1 : decode cX8_count 1 = .ok (.tableswitch 72 0 4 #[35, 43, 51, 59, 64], 35) := by decide +kernel
theorem dX8_count_36 : decode cX8_count 36 = .ok (.aload_n 0, 1) := by decide +kernel
theorem dX8_count_37 : decode cX8_count 37 = .ok (.getfield 20, 3) := by decide +kernel
theorem dX8_count_40 : decode cX8_count 40 = .ok (.invokevirtual 80, 3) := by decide +kernel
theorem dX8_count_43 : decode cX8_count 43 = .ok (.ireturn, 1) := by decide +kernel
theorem dX8_count_44 : decode cX8_count 44 = .ok (.aload_n 0, 1) := by decide +kernel
theorem dX8_count_45 : decode cX8_count 45 = .ok (.getfield 24, 3) := by decide +kernel
theorem dX8_count_48 : decode cX8_count 48 = .ok (.invokevirtual 80, 3) := by decide +kernel
theorem dX8_count_51 : decode cX8_count 51 = .ok (.ireturn, 1) := by decide +kernel
theorem dX8_count_52 : decode cX8_count 52 = .ok (.aload_n 0, 1) := by decide +kernel
theorem dX8_count_53 : decode cX8_count 53 = .ok (.getfield 30, 3) := by decide +kernel
theorem dX8_count_56 : decode cX8_count 56 = .ok (.getfield 131, 3) := by decide +kernel
theorem dX8_count_59 : decode cX8_count 59 = .ok (.ireturn, 1) := by decide +kernel
theorem dX8_count_60 : decode cX8_count 60 = .ok (.aload_n 0, 1) := by decide +kernel
theorem dX8_count_61 : decode cX8_count 61 = .ok (.invokevirtual 272, 3) := by decide +kernel
theorem dX8_count_64 : decode cX8_count 64 = .ok (.ireturn, 1) := by decide +kernel
theorem dX8_count_65 : decode cX8_count 65 = .ok (.aload_n 0, 1) := by decide +kernel
theorem dX8_count_66 : decode cX8_count 66 = .ok (.getfield 53, 3) := by decide +kernel
theorem dX8_count_69 : decode cX8_count 69 = .ok (.getfield 253, 3) := by decide +kernel
theorem dX8_count_72 : decode cX8_count 72 = .ok (.ireturn, 1) := by decide +kernel
theorem dX8_count_73 : decode cX8_count 73 = .ok (.bipush (-2), 2) := by decide +kernel
theorem dX8_count_75 : decode cX8_count 75 = .ok (.ireturn, 1) := by decide +kernel
set_option maxRecDepth 20000 in
theorem ggX8_tape_X8_tapeAt : GoodIn wsX8_tape wsX8_tapeAt := goodIn_r _ [5, 6, 18, 19, 20, 21, 22, 23, 24, 25, 26, 27] (by decide +kernel) (by decide +kernel)
set_option maxRecDepth 20000 in
theorem gX8_tape_X8_tapeAt : GoodIn wsX8_tape (wsV RX8 242 RX8 yX8_tapeAt wsX8_tapeAt) := goodIn_app (goodIn_of _ (by decide +kernel)) ggX8_tape_X8_tapeAt
set_option maxRecDepth 20000 in
theorem ggX8_tape_X6_become : GoodIn wsX8_tape wsX6_become := goodIn_r _ [10, 11, 12, 13, 14, 15, 16, 17, 28, 29, 30] (by decide +kernel) (by decide +kernel)
set_option maxRecDepth 20000 in
theorem gX8_tape_X6_become_n275 : GoodIn wsX8_tape (wsX6_become) := ggX8_tape_X6_become
theorem dX8_tape_0 : decode cX8_tape 0 = .ok (.aload_n 0, 1) := by decide +kernel
theorem dX8_tape_1 : decode cX8_tape 1 = .ok (.iload_n 1, 1) := by decide +kernel
theorem dX8_tape_2 : decode cX8_tape 2 = .ok (.invokevirtual 242, 3) := by decide +kernel
theorem dX8_tape_5 : decode cX8_tape 5 = .ok (.astore 4, 2) := by decide +kernel
theorem dX8_tape_7 : decode cX8_tape 7 = .ok (.aload 4, 2) := by decide +kernel
theorem dX8_tape_9 : decode cX8_tape 9 = .ok (.ifnonnull 5, 3) := by decide +kernel
theorem dX8_tape_12 : decode cX8_tape 12 = .ok (.iconst (-1), 1) := by decide +kernel
theorem dX8_tape_13 : decode cX8_tape 13 = .ok (.ireturn, 1) := by decide +kernel
theorem dX8_tape_14 : decode cX8_tape 14 = .ok (.iload_n 2, 1) := by decide +kernel
theorem dX8_tape_15 : decode cX8_tape 15 = .ok (.iconst (-1), 1) := by decide +kernel
theorem dX8_tape_16 : decode cX8_tape 16 = .ok (.if_icmp .lt 8, 3) := by decide +kernel
theorem dX8_tape_19 : decode cX8_tape 19 = .ok (.iload_n 2, 1) := by decide +kernel
theorem dX8_tape_20 : decode cX8_tape 20 = .ok (.iconst 4, 1) := by decide +kernel
theorem dX8_tape_21 : decode cX8_tape 21 = .ok (.if_icmp .le 6, 3) := by decide +kernel
theorem dX8_tape_24 : decode cX8_tape 24 = .ok (.bipush (-2), 2) := by decide +kernel
theorem dX8_tape_26 : decode cX8_tape 26 = .ok (.ireturn, 1) := by decide +kernel
theorem dX8_tape_27 : decode cX8_tape 27 = .ok (.iload_n 2, 1) := by decide +kernel
theorem dX8_tape_28 : decode cX8_tape 28 = .ok (.iconst (-1), 1) := by decide +kernel
theorem dX8_tape_29 : decode cX8_tape 29 = .ok (.if_icmp .ne 12, 3) := by decide +kernel
theorem dX8_tape_32 : decode cX8_tape 32 = .ok (.aload 4, 2) := by decide +kernel
theorem dX8_tape_34 : decode cX8_tape 34 = .ok (.iconst (-1), 1) := by decide +kernel
theorem dX8_tape_35 : decode cX8_tape 35 = .ok (.iconst 0, 1) := by decide +kernel
theorem dX8_tape_36 : decode cX8_tape 36 = .ok (.invokevirtual 275, 3) := by decide +kernel
theorem dX8_tape_39 : decode cX8_tape 39 = .ok (.iconst 1, 1) := by decide +kernel
theorem dX8_tape_40 : decode cX8_tape 40 = .ok (.ireturn, 1) := by decide +kernel
theorem dX8_tape_41 : decode cX8_tape 41 = .ok (.iload_n 3, 1) := by decide +kernel
theorem dX8_tape_42 : decode cX8_tape 42 = .ok (.bipush 60, 2) := by decide +kernel
theorem dX8_tape_44 : decode cX8_tape 44 = .ok (.if_icmp .le 6, 3) := by decide +kernel
theorem dX8_tape_47 : decode cX8_tape 47 = .ok (.bipush (-2), 2) := by decide +kernel
theorem dX8_tape_49 : decode cX8_tape 49 = .ok (.ireturn, 1) := by decide +kernel
theorem dX8_tape_50 : decode cX8_tape 50 = .ok (.iload_n 3, 1) := by decide +kernel
theorem dX8_tape_51 : decode cX8_tape 51 = .ok (.ifCond .ge 6, 3) := by decide +kernel
theorem dX8_tape_54 : decode cX8_tape 54 = .ok (.bipush (-14), 2) := by decide +kernel
theorem dX8_tape_56 : decode cX8_tape 56 = .ok (.ireturn, 1) := by decide +kernel
theorem dX8_tape_57 : decode cX8_tape 57 = .ok (.aload 4, 2) := by decide +kernel
theorem dX8_tape_59 : decode cX8_tape 59 = .ok (.iload_n 2, 1) := by decide +kernel
theorem dX8_tape_60 : decode cX8_tape 60 = .ok (.iload_n 3, 1) := by decide +kernel
theorem dX8_tape_61 : decode cX8_tape 61 = .ok (.invokevirtual 275, 3) := by decide +kernel
theorem dX8_tape_64 : decode cX8_tape 64 = .ok (.iconst 1, 1) := by decide +kernel
theorem dX8_tape_65 : decode cX8_tape 65 = .ok (.ireturn, 1) := by decide +kernel
set_option maxRecDepth 20000 in
theorem ggX8_item_X8_tapeAt : GoodIn wsX8_item wsX8_tapeAt := goodIn_r _ [5, 6, 25, 26, 27, 28, 29, 30, 31, 32, 33, 34] (by decide +kernel) (by decide +kernel)
set_option maxRecDepth 20000 in
theorem gX8_item_X8_tapeAt : GoodIn wsX8_item (wsV RX8 242 RX8 yX8_tapeAt wsX8_tapeAt) := goodIn_app (goodIn_of _ (by decide +kernel)) ggX8_item_X8_tapeAt
set_option maxRecDepth 20000 in
theorem ggX8_item_X6_hasPlace : GoodIn wsX8_item wsX6_hasPlace := goodIn_r _ [10, 11, 12, 22, 23, 24] (by decide +kernel) (by decide +kernel)
set_option maxRecDepth 20000 in
theorem gX8_item_X6_hasPlace_n279 : GoodIn wsX8_item (wsX6_hasPlace) := ggX8_item_X6_hasPlace
set_option maxRecDepth 20000 in
theorem ggX8_item_X6_put : GoodIn wsX8_item wsX6_put := goodIn_r _ [15, 12, 16, 7, 9, 8, 10, 11, 17, 18, 19, 20, 21, 22, 23, 24] (by decide +kernel) (by decide +kernel)
set_option maxRecDepth 20000 in
theorem gX8_item_X6_put_n283 : GoodIn wsX8_item (wsX6_put) := ggX8_item_X6_put
theorem dX8_item_0 : decode cX8_item 0 = .ok (.aload_n 0, 1) := by decide +kernel
theorem dX8_item_1 : decode cX8_item 1 = .ok (.iload_n 1, 1) := by decide +kernel
theorem dX8_item_2 : decode cX8_item 2 = .ok (.invokevirtual 242, 3) := by decide +kernel
theorem dX8_item_5 : decode cX8_item 5 = .ok (.astore 5, 2) := by decide +kernel
theorem dX8_item_7 : decode cX8_item 7 = .ok (.aload 5, 2) := by decide +kernel
theorem dX8_item_9 : decode cX8_item 9 = .ok (.ifnonnull 5, 3) := by decide +kernel
theorem dX8_item_12 : decode cX8_item 12 = .ok (.iconst (-1), 1) := by decide +kernel
theorem dX8_item_13 : decode cX8_item 13 = .ok (.ireturn, 1) := by decide +kernel
theorem dX8_item_14 : decode cX8_item 14 = .ok (.aload 5, 2) := by decide +kernel
theorem dX8_item_16 : decode cX8_item 16 = .ok (.getfield 246, 3) := by decide +kernel
theorem dX8_item_19 : decode cX8_item 19 = .ok (.iconst (-1), 1) := by decide +kernel
theorem dX8_item_20 : decode cX8_item 20 = .ok (.if_icmp .ne 6, 3) := by decide +kernel
theorem dX8_item_23 : decode cX8_item 23 = .ok (.bipush (-11), 2) := by decide +kernel
theorem dX8_item_25 : decode cX8_item 25 = .ok (.ireturn, 1) := by decide +kernel
theorem dX8_item_26 : decode cX8_item 26 = .ok (.aload 5, 2) := by decide +kernel
theorem dX8_item_28 : decode cX8_item 28 = .ok (.iload_n 2, 1) := by decide +kernel
theorem dX8_item_29 : decode cX8_item 29 = .ok (.invokevirtual 279, 3) := by decide +kernel
theorem dX8_item_32 : decode cX8_item 32 = .ok (.ifCond .ne 6, 3) := by decide +kernel
theorem dX8_item_35 : decode cX8_item 35 = .ok (.bipush (-13), 2) := by decide +kernel
theorem dX8_item_37 : decode cX8_item 37 = .ok (.ireturn, 1) := by decide +kernel
theorem dX8_item_38 : decode cX8_item 38 = .ok (.aload 5, 2) := by decide +kernel
theorem dX8_item_40 : decode cX8_item 40 = .ok (.iload_n 2, 1) := by decide +kernel
theorem dX8_item_41 : decode cX8_item 41 = .ok (.lload_n 3, 1) := by decide +kernel
theorem dX8_item_42 : decode cX8_item 42 = .ok (.invokevirtual 283, 3) := by decide +kernel
theorem dX8_item_45 : decode cX8_item 45 = .ok (.iconst 1, 1) := by decide +kernel
theorem dX8_item_46 : decode cX8_item 46 = .ok (.ireturn, 1) := by decide +kernel
set_option maxRecDepth 20000 in
theorem ggX8_read_X8_tapeAt : GoodIn wsX8_read wsX8_tapeAt := goodIn_r _ [6, 7, 19, 20, 21, 22, 23, 24, 25, 26, 27, 28] (by decide +kernel) (by decide +kernel)
set_option maxRecDepth 20000 in
theorem gX8_read_X8_tapeAt : GoodIn wsX8_read (wsV RX8 242 RX8 yX8_tapeAt wsX8_tapeAt) := goodIn_app (goodIn_of _ (by decide +kernel)) ggX8_read_X8_tapeAt
set_option maxRecDepth 20000 in
theorem ggX8_read_X6_get : GoodIn wsX8_read wsX6_get := goodIn_r _ [11, 12, 13, 14, 15, 16, 9, 17, 18, 29, 30, 31] (by decide +kernel) (by decide +kernel)
set_option maxRecDepth 20000 in
theorem gX8_read_X6_get_n289 : GoodIn wsX8_read (wsX6_get) := ggX8_read_X6_get
theorem dX8_read_0 : decode cX8_read 0 = .ok (.aload_n 0, 1) := by decide +kernel
theorem dX8_read_1 : decode cX8_read 1 = .ok (.iload_n 1, 1) := by decide +kernel
theorem dX8_read_2 : decode cX8_read 2 = .ok (.invokevirtual 242, 3) := by decide +kernel
theorem dX8_read_5 : decode cX8_read 5 = .ok (.astore_n 3, 1) := by decide +kernel
theorem dX8_read_6 : decode cX8_read 6 = .ok (.aload_n 3, 1) := by decide +kernel
theorem dX8_read_7 : decode cX8_read 7 = .ok (.ifnonnull 9, 3) := by decide +kernel
theorem dX8_read_10 : decode cX8_read 10 = .ok (.ldc2_w 287, 3) := by decide +kernel
theorem dX8_read_13 : decode cX8_read 13 = .ok (.goto 8, 3) := by decide +kernel
theorem dX8_read_16 : decode cX8_read 16 = .ok (.aload_n 3, 1) := by decide +kernel
theorem dX8_read_17 : decode cX8_read 17 = .ok (.iload_n 2, 1) := by decide +kernel
theorem dX8_read_18 : decode cX8_read 18 = .ok (.invokevirtual 289, 3) := by decide +kernel
theorem dX8_read_21 : decode cX8_read 21 = .ok (.lreturn, 1) := by decide +kernel
set_option maxRecDepth 20000 in
theorem ggX8_shift_X8_tapeAt : GoodIn wsX8_shift wsX8_tapeAt := goodIn_r _ [9, 10, 20, 21, 22, 23, 24, 25, 26, 27, 28, 29] (by decide +kernel) (by decide +kernel)
set_option maxRecDepth 20000 in
theorem gX8_shift_X8_tapeAt : GoodIn wsX8_shift (wsV RX8 242 RX8 yX8_tapeAt wsX8_tapeAt) := goodIn_app (goodIn_of _ (by decide +kernel)) ggX8_shift_X8_tapeAt
set_option maxRecDepth 20000 in
theorem ggX8_shift_X6_hasStretch : GoodIn wsX8_shift wsX6_hasStretch := goodIn_r _ [14, 15, 16, 17, 18, 19] (by decide +kernel) (by decide +kernel)
set_option maxRecDepth 20000 in
theorem gX8_shift_X6_hasStretch_n292 : GoodIn wsX8_shift (wsX6_hasStretch) := ggX8_shift_X6_hasStretch
theorem dX8_shift_0 : decode cX8_shift 0 = .ok (.aload_n 0, 1) := by decide +kernel
theorem dX8_shift_1 : decode cX8_shift 1 = .ok (.iload_n 1, 1) := by decide +kernel
theorem dX8_shift_2 : decode cX8_shift 2 = .ok (.invokevirtual 242, 3) := by decide +kernel
theorem dX8_shift_5 : decode cX8_shift 5 = .ok (.astore 6, 2) := by decide +kernel
theorem dX8_shift_7 : decode cX8_shift 7 = .ok (.aload_n 0, 1) := by decide +kernel
theorem dX8_shift_8 : decode cX8_shift 8 = .ok (.iload_n 3, 1) := by decide +kernel
theorem dX8_shift_9 : decode cX8_shift 9 = .ok (.invokevirtual 242, 3) := by decide +kernel
theorem dX8_shift_12 : decode cX8_shift 12 = .ok (.astore 7, 2) := by decide +kernel
theorem dX8_shift_14 : decode cX8_shift 14 = .ok (.aload 6, 2) := by decide +kernel
theorem dX8_shift_16 : decode cX8_shift 16 = .ok (.ifnull 8, 3) := by decide +kernel
theorem dX8_shift_19 : decode cX8_shift 19 = .ok (.aload 7, 2) := by decide +kernel
theorem dX8_shift_21 : decode cX8_shift 21 = .ok (.ifnonnull 5, 3) := by decide +kernel
theorem dX8_shift_24 : decode cX8_shift 24 = .ok (.iconst (-1), 1) := by decide +kernel
theorem dX8_shift_25 : decode cX8_shift 25 = .ok (.ireturn, 1) := by decide +kernel
theorem dX8_shift_26 : decode cX8_shift 26 = .ok (.aload 6, 2) := by decide +kernel
theorem dX8_shift_28 : decode cX8_shift 28 = .ok (.getfield 246, 3) := by decide +kernel
theorem dX8_shift_31 : decode cX8_shift 31 = .ok (.iconst (-1), 1) := by decide +kernel
theorem dX8_shift_32 : decode cX8_shift 32 = .ok (.if_icmp .eq 12, 3) := by decide +kernel
theorem dX8_shift_35 : decode cX8_shift 35 = .ok (.aload 7, 2) := by decide +kernel
theorem dX8_shift_37 : decode cX8_shift 37 = .ok (.getfield 246, 3) := by decide +kernel
theorem dX8_shift_40 : decode cX8_shift 40 = .ok (.iconst (-1), 1) := by decide +kernel
theorem dX8_shift_41 : decode cX8_shift 41 = .ok (.if_icmp .ne 6, 3) := by decide +kernel
theorem dX8_shift_44 : decode cX8_shift 44 = .ok (.bipush (-11), 2) := by decide +kernel
theorem dX8_shift_46 : decode cX8_shift 46 = .ok (.ireturn, 1) := by decide +kernel
theorem dX8_shift_47 : decode cX8_shift 47 = .ok (.aload 6, 2) := by decide +kernel
theorem dX8_shift_49 : decode cX8_shift 49 = .ok (.getfield 246, 3) := by decide +kernel
theorem dX8_shift_52 : decode cX8_shift 52 = .ok (.aload 7, 2) := by decide +kernel
theorem dX8_shift_54 : decode cX8_shift 54 = .ok (.getfield 246, 3) := by decide +kernel
theorem dX8_shift_57 : decode cX8_shift 57 = .ok (.if_icmp .eq 6, 3) := by decide +kernel
theorem dX8_shift_60 : decode cX8_shift 60 = .ok (.bipush (-12), 2) := by decide +kernel
theorem dX8_shift_62 : decode cX8_shift 62 = .ok (.ireturn, 1) := by decide +kernel
theorem dX8_shift_63 : decode cX8_shift 63 = .ok (.aload 6, 2) := by decide +kernel
theorem dX8_shift_65 : decode cX8_shift 65 = .ok (.iload_n 2, 1) := by decide +kernel
theorem dX8_shift_66 : decode cX8_shift 66 = .ok (.iload 5, 2) := by decide +kernel
theorem dX8_shift_68 : decode cX8_shift 68 = .ok (.invokevirtual 292, 3) := by decide +kernel
theorem dX8_shift_71 : decode cX8_shift 71 = .ok (.ifCond .eq 15, 3) := by decide +kernel
theorem dX8_shift_74 : decode cX8_shift 74 = .ok (.aload 7, 2) := by decide +kernel
theorem dX8_shift_76 : decode cX8_shift 76 = .ok (.iload 4, 2) := by decide +kernel
theorem dX8_shift_78 : decode cX8_shift 78 = .ok (.iload 5, 2) := by decide +kernel
theorem dX8_shift_80 : decode cX8_shift 80 = .ok (.invokevirtual 292, 3) := by decide +kernel
theorem dX8_shift_83 : decode cX8_shift 83 = .ok (.ifCond .ne 6, 3) := by decide +kernel
theorem dX8_shift_86 : decode cX8_shift 86 = .ok (.bipush (-13), 2) := by decide +kernel
theorem dX8_shift_88 : decode cX8_shift 88 = .ok (.ireturn, 1) := by decide +kernel
theorem dX8_shift_89 : decode cX8_shift 89 = .ok (.aload 6, 2) := by decide +kernel
theorem dX8_shift_91 : decode cX8_shift 91 = .ok (.getfield 295, 3) := by decide +kernel
theorem dX8_shift_94 : decode cX8_shift 94 = .ok (.iload_n 2, 1) := by decide +kernel
theorem dX8_shift_95 : decode cX8_shift 95 = .ok (.aload 7, 2) := by decide +kernel
theorem dX8_shift_97 : decode cX8_shift 97 = .ok (.getfield 295, 3) := by decide +kernel
theorem dX8_shift_100 : decode cX8_shift 100 = .ok (.iload 4, 2) := by decide +kernel
theorem dX8_shift_102 : decode cX8_shift 102 = .ok (.iload 5, 2) := by decide +kernel
theorem dX8_shift_104 : decode cX8_shift 104 = .ok (.invokestatic 299, 3) := by decide +kernel
theorem dX8_shift_107 : decode cX8_shift 107 = .ok (.iload 5, 2) := by decide +kernel
theorem dX8_shift_109 : decode cX8_shift 109 = .ok (.ireturn, 1) := by decide +kernel
theorem dX8_within_0 : decode cX8_within 0 = .ok (.iload_n 0, 1) := by decide +kernel
theorem dX8_within_1 : decode cX8_within 1 = .ok (.ifCond .lt 12, 3) := by decide +kernel
theorem dX8_within_4 : decode cX8_within 4 = .ok (.iload_n 0, 1) := by decide +kernel
theorem dX8_within_5 : decode cX8_within 5 = .ok (.iload_n 1, 1) := by decide +kernel
theorem dX8_within_6 : decode cX8_within 6 = .ok (.if_icmp .ge 7, 3) := by decide +kernel
theorem dX8_within_9 : decode cX8_within 9 = .ok (.iconst 1, 1) := by decide +kernel
theorem dX8_within_10 : decode cX8_within 10 = .ok (.goto 4, 3) := by decide +kernel
theorem dX8_within_13 : decode cX8_within 13 = .ok (.iconst 0, 1) := by decide +kernel
theorem dX8_within_14 : decode cX8_within 14 = .ok (.ireturn, 1) := by decide +kernel
theorem dX8_has_0 : decode cX8_has 0 = .ok (.iload_n 0, 1) := by decide +kernel
theorem dX8_has_1 : decode cX8_has 1 = .ok (.iload_n 1, 1) := by decide +kernel
theorem dX8_has_2 : decode cX8_has 2 = .ok (.ishr, 1) := by decide +kernel
theorem dX8_has_3 : decode cX8_has 3 = .ok (.iconst 1, 1) := by decide +kernel
theorem dX8_has_4 : decode cX8_has 4 = .ok (.iand, 1) := by decide +kernel
theorem dX8_has_5 : decode cX8_has 5 = .ok (.ifCond .eq 7, 3) := by decide +kernel
theorem dX8_has_8 : decode cX8_has 8 = .ok (.iconst 1, 1) := by decide +kernel
theorem dX8_has_9 : decode cX8_has 9 = .ok (.goto 4, 3) := by decide +kernel
theorem dX8_has_12 : decode cX8_has 12 = .ok (.iconst 0, 1) := by decide +kernel
theorem dX8_has_13 : decode cX8_has 13 = .ok (.ireturn, 1) := by decide +kernel
set_option maxRecDepth 20000 in
theorem ggX8_isOffer_X8_within : GoodIn wsX8_isOffer wsX8_within := goodIn_r _ [4] (by decide +kernel) (by decide +kernel)
set_option maxRecDepth 20000 in
theorem gX8_isOffer_X8_within : GoodIn wsX8_isOffer (va_wsS RX8 72 yX8_within wsX8_within) := goodIn_app (goodIn_of _ (by decide +kernel)) ggX8_isOffer_X8_within
theorem dX8_isOffer_0 : decode cX8_isOffer 0 = .ok (.iload_n 0, 1) := by decide +kernel
theorem dX8_isOffer_1 : decode cX8_isOffer 1 = .ok (.iconst 4, 1) := by decide +kernel
theorem dX8_isOffer_2 : decode cX8_isOffer 2 = .ok (.invokestatic 72, 3) := by decide +kernel
theorem dX8_isOffer_5 : decode cX8_isOffer 5 = .ok (.ifCond .eq 15, 3) := by decide +kernel
theorem dX8_isOffer_8 : decode cX8_isOffer 8 = .ok (.iload_n 1, 1) := by decide +kernel
theorem dX8_isOffer_9 : decode cX8_isOffer 9 = .ok (.iconst 2, 1) := by decide +kernel
theorem dX8_isOffer_10 : decode cX8_isOffer 10 = .ok (.invokestatic 72, 3) := by decide +kernel
theorem dX8_isOffer_13 : decode cX8_isOffer 13 = .ok (.ifCond .eq 7, 3) := by decide +kernel
theorem dX8_isOffer_16 : decode cX8_isOffer 16 = .ok (.iconst 1, 1) := by decide +kernel
theorem dX8_isOffer_17 : decode cX8_isOffer 17 = .ok (.goto 4, 3) := by decide +kernel
theorem dX8_isOffer_20 : decode cX8_isOffer 20 = .ok (.iconst 0, 1) := by decide +kernel
theorem dX8_isOffer_21 : decode cX8_isOffer 21 = .ok (.ireturn, 1) := by decide +kernel
theorem dX8_personAt_0 : decode cX8_personAt 0 = .ok (.iload_n 1, 1) := by decide +kernel
theorem dX8_personAt_1 : decode cX8_personAt 1 = .ok (.ifCond .lt 21, 3) := by decide +kernel
theorem dX8_personAt_4 : decode cX8_personAt 4 = .ok (.iload_n 1, 1) := by decide +kernel
theorem dX8_personAt_5 : decode cX8_personAt 5 = .ok (.aload_n 0, 1) := by decide +kernel
theorem dX8_personAt_6 : decode cX8_personAt 6 = .ok (.getfield 13, 3) := by decide +kernel
theorem dX8_personAt_9 : decode cX8_personAt 9 = .ok (.arraylength, 1) := by decide +kernel
theorem dX8_personAt_10 : decode cX8_personAt 10 = .ok (.if_icmp .ge 12, 3) := by decide +kernel
theorem dX8_personAt_13 : decode cX8_personAt 13 = .ok (.aload_n 0, 1) := by decide +kernel
theorem dX8_personAt_14 : decode cX8_personAt 14 = .ok (.getfield 13, 3) := by decide +kernel
theorem dX8_personAt_17 : decode cX8_personAt 17 = .ok (.iload_n 1, 1) := by decide +kernel
theorem dX8_personAt_18 : decode cX8_personAt 18 = .ok (.aaload, 1) := by decide +kernel
theorem dX8_personAt_19 : decode cX8_personAt 19 = .ok (.goto 4, 3) := by decide +kernel
theorem dX8_personAt_22 : decode cX8_personAt 22 = .ok (.aconst_null, 1) := by decide +kernel
theorem dX8_personAt_23 : decode cX8_personAt 23 = .ok (.areturn, 1) := by decide +kernel
set_option maxRecDepth 20000 in
theorem ggX8_wordAt_Jx4a65c_size_8abf5 : GoodIn wsX8_wordAt wsJx4a65c_size_8abf5 := goodIn_r _ [7, 8, 36, 37, 38] (by decide +kernel) (by decide +kernel)
set_option maxRecDepth 20000 in
theorem gX8_wordAt_Jx4a65c_size_8abf5 : GoodIn wsX8_wordAt (wsV RX8 80 RJx4a65c yJx4a65c_size_8abf5 wsJx4a65c_size_8abf5) := goodIn_app (goodIn_of _ (by decide +kernel)) ggX8_wordAt_Jx4a65c_size_8abf5
set_option maxRecDepth 20000 in
theorem ggX8_wordAt_Jx4a65c_get_915e3 : GoodIn wsX8_wordAt wsJx4a65c_get_915e3 := goodIn_r _ [12, 8, 13, 14, 15, 16, 17, 18, 19, 20, 21, 22, 23, 6, 24, 25, 36, 37, 38] (by decide +kernel) (by decide +kernel)
set_option maxRecDepth 20000 in
theorem gX8_wordAt_Jx4a65c_get_915e3 : GoodIn wsX8_wordAt (wsV RX8 220 RJx4a65c yJx4a65c_get_915e3 wsJx4a65c_get_915e3) := goodIn_app (goodIn_of _ (by decide +kernel)) ggX8_wordAt_Jx4a65c_get_915e3
theorem dX8_wordAt_0 : decode cX8_wordAt 0 = .ok (.iload_n 1, 1) := by decide +kernel
theorem dX8_wordAt_1 : decode cX8_wordAt 1 = .ok (.ifCond .lt 28, 3) := by decide +kernel
theorem dX8_wordAt_4 : decode cX8_wordAt 4 = .ok (.iload_n 1, 1) := by decide +kernel
theorem dX8_wordAt_5 : decode cX8_wordAt 5 = .ok (.aload_n 0, 1) := by decide +kernel
theorem dX8_wordAt_6 : decode cX8_wordAt 6 = .ok (.getfield 20, 3) := by decide +kernel
theorem dX8_wordAt_9 : decode cX8_wordAt 9 = .ok (.invokevirtual 80, 3) := by decide +kernel
theorem dX8_wordAt_12 : decode cX8_wordAt 12 = .ok (.if_icmp .ge 17, 3) := by decide +kernel
theorem dX8_wordAt_15 : decode cX8_wordAt 15 = .ok (.aload_n 0, 1) := by decide +kernel
theorem dX8_wordAt_16 : decode cX8_wordAt 16 = .ok (.getfield 20, 3) := by decide +kernel
theorem dX8_wordAt_19 : decode cX8_wordAt 19 = .ok (.iload_n 1, 1) := by decide +kernel
theorem dX8_wordAt_20 : decode cX8_wordAt 20 = .ok (.invokevirtual 220, 3) := by decide +kernel
theorem dX8_wordAt_23 : decode cX8_wordAt 23 = .ok (.checkcast 84, 3) := by decide +kernel
theorem dX8_wordAt_26 : decode cX8_wordAt 26 = .ok (.goto 4, 3) := by decide +kernel
theorem dX8_wordAt_29 : decode cX8_wordAt 29 = .ok (.aconst_null, 1) := by decide +kernel
theorem dX8_wordAt_30 : decode cX8_wordAt 30 = .ok (.areturn, 1) := by decide +kernel
set_option maxRecDepth 20000 in
theorem ggX8_ruleAt_Jx4a65c_size_8abf5 : GoodIn wsX8_ruleAt wsJx4a65c_size_8abf5 := goodIn_r _ [7, 8, 36, 37, 38] (by decide +kernel) (by decide +kernel)
set_option maxRecDepth 20000 in
theorem gX8_ruleAt_Jx4a65c_size_8abf5 : GoodIn wsX8_ruleAt (wsV RX8 80 RJx4a65c yJx4a65c_size_8abf5 wsJx4a65c_size_8abf5) := goodIn_app (goodIn_of _ (by decide +kernel)) ggX8_ruleAt_Jx4a65c_size_8abf5
set_option maxRecDepth 20000 in
theorem ggX8_ruleAt_Jx4a65c_get_915e3 : GoodIn wsX8_ruleAt wsJx4a65c_get_915e3 := goodIn_r _ [12, 8, 13, 14, 15, 16, 17, 18, 19, 20, 21, 22, 23, 6, 24, 25, 36, 37, 38] (by decide +kernel) (by decide +kernel)
set_option maxRecDepth 20000 in
theorem gX8_ruleAt_Jx4a65c_get_915e3 : GoodIn wsX8_ruleAt (wsV RX8 220 RJx4a65c yJx4a65c_get_915e3 wsJx4a65c_get_915e3) := goodIn_app (goodIn_of _ (by decide +kernel)) ggX8_ruleAt_Jx4a65c_get_915e3
theorem dX8_ruleAt_0 : decode cX8_ruleAt 0 = .ok (.iload_n 1, 1) := by decide +kernel
theorem dX8_ruleAt_1 : decode cX8_ruleAt 1 = .ok (.ifCond .lt 28, 3) := by decide +kernel
theorem dX8_ruleAt_4 : decode cX8_ruleAt 4 = .ok (.iload_n 1, 1) := by decide +kernel
theorem dX8_ruleAt_5 : decode cX8_ruleAt 5 = .ok (.aload_n 0, 1) := by decide +kernel
theorem dX8_ruleAt_6 : decode cX8_ruleAt 6 = .ok (.getfield 24, 3) := by decide +kernel
theorem dX8_ruleAt_9 : decode cX8_ruleAt 9 = .ok (.invokevirtual 80, 3) := by decide +kernel
theorem dX8_ruleAt_12 : decode cX8_ruleAt 12 = .ok (.if_icmp .ge 17, 3) := by decide +kernel
theorem dX8_ruleAt_15 : decode cX8_ruleAt 15 = .ok (.aload_n 0, 1) := by decide +kernel
theorem dX8_ruleAt_16 : decode cX8_ruleAt 16 = .ok (.getfield 24, 3) := by decide +kernel
theorem dX8_ruleAt_19 : decode cX8_ruleAt 19 = .ok (.iload_n 1, 1) := by decide +kernel
theorem dX8_ruleAt_20 : decode cX8_ruleAt 20 = .ok (.invokevirtual 220, 3) := by decide +kernel
theorem dX8_ruleAt_23 : decode cX8_ruleAt 23 = .ok (.checkcast 153, 3) := by decide +kernel
theorem dX8_ruleAt_26 : decode cX8_ruleAt 26 = .ok (.goto 4, 3) := by decide +kernel
theorem dX8_ruleAt_29 : decode cX8_ruleAt 29 = .ok (.aconst_null, 1) := by decide +kernel
theorem dX8_ruleAt_30 : decode cX8_ruleAt 30 = .ok (.areturn, 1) := by decide +kernel
theorem dX8_tapeAt_0 : decode cX8_tapeAt 0 = .ok (.iload_n 1, 1) := by decide +kernel
theorem dX8_tapeAt_1 : decode cX8_tapeAt 1 = .ok (.ifCond .lt 21, 3) := by decide +kernel
theorem dX8_tapeAt_4 : decode cX8_tapeAt 4 = .ok (.iload_n 1, 1) := by decide +kernel
theorem dX8_tapeAt_5 : decode cX8_tapeAt 5 = .ok (.aload_n 0, 1) := by decide +kernel
theorem dX8_tapeAt_6 : decode cX8_tapeAt 6 = .ok (.getfield 46, 3) := by decide +kernel
theorem dX8_tapeAt_9 : decode cX8_tapeAt 9 = .ok (.arraylength, 1) := by decide +kernel
theorem dX8_tapeAt_10 : decode cX8_tapeAt 10 = .ok (.if_icmp .ge 12, 3) := by decide +kernel
theorem dX8_tapeAt_13 : decode cX8_tapeAt 13 = .ok (.aload_n 0, 1) := by decide +kernel
theorem dX8_tapeAt_14 : decode cX8_tapeAt 14 = .ok (.getfield 46, 3) := by decide +kernel
theorem dX8_tapeAt_17 : decode cX8_tapeAt 17 = .ok (.iload_n 1, 1) := by decide +kernel
theorem dX8_tapeAt_18 : decode cX8_tapeAt 18 = .ok (.aaload, 1) := by decide +kernel
theorem dX8_tapeAt_19 : decode cX8_tapeAt 19 = .ok (.goto 4, 3) := by decide +kernel
theorem dX8_tapeAt_22 : decode cX8_tapeAt 22 = .ok (.aconst_null, 1) := by decide +kernel
theorem dX8_tapeAt_23 : decode cX8_tapeAt 23 = .ok (.areturn, 1) := by decide +kernel
set_option maxRecDepth 20000 in
theorem ggX8_allWords_Jx4a65c_size_8abf5 : GoodIn wsX8_allWords wsJx4a65c_size_8abf5 := goodIn_r _ [6, 7, 18, 19, 20] (by decide +kernel) (by decide +kernel)
set_option maxRecDepth 20000 in
theorem gX8_allWords_Jx4a65c_size_8abf5 : GoodIn wsX8_allWords (wsV RX8 80 RJx4a65c yJx4a65c_size_8abf5 wsJx4a65c_size_8abf5) := goodIn_app (goodIn_of _ (by decide +kernel)) ggX8_allWords_Jx4a65c_size_8abf5
theorem dX8_allWords_0 : decode cX8_allWords 0 = .ok (.iconst 1, 1) := by decide +kernel
theorem dX8_allWords_1 : decode cX8_allWords 1 = .ok (.aload_n 0, 1) := by decide +kernel
theorem dX8_allWords_2 : decode cX8_allWords 2 = .ok (.getfield 20, 3) := by decide +kernel
theorem dX8_allWords_5 : decode cX8_allWords 5 = .ok (.invokevirtual 80, 3) := by decide +kernel
theorem dX8_allWords_8 : decode cX8_allWords 8 = .ok (.ishl, 1) := by decide +kernel
theorem dX8_allWords_9 : decode cX8_allWords 9 = .ok (.iconst 1, 1) := by decide +kernel
theorem dX8_allWords_10 : decode cX8_allWords 10 = .ok (.isub, 1) := by decide +kernel
theorem dX8_allWords_11 : decode cX8_allWords 11 = .ok (.ireturn, 1) := by decide +kernel
set_option maxRecDepth 20000 in
theorem ggX8_withParts_Jx4a65c_size_8abf5 : GoodIn wsX8_withParts wsJx4a65c_size_8abf5 := goodIn_r _ [8, 9, 48, 49, 50] (by decide +kernel) (by decide +kernel)
set_option maxRecDepth 20000 in
theorem gX8_withParts_Jx4a65c_size_8abf5 : GoodIn wsX8_withParts (wsV RX8 80 RJx4a65c yJx4a65c_size_8abf5 wsJx4a65c_size_8abf5) := goodIn_app (goodIn_of _ (by decide +kernel)) ggX8_withParts_Jx4a65c_size_8abf5
set_option maxRecDepth 20000 in
theorem ggX8_withParts_X8_has : GoodIn wsX8_withParts wsX8_has := goodIn_r _ [13] (by decide +kernel) (by decide +kernel)
set_option maxRecDepth 20000 in
theorem gX8_withParts_X8_has : GoodIn wsX8_withParts (va_wsS RX8 105 yX8_has wsX8_has) := goodIn_app (goodIn_of _ (by decide +kernel)) ggX8_withParts_X8_has
set_option maxRecDepth 20000 in
theorem ggX8_withParts_Jx4a65c_get_915e3 : GoodIn wsX8_withParts wsJx4a65c_get_915e3 := goodIn_r _ [17, 9, 18, 19, 20, 21, 22, 23, 24, 25, 26, 27, 28, 7, 29, 30, 48, 49, 50] (by decide +kernel) (by decide +kernel)
set_option maxRecDepth 20000 in
theorem gX8_withParts_Jx4a65c_get_915e3 : GoodIn wsX8_withParts (wsV RX8 220 RJx4a65c yJx4a65c_get_915e3 wsJx4a65c_get_915e3) := goodIn_app (goodIn_of _ (by decide +kernel)) ggX8_withParts_Jx4a65c_get_915e3
theorem dX8_withParts_0 : decode cX8_withParts 0 = .ok (.iload_n 1, 1) := by decide +kernel
theorem dX8_withParts_1 : decode cX8_withParts 1 = .ok (.istore_n 2, 1) := by decide +kernel
theorem dX8_withParts_2 : decode cX8_withParts 2 = .ok (.aload_n 0, 1) := by decide +kernel
theorem dX8_withParts_3 : decode cX8_withParts 3 = .ok (.getfield 20, 3) := by decide +kernel
theorem dX8_withParts_6 : decode cX8_withParts 6 = .ok (.invokevirtual 80, 3) := by decide +kernel
theorem dX8_withParts_9 : decode cX8_withParts 9 = .ok (.iconst 1, 1) := by decide +kernel
theorem dX8_withParts_10 : decode cX8_withParts 10 = .ok (.isub, 1) := by decide +kernel
theorem dX8_withParts_11 : decode cX8_withParts 11 = .ok (.istore_n 3, 1) := by decide +kernel
theorem dX8_withParts_12 : decode cX8_withParts 12 = .ok (.iload_n 3, 1) := by decide +kernel
theorem dX8_withParts_13 : decode cX8_withParts 13 = .ok (.ifCond .lt 34, 3) := by decide +kernel
theorem dX8_withParts_16 : decode cX8_withParts 16 = .ok (.iload_n 2, 1) := by decide +kernel
theorem dX8_withParts_17 : decode cX8_withParts 17 = .ok (.iload_n 3, 1) := by decide +kernel
theorem dX8_withParts_18 : decode cX8_withParts 18 = .ok (.invokestatic 105, 3) := by decide +kernel
theorem dX8_withParts_21 : decode cX8_withParts 21 = .ok (.ifCond .eq 20, 3) := by decide +kernel
theorem dX8_withParts_24 : decode cX8_withParts 24 = .ok (.iload_n 2, 1) := by decide +kernel
theorem dX8_withParts_25 : decode cX8_withParts 25 = .ok (.aload_n 0, 1) := by decide +kernel
theorem dX8_withParts_26 : decode cX8_withParts 26 = .ok (.getfield 20, 3) := by decide +kernel
theorem dX8_withParts_29 : decode cX8_withParts 29 = .ok (.iload_n 3, 1) := by decide +kernel
theorem dX8_withParts_30 : decode cX8_withParts 30 = .ok (.invokevirtual 220, 3) := by decide +kernel
theorem dX8_withParts_33 : decode cX8_withParts 33 = .ok (.checkcast 84, 3) := by decide +kernel
theorem dX8_withParts_36 : decode cX8_withParts 36 = .ok (.getfield 102, 3) := by decide +kernel
theorem dX8_withParts_39 : decode cX8_withParts 39 = .ok (.ior, 1) := by decide +kernel
theorem dX8_withParts_40 : decode cX8_withParts 40 = .ok (.istore_n 2, 1) := by decide +kernel
theorem dX8_withParts_41 : decode cX8_withParts 41 = .ok (.iinc 3 (-1), 3) := by decide +kernel
theorem dX8_withParts_44 : decode cX8_withParts 44 = .ok (.goto (-32), 3) := by decide +kernel
theorem dX8_withParts_47 : decode cX8_withParts 47 = .ok (.iload_n 2, 1) := by decide +kernel
theorem dX8_withParts_48 : decode cX8_withParts 48 = .ok (.ireturn, 1) := by decide +kernel
set_option maxRecDepth 20000 in
theorem ggX8_factsOf_Jx4a65c_size_8abf5 : GoodIn wsX8_factsOf wsJx4a65c_size_8abf5 := goodIn_r _ [8, 9, 48, 49, 50] (by decide +kernel) (by decide +kernel)
set_option maxRecDepth 20000 in
theorem gX8_factsOf_Jx4a65c_size_8abf5 : GoodIn wsX8_factsOf (wsV RX8 80 RJx4a65c yJx4a65c_size_8abf5 wsJx4a65c_size_8abf5) := goodIn_app (goodIn_of _ (by decide +kernel)) ggX8_factsOf_Jx4a65c_size_8abf5
set_option maxRecDepth 20000 in
theorem ggX8_factsOf_X8_has : GoodIn wsX8_factsOf wsX8_has := goodIn_r _ [13] (by decide +kernel) (by decide +kernel)
set_option maxRecDepth 20000 in
theorem gX8_factsOf_X8_has : GoodIn wsX8_factsOf (va_wsS RX8 105 yX8_has wsX8_has) := goodIn_app (goodIn_of _ (by decide +kernel)) ggX8_factsOf_X8_has
set_option maxRecDepth 20000 in
theorem ggX8_factsOf_Jx4a65c_get_915e3 : GoodIn wsX8_factsOf wsJx4a65c_get_915e3 := goodIn_r _ [17, 9, 18, 19, 20, 21, 22, 23, 24, 25, 26, 27, 28, 7, 29, 30, 48, 49, 50] (by decide +kernel) (by decide +kernel)
set_option maxRecDepth 20000 in
theorem gX8_factsOf_Jx4a65c_get_915e3 : GoodIn wsX8_factsOf (wsV RX8 220 RJx4a65c yJx4a65c_get_915e3 wsJx4a65c_get_915e3) := goodIn_app (goodIn_of _ (by decide +kernel)) ggX8_factsOf_Jx4a65c_get_915e3
theorem dX8_factsOf_0 : decode cX8_factsOf 0 = .ok (.iconst 0, 1) := by decide +kernel
theorem dX8_factsOf_1 : decode cX8_factsOf 1 = .ok (.istore_n 2, 1) := by decide +kernel
theorem dX8_factsOf_2 : decode cX8_factsOf 2 = .ok (.iconst 0, 1) := by decide +kernel
theorem dX8_factsOf_3 : decode cX8_factsOf 3 = .ok (.istore_n 3, 1) := by decide +kernel
theorem dX8_factsOf_4 : decode cX8_factsOf 4 = .ok (.iload_n 3, 1) := by decide +kernel
theorem dX8_factsOf_5 : decode cX8_factsOf 5 = .ok (.aload_n 0, 1) := by decide +kernel
theorem dX8_factsOf_6 : decode cX8_factsOf 6 = .ok (.getfield 20, 3) := by decide +kernel
theorem dX8_factsOf_9 : decode cX8_factsOf 9 = .ok (.invokevirtual 80, 3) := by decide +kernel
theorem dX8_factsOf_12 : decode cX8_factsOf 12 = .ok (.if_icmp .ge 34, 3) := by decide +kernel
theorem dX8_factsOf_15 : decode cX8_factsOf 15 = .ok (.iload_n 1, 1) := by decide +kernel
theorem dX8_factsOf_16 : decode cX8_factsOf 16 = .ok (.iload_n 3, 1) := by decide +kernel
theorem dX8_factsOf_17 : decode cX8_factsOf 17 = .ok (.invokestatic 105, 3) := by decide +kernel
theorem dX8_factsOf_20 : decode cX8_factsOf 20 = .ok (.ifCond .eq 20, 3) := by decide +kernel
theorem dX8_factsOf_23 : decode cX8_factsOf 23 = .ok (.iload_n 2, 1) := by decide +kernel
theorem dX8_factsOf_24 : decode cX8_factsOf 24 = .ok (.aload_n 0, 1) := by decide +kernel
theorem dX8_factsOf_25 : decode cX8_factsOf 25 = .ok (.getfield 20, 3) := by decide +kernel
theorem dX8_factsOf_28 : decode cX8_factsOf 28 = .ok (.iload_n 3, 1) := by decide +kernel
theorem dX8_factsOf_29 : decode cX8_factsOf 29 = .ok (.invokevirtual 220, 3) := by decide +kernel
theorem dX8_factsOf_32 : decode cX8_factsOf 32 = .ok (.checkcast 84, 3) := by decide +kernel
theorem dX8_factsOf_35 : decode cX8_factsOf 35 = .ok (.getfield 121, 3) := by decide +kernel
theorem dX8_factsOf_38 : decode cX8_factsOf 38 = .ok (.ior, 1) := by decide +kernel
theorem dX8_factsOf_39 : decode cX8_factsOf 39 = .ok (.istore_n 2, 1) := by decide +kernel
theorem dX8_factsOf_40 : decode cX8_factsOf 40 = .ok (.iinc 3 1, 3) := by decide +kernel
theorem dX8_factsOf_43 : decode cX8_factsOf 43 = .ok (.goto (-39), 3) := by decide +kernel
theorem dX8_factsOf_46 : decode cX8_factsOf 46 = .ok (.iload_n 2, 1) := by decide +kernel
theorem dX8_factsOf_47 : decode cX8_factsOf 47 = .ok (.ireturn, 1) := by decide +kernel
theorem dX8_suppose_0 : decode cX8_suppose 0 = .ok (.aload_n 0, 1) := by decide +kernel
theorem dX8_suppose_1 : decode cX8_suppose 1 = .ok (.getfield 41, 3) := by decide +kernel
theorem dX8_suppose_4 : decode cX8_suppose 4 = .ok (.iload_n 1, 1) := by decide +kernel
theorem dX8_suppose_5 : decode cX8_suppose 5 = .ok (.putfield 128, 3) := by decide +kernel
theorem dX8_suppose_8 : decode cX8_suppose 8 = .ok (.aload_n 0, 1) := by decide +kernel
theorem dX8_suppose_9 : decode cX8_suppose 9 = .ok (.getfield 41, 3) := by decide +kernel
theorem dX8_suppose_12 : decode cX8_suppose 12 = .ok (.iload_n 2, 1) := by decide +kernel
theorem dX8_suppose_13 : decode cX8_suppose 13 = .ok (.putfield 145, 3) := by decide +kernel
theorem dX8_suppose_16 : decode cX8_suppose 16 = .ok (.aload_n 0, 1) := by decide +kernel
theorem dX8_suppose_17 : decode cX8_suppose 17 = .ok (.getfield 41, 3) := by decide +kernel
theorem dX8_suppose_20 : decode cX8_suppose 20 = .ok (.iload_n 3, 1) := by decide +kernel
theorem dX8_suppose_21 : decode cX8_suppose 21 = .ok (.putfield 305, 3) := by decide +kernel
theorem dX8_suppose_24 : decode cX8_suppose 24 = .ok (.aload_n 0, 1) := by decide +kernel
theorem dX8_suppose_25 : decode cX8_suppose 25 = .ok (.getfield 41, 3) := by decide +kernel
theorem dX8_suppose_28 : decode cX8_suppose 28 = .ok (.areturn, 1) := by decide +kernel
set_option maxRecDepth 20000 in
theorem ggX8_keeper_Jx4a65c_size_8abf5 : GoodIn wsX8_keeper wsJx4a65c_size_8abf5 := goodIn_r _ [8, 9, 96, 97, 98] (by decide +kernel) (by decide +kernel)
set_option maxRecDepth 20000 in
theorem gX8_keeper_Jx4a65c_size_8abf5 : GoodIn wsX8_keeper (wsV RX8 80 RJx4a65c yJx4a65c_size_8abf5 wsJx4a65c_size_8abf5) := goodIn_app (goodIn_of _ (by decide +kernel)) ggX8_keeper_Jx4a65c_size_8abf5
set_option maxRecDepth 20000 in
theorem ggX8_keeper_Jx4a65c_get_915e3 : GoodIn wsX8_keeper wsJx4a65c_get_915e3 := goodIn_r _ [13, 9, 14, 15, 16, 17, 18, 19, 20, 21, 22, 23, 24, 7, 25, 26, 96, 97, 98] (by decide +kernel) (by decide +kernel)
set_option maxRecDepth 20000 in
theorem gX8_keeper_Jx4a65c_get_915e3 : GoodIn wsX8_keeper (wsV RX8 220 RJx4a65c yJx4a65c_get_915e3 wsJx4a65c_get_915e3) := goodIn_app (goodIn_of _ (by decide +kernel)) ggX8_keeper_Jx4a65c_get_915e3
set_option maxRecDepth 20000 in
theorem ggX8_keeper_X4_holding : GoodIn wsX8_keeper wsX4_holding := goodIn_r _ [31, 32, 33, 34, 35, 36, 37, 38, 39, 40, 41, 42, 43, 44, 45, 5, 6, 7, 8, 9, 46, 11, 12, 13, 14, 15, 16, 17, 18, 19, 20, 21, 22, 23, 24, 25, 26, 47, 48, 49, 50, 51, 52, 53, 54, 55, 56, 57, 58, 59, 60, 99, 100, 101, 102, 103, 104, 105, 106, 107, 108, 109, 110, 111, 89, 90, 91, 92, 93, 94, 95, 96, 97, 98, 112, 113, 114] (by decide +kernel) (by decide +kernel)
set_option maxRecDepth 20000 in
theorem gX8_keeper_X4_holding : GoodIn wsX8_keeper (wsV RX8 152 RX4 yX4_holding wsX4_holding) := goodIn_app (goodIn_of _ (by decide +kernel)) ggX8_keeper_X4_holding
set_option maxRecDepth 20000 in
theorem ggX8_keeper_X4_keepsOut : GoodIn wsX8_keeper wsX4_keepsOut := goodIn_r _ [64, 65, 66, 67, 68, 69, 70, 71, 72, 73, 74, 75, 30, 76, 35, 36, 77, 37, 78, 45, 5, 6, 7, 8, 9, 46, 11, 12, 13, 14, 15, 16, 17, 18, 19, 20, 21, 22, 23, 24, 25, 26, 89, 90, 91, 92, 93, 94, 95, 109, 110, 111, 112, 113, 114, 96, 97, 98] (by decide +kernel) (by decide +kernel)
set_option maxRecDepth 20000 in
theorem gX8_keeper_X4_keepsOut : GoodIn wsX8_keeper (wsV RX8 158 RX4 yX4_keepsOut wsX4_keepsOut) := goodIn_app (goodIn_of _ (by decide +kernel)) ggX8_keeper_X4_keepsOut
theorem dX8_keeper_0 : decode cX8_keeper 0 = .ok (.iconst 0, 1) := by decide +kernel
theorem dX8_keeper_1 : decode cX8_keeper 1 = .ok (.istore 5, 2) := by decide +kernel
theorem dX8_keeper_3 : decode cX8_keeper 3 = .ok (.iload 5, 2) := by decide +kernel
theorem dX8_keeper_5 : decode cX8_keeper 5 = .ok (.aload_n 0, 1) := by decide +kernel
theorem dX8_keeper_6 : decode cX8_keeper 6 = .ok (.getfield 24, 3) := by decide +kernel
theorem dX8_keeper_9 : decode cX8_keeper 9 = .ok (.invokevirtual 80, 3) := by decide +kernel
theorem dX8_keeper_12 : decode cX8_keeper 12 = .ok (.if_icmp .ge 54, 3) := by decide +kernel
theorem dX8_keeper_15 : decode cX8_keeper 15 = .ok (.aload_n 0, 1) := by decide +kernel
theorem dX8_keeper_16 : decode cX8_keeper 16 = .ok (.getfield 24, 3) := by decide +kernel
theorem dX8_keeper_19 : decode cX8_keeper 19 = .ok (.iload 5, 2) := by decide +kernel
theorem dX8_keeper_21 : decode cX8_keeper 21 = .ok (.invokevirtual 220, 3) := by decide +kernel
theorem dX8_keeper_24 : decode cX8_keeper 24 = .ok (.checkcast 153, 3) := by decide +kernel
theorem dX8_keeper_27 : decode cX8_keeper 27 = .ok (.astore 6, 2) := by decide +kernel
theorem dX8_keeper_29 : decode cX8_keeper 29 = .ok (.aload 6, 2) := by decide +kernel
theorem dX8_keeper_31 : decode cX8_keeper 31 = .ok (.getfield 224, 3) := by decide +kernel
theorem dX8_keeper_34 : decode cX8_keeper 34 = .ok (.iload_n 3, 1) := by decide +kernel
theorem dX8_keeper_35 : decode cX8_keeper 35 = .ok (.if_icmp .ne 25, 3) := by decide +kernel
theorem dX8_keeper_38 : decode cX8_keeper 38 = .ok (.aload 6, 2) := by decide +kernel
theorem dX8_keeper_40 : decode cX8_keeper 40 = .ok (.aload 6, 2) := by decide +kernel
theorem dX8_keeper_42 : decode cX8_keeper 42 = .ok (.aload_n 1, 1) := by decide +kernel
theorem dX8_keeper_43 : decode cX8_keeper 43 = .ok (.iload_n 2, 1) := by decide +kernel
theorem dX8_keeper_44 : decode cX8_keeper 44 = .ok (.aload 4, 2) := by decide +kernel
theorem dX8_keeper_46 : decode cX8_keeper 46 = .ok (.invokevirtual 152, 3) := by decide +kernel
theorem dX8_keeper_49 : decode cX8_keeper 49 = .ok (.aload 4, 2) := by decide +kernel
theorem dX8_keeper_51 : decode cX8_keeper 51 = .ok (.invokevirtual 158, 3) := by decide +kernel
theorem dX8_keeper_54 : decode cX8_keeper 54 = .ok (.ifCond .eq 6, 3) := by decide +kernel
theorem dX8_keeper_57 : decode cX8_keeper 57 = .ok (.iload 5, 2) := by decide +kernel
theorem dX8_keeper_59 : decode cX8_keeper 59 = .ok (.ireturn, 1) := by decide +kernel
theorem dX8_keeper_60 : decode cX8_keeper 60 = .ok (.iinc 5 1, 3) := by decide +kernel
theorem dX8_keeper_63 : decode cX8_keeper 63 = .ok (.goto (-60), 3) := by decide +kernel
theorem dX8_keeper_66 : decode cX8_keeper 66 = .ok (.iconst (-1), 1) := by decide +kernel
theorem dX8_keeper_67 : decode cX8_keeper 67 = .ok (.ireturn, 1) := by decide +kernel
set_option maxRecDepth 20000 in
theorem ggX8_heardToPartsEnd_Jx4a65c_size_8abf5 : GoodIn wsX8_heardToPartsEnd wsJx4a65c_size_8abf5 := goodIn_r _ [8, 9, 104, 105, 106] (by decide +kernel) (by decide +kernel)
set_option maxRecDepth 20000 in
theorem gX8_heardToPartsEnd_Jx4a65c_size_8abf5 : GoodIn wsX8_heardToPartsEnd (wsV RX8 80 RJx4a65c yJx4a65c_size_8abf5 wsJx4a65c_size_8abf5) := goodIn_app (goodIn_of _ (by decide +kernel)) ggX8_heardToPartsEnd_Jx4a65c_size_8abf5
set_option maxRecDepth 20000 in
theorem ggX8_heardToPartsEnd_Jx4a65c_get_915e3 : GoodIn wsX8_heardToPartsEnd wsJx4a65c_get_915e3 := goodIn_r _ [13, 9, 14, 15, 16, 17, 18, 19, 20, 21, 22, 23, 24, 7, 25, 26, 104, 105, 106] (by decide +kernel) (by decide +kernel)
set_option maxRecDepth 20000 in
theorem gX8_heardToPartsEnd_Jx4a65c_get_915e3 : GoodIn wsX8_heardToPartsEnd (wsV RX8 220 RJx4a65c yJx4a65c_get_915e3 wsJx4a65c_get_915e3) := goodIn_app (goodIn_of _ (by decide +kernel)) ggX8_heardToPartsEnd_Jx4a65c_get_915e3
set_option maxRecDepth 20000 in
theorem ggX8_heardToPartsEnd_X8_has : GoodIn wsX8_heardToPartsEnd wsX8_has := goodIn_r _ [30] (by decide +kernel) (by decide +kernel)
set_option maxRecDepth 20000 in
theorem gX8_heardToPartsEnd_X8_has : GoodIn wsX8_heardToPartsEnd (va_wsS RX8 105 yX8_has wsX8_has) := goodIn_app (goodIn_of _ (by decide +kernel)) ggX8_heardToPartsEnd_X8_has
set_option maxRecDepth 20000 in
theorem ggX8_heardToPartsEnd_X8_keeper : GoodIn wsX8_heardToPartsEnd wsX8_keeper := goodIn_r _ [34, 35, 36, 37, 4, 5, 6, 7, 8, 9, 10, 11, 12, 13, 14, 15, 16, 17, 18, 19, 20, 21, 22, 23, 24, 25, 26, 38, 39, 40, 41, 42, 43, 44, 45, 46, 47, 48, 49, 50, 51, 52, 53, 54, 55, 56, 57, 58, 59, 60, 61, 62, 63, 64, 65, 66, 67, 68, 69, 70, 71, 72, 73, 74, 75, 76, 77, 78, 79, 80, 28, 29, 30, 81, 82, 83, 84, 85, 86, 87, 88, 89, 90, 91, 92, 93, 94, 95, 96, 107, 108, 109, 110, 111, 112, 113, 104, 105, 106, 97, 98, 99, 100, 101, 102, 103, 114, 115, 116, 117, 118, 119, 120, 121, 122] (by decide +kernel) (by decide +kernel)
set_option maxRecDepth 20000 in
theorem gX8_heardToPartsEnd_X8_keeper : GoodIn wsX8_heardToPartsEnd (wsV RX8 173 RX8 yX8_keeper wsX8_keeper) := goodIn_app (goodIn_of _ (by decide +kernel)) ggX8_heardToPartsEnd_X8_keeper
theorem dX8_heardToPartsEnd_0 : decode cX8_heardToPartsEnd 0 = .ok (.iconst 0, 1) := by decide +kernel
theorem dX8_heardToPartsEnd_1 : decode cX8_heardToPartsEnd 1 = .ok (.istore 4, 2) := by decide +kernel
theorem dX8_heardToPartsEnd_3 : decode cX8_heardToPartsEnd 3 = .ok (.iconst 0, 1) := by decide +kernel
theorem dX8_heardToPartsEnd_4 : decode cX8_heardToPartsEnd 4 = .ok (.istore 5, 2) := by decide +kernel
theorem dX8_heardToPartsEnd_6 : decode cX8_heardToPartsEnd 6 = .ok (.iload 5, 2) := by decide +kernel
theorem dX8_heardToPartsEnd_8 : decode cX8_heardToPartsEnd 8 = .ok (.aload_n 0, 1) := by decide +kernel
theorem dX8_heardToPartsEnd_9 : decode cX8_heardToPartsEnd 9 = .ok (.getfield 20, 3) := by decide +kernel
theorem dX8_heardToPartsEnd_12 : decode cX8_heardToPartsEnd 12 = .ok (.invokevirtual 80, 3) := by decide +kernel
theorem dX8_heardToPartsEnd_15 : decode cX8_heardToPartsEnd 15 = .ok (.if_icmp .ge 66, 3) := by decide +kernel
theorem dX8_heardToPartsEnd_18 : decode cX8_heardToPartsEnd 18 = .ok (.aload_n 0, 1) := by decide +kernel
theorem dX8_heardToPartsEnd_19 : decode cX8_heardToPartsEnd 19 = .ok (.getfield 20, 3) := by decide +kernel
theorem dX8_heardToPartsEnd_22 : decode cX8_heardToPartsEnd 22 = .ok (.iload 5, 2) := by decide +kernel
theorem dX8_heardToPartsEnd_24 : decode cX8_heardToPartsEnd 24 = .ok (.invokevirtual 220, 3) := by decide +kernel
theorem dX8_heardToPartsEnd_27 : decode cX8_heardToPartsEnd 27 = .ok (.checkcast 84, 3) := by decide +kernel
theorem dX8_heardToPartsEnd_30 : decode cX8_heardToPartsEnd 30 = .ok (.astore 6, 2) := by decide +kernel
theorem dX8_heardToPartsEnd_32 : decode cX8_heardToPartsEnd 32 = .ok (.iload_n 1, 1) := by decide +kernel
theorem dX8_heardToPartsEnd_33 : decode cX8_heardToPartsEnd 33 = .ok (.iload 5, 2) := by decide +kernel
theorem dX8_heardToPartsEnd_35 : decode cX8_heardToPartsEnd 35 = .ok (.invokestatic 105, 3) := by decide +kernel
theorem dX8_heardToPartsEnd_38 : decode cX8_heardToPartsEnd 38 = .ok (.ifCond .eq 37, 3) := by decide +kernel
theorem dX8_heardToPartsEnd_41 : decode cX8_heardToPartsEnd 41 = .ok (.aload 6, 2) := by decide +kernel
theorem dX8_heardToPartsEnd_43 : decode cX8_heardToPartsEnd 43 = .ok (.getfield 102, 3) := by decide +kernel
theorem dX8_heardToPartsEnd_46 : decode cX8_heardToPartsEnd 46 = .ok (.iload 4, 2) := by decide +kernel
theorem dX8_heardToPartsEnd_48 : decode cX8_heardToPartsEnd 48 = .ok (.iconst (-1), 1) := by decide +kernel
theorem dX8_heardToPartsEnd_49 : decode cX8_heardToPartsEnd 49 = .ok (.ixor, 1) := by decide +kernel
theorem dX8_heardToPartsEnd_50 : decode cX8_heardToPartsEnd 50 = .ok (.iand, 1) := by decide +kernel
theorem dX8_heardToPartsEnd_51 : decode cX8_heardToPartsEnd 51 = .ok (.ifCond .ne 24, 3) := by decide +kernel
theorem dX8_heardToPartsEnd_54 : decode cX8_heardToPartsEnd 54 = .ok (.aload_n 0, 1) := by decide +kernel
theorem dX8_heardToPartsEnd_55 : decode cX8_heardToPartsEnd 55 = .ok (.aload 6, 2) := by decide +kernel
theorem dX8_heardToPartsEnd_57 : decode cX8_heardToPartsEnd 57 = .ok (.iconst 0, 1) := by decide +kernel
theorem dX8_heardToPartsEnd_58 : decode cX8_heardToPartsEnd 58 = .ok (.iload_n 2, 1) := by decide +kernel
theorem dX8_heardToPartsEnd_59 : decode cX8_heardToPartsEnd 59 = .ok (.aload_n 3, 1) := by decide +kernel
theorem dX8_heardToPartsEnd_60 : decode cX8_heardToPartsEnd 60 = .ok (.invokevirtual 173, 3) := by decide +kernel
theorem dX8_heardToPartsEnd_63 : decode cX8_heardToPartsEnd 63 = .ok (.ifCond .ge 12, 3) := by decide +kernel
theorem dX8_heardToPartsEnd_66 : decode cX8_heardToPartsEnd 66 = .ok (.iload 4, 2) := by decide +kernel
theorem dX8_heardToPartsEnd_68 : decode cX8_heardToPartsEnd 68 = .ok (.iconst 1, 1) := by decide +kernel
theorem dX8_heardToPartsEnd_69 : decode cX8_heardToPartsEnd 69 = .ok (.iload 5, 2) := by decide +kernel
theorem dX8_heardToPartsEnd_71 : decode cX8_heardToPartsEnd 71 = .ok (.ishl, 1) := by decide +kernel
theorem dX8_heardToPartsEnd_72 : decode cX8_heardToPartsEnd 72 = .ok (.ior, 1) := by decide +kernel
theorem dX8_heardToPartsEnd_73 : decode cX8_heardToPartsEnd 73 = .ok (.istore 4, 2) := by decide +kernel
theorem dX8_heardToPartsEnd_75 : decode cX8_heardToPartsEnd 75 = .ok (.iinc 5 1, 3) := by decide +kernel
theorem dX8_heardToPartsEnd_78 : decode cX8_heardToPartsEnd 78 = .ok (.goto (-72), 3) := by decide +kernel
theorem dX8_heardToPartsEnd_81 : decode cX8_heardToPartsEnd 81 = .ok (.iload 4, 2) := by decide +kernel
theorem dX8_heardToPartsEnd_83 : decode cX8_heardToPartsEnd 83 = .ok (.ireturn, 1) := by decide +kernel
set_option maxRecDepth 20000 in
theorem ggX8_heardTo_Jx4a65c_size_8abf5 : GoodIn wsX8_heardTo wsJx4a65c_size_8abf5 := goodIn_r _ [8, 9, 103, 104, 105] (by decide +kernel) (by decide +kernel)
set_option maxRecDepth 20000 in
theorem gX8_heardTo_Jx4a65c_size_8abf5 : GoodIn wsX8_heardTo (wsV RX8 80 RJx4a65c yJx4a65c_size_8abf5 wsJx4a65c_size_8abf5) := goodIn_app (goodIn_of _ (by decide +kernel)) ggX8_heardTo_Jx4a65c_size_8abf5
set_option maxRecDepth 20000 in
theorem ggX8_heardTo_Jx4a65c_get_915e3 : GoodIn wsX8_heardTo wsJx4a65c_get_915e3 := goodIn_r _ [13, 9, 14, 15, 16, 17, 18, 19, 20, 21, 22, 23, 24, 7, 25, 26, 103, 104, 105] (by decide +kernel) (by decide +kernel)
set_option maxRecDepth 20000 in
theorem gX8_heardTo_Jx4a65c_get_915e3 : GoodIn wsX8_heardTo (wsV RX8 220 RJx4a65c yJx4a65c_get_915e3 wsJx4a65c_get_915e3) := goodIn_app (goodIn_of _ (by decide +kernel)) ggX8_heardTo_Jx4a65c_get_915e3
set_option maxRecDepth 20000 in
theorem ggX8_heardTo_X8_keeper : GoodIn wsX8_heardTo wsX8_keeper := goodIn_r _ [31, 32, 33, 34, 4, 5, 6, 7, 8, 9, 10, 11, 12, 13, 14, 15, 16, 17, 18, 19, 20, 21, 22, 23, 24, 25, 26, 35, 36, 37, 38, 39, 40, 41, 42, 43, 44, 45, 46, 47, 48, 49, 50, 51, 52, 53, 54, 55, 56, 57, 58, 59, 60, 61, 62, 63, 64, 65, 66, 67, 68, 69, 70, 71, 72, 73, 74, 75, 76, 77, 78, 30, 79, 80, 81, 82, 83, 84, 85, 86, 87, 88, 89, 90, 91, 92, 93, 94, 95, 106, 107, 108, 109, 110, 111, 112, 103, 104, 105, 96, 97, 98, 99, 100, 101, 102, 113, 114, 115, 116, 117, 118, 119, 120, 121] (by decide +kernel) (by decide +kernel)
set_option maxRecDepth 20000 in
theorem gX8_heardTo_X8_keeper : GoodIn wsX8_heardTo (wsV RX8 173 RX8 yX8_keeper wsX8_keeper) := goodIn_app (goodIn_of _ (by decide +kernel)) ggX8_heardTo_X8_keeper
theorem dX8_heardTo_0 : decode cX8_heardTo 0 = .ok (.iload_n 1, 1) := by decide +kernel
theorem dX8_heardTo_1 : decode cX8_heardTo 1 = .ok (.ifCond .ne 6, 3) := by decide +kernel
theorem dX8_heardTo_4 : decode cX8_heardTo 4 = .ok (.iload 4, 2) := by decide +kernel
theorem dX8_heardTo_6 : decode cX8_heardTo 6 = .ok (.ireturn, 1) := by decide +kernel
theorem dX8_heardTo_7 : decode cX8_heardTo 7 = .ok (.iconst 0, 1) := by decide +kernel
theorem dX8_heardTo_8 : decode cX8_heardTo 8 = .ok (.istore 5, 2) := by decide +kernel
theorem dX8_heardTo_10 : decode cX8_heardTo 10 = .ok (.iconst 0, 1) := by decide +kernel
theorem dX8_heardTo_11 : decode cX8_heardTo 11 = .ok (.istore 6, 2) := by decide +kernel
theorem dX8_heardTo_13 : decode cX8_heardTo 13 = .ok (.iload 6, 2) := by decide +kernel
theorem dX8_heardTo_15 : decode cX8_heardTo 15 = .ok (.aload_n 0, 1) := by decide +kernel
theorem dX8_heardTo_16 : decode cX8_heardTo 16 = .ok (.getfield 20, 3) := by decide +kernel
theorem dX8_heardTo_19 : decode cX8_heardTo 19 = .ok (.invokevirtual 80, 3) := by decide +kernel
theorem dX8_heardTo_22 : decode cX8_heardTo 22 = .ok (.if_icmp .ge 74, 3) := by decide +kernel
theorem dX8_heardTo_25 : decode cX8_heardTo 25 = .ok (.aload_n 0, 1) := by decide +kernel
theorem dX8_heardTo_26 : decode cX8_heardTo 26 = .ok (.getfield 20, 3) := by decide +kernel
theorem dX8_heardTo_29 : decode cX8_heardTo 29 = .ok (.iload 6, 2) := by decide +kernel
theorem dX8_heardTo_31 : decode cX8_heardTo 31 = .ok (.invokevirtual 220, 3) := by decide +kernel
theorem dX8_heardTo_34 : decode cX8_heardTo 34 = .ok (.checkcast 84, 3) := by decide +kernel
theorem dX8_heardTo_37 : decode cX8_heardTo 37 = .ok (.astore 7, 2) := by decide +kernel
theorem dX8_heardTo_39 : decode cX8_heardTo 39 = .ok (.iload_n 1, 1) := by decide +kernel
theorem dX8_heardTo_40 : decode cX8_heardTo 40 = .ok (.iconst 1, 1) := by decide +kernel
theorem dX8_heardTo_41 : decode cX8_heardTo 41 = .ok (.if_icmp .eq 16, 3) := by decide +kernel
theorem dX8_heardTo_44 : decode cX8_heardTo 44 = .ok (.aload 7, 2) := by decide +kernel
theorem dX8_heardTo_46 : decode cX8_heardTo 46 = .ok (.getfield 102, 3) := by decide +kernel
theorem dX8_heardTo_49 : decode cX8_heardTo 49 = .ok (.iload 4, 2) := by decide +kernel
theorem dX8_heardTo_51 : decode cX8_heardTo 51 = .ok (.iconst (-1), 1) := by decide +kernel
theorem dX8_heardTo_52 : decode cX8_heardTo 52 = .ok (.ixor, 1) := by decide +kernel
theorem dX8_heardTo_53 : decode cX8_heardTo 53 = .ok (.iand, 1) := by decide +kernel
theorem dX8_heardTo_54 : decode cX8_heardTo 54 = .ok (.ifCond .ne 7, 3) := by decide +kernel
theorem dX8_heardTo_57 : decode cX8_heardTo 57 = .ok (.iconst 1, 1) := by decide +kernel
theorem dX8_heardTo_58 : decode cX8_heardTo 58 = .ok (.goto 4, 3) := by decide +kernel
theorem dX8_heardTo_61 : decode cX8_heardTo 61 = .ok (.iconst 0, 1) := by decide +kernel
theorem dX8_heardTo_62 : decode cX8_heardTo 62 = .ok (.istore 8, 2) := by decide +kernel
theorem dX8_heardTo_64 : decode cX8_heardTo 64 = .ok (.iload 8, 2) := by decide +kernel
theorem dX8_heardTo_66 : decode cX8_heardTo 66 = .ok (.ifCond .eq 24, 3) := by decide +kernel
theorem dX8_heardTo_69 : decode cX8_heardTo 69 = .ok (.aload_n 0, 1) := by decide +kernel
theorem dX8_heardTo_70 : decode cX8_heardTo 70 = .ok (.aload 7, 2) := by decide +kernel
theorem dX8_heardTo_72 : decode cX8_heardTo 72 = .ok (.iload_n 1, 1) := by decide +kernel
theorem dX8_heardTo_73 : decode cX8_heardTo 73 = .ok (.iload_n 2, 1) := by decide +kernel
theorem dX8_heardTo_74 : decode cX8_heardTo 74 = .ok (.aload_n 3, 1) := by decide +kernel
theorem dX8_heardTo_75 : decode cX8_heardTo 75 = .ok (.invokevirtual 173, 3) := by decide +kernel
theorem dX8_heardTo_78 : decode cX8_heardTo 78 = .ok (.ifCond .ge 12, 3) := by decide +kernel
theorem dX8_heardTo_81 : decode cX8_heardTo 81 = .ok (.iload 5, 2) := by decide +kernel
theorem dX8_heardTo_83 : decode cX8_heardTo 83 = .ok (.iconst 1, 1) := by decide +kernel
theorem dX8_heardTo_84 : decode cX8_heardTo 84 = .ok (.iload 6, 2) := by decide +kernel
theorem dX8_heardTo_86 : decode cX8_heardTo 86 = .ok (.ishl, 1) := by decide +kernel
theorem dX8_heardTo_87 : decode cX8_heardTo 87 = .ok (.ior, 1) := by decide +kernel
theorem dX8_heardTo_88 : decode cX8_heardTo 88 = .ok (.istore 5, 2) := by decide +kernel
theorem dX8_heardTo_90 : decode cX8_heardTo 90 = .ok (.iinc 6 1, 3) := by decide +kernel
theorem dX8_heardTo_93 : decode cX8_heardTo 93 = .ok (.goto (-80), 3) := by decide +kernel
theorem dX8_heardTo_96 : decode cX8_heardTo 96 = .ok (.iload 5, 2) := by decide +kernel
theorem dX8_heardTo_98 : decode cX8_heardTo 98 = .ok (.ireturn, 1) := by decide +kernel
set_option maxRecDepth 20000 in
theorem ggX8_isHeard_X8_keeper : GoodIn wsX8_isHeard wsX8_keeper := goodIn_r _ [8, 9, 10, 11, 12, 13, 14, 15, 16, 17, 18, 19, 20, 21, 22, 23, 24, 25, 26, 27, 28, 29, 30, 31, 32, 33, 34, 35, 36, 37, 38, 39, 40, 41, 42, 43, 44, 45, 46, 47, 48, 49, 50, 51, 52, 53, 54, 55, 56, 57, 58, 59, 60, 61, 62, 63, 64, 65, 66, 67, 68, 69, 70, 71, 72, 73, 74, 75, 76, 77, 78, 7, 79, 80, 81, 82, 83, 84, 85, 98, 99, 100, 101, 102, 103, 104, 105, 106, 107, 108, 109, 110, 111, 112, 113, 114, 115, 116, 117, 91, 92, 93, 94, 95, 96, 97, 118, 119, 120, 121, 122, 123, 124, 125, 126] (by decide +kernel) (by decide +kernel)
set_option maxRecDepth 20000 in
theorem gX8_isHeard_X8_keeper : GoodIn wsX8_isHeard (wsV RX8 173 RX8 yX8_keeper wsX8_keeper) := goodIn_app (goodIn_of _ (by decide +kernel)) ggX8_isHeard_X8_keeper
set_option maxRecDepth 20000 in
theorem ggX8_isHeard_X8_withParts : GoodIn wsX8_isHeard wsX8_withParts := goodIn_r _ [89, 2, 3, 1, 12, 13, 14, 15, 16, 17, 90, 78, 7, 79, 18, 19, 20, 21, 22, 23, 24, 25, 26, 27, 28, 29, 30, 31, 32, 33, 34, 98, 99, 100, 101, 102, 103, 104, 105, 106, 107, 91, 92, 93, 94, 95, 96, 97, 115, 116, 117] (by decide +kernel) (by decide +kernel)
set_option maxRecDepth 20000 in
theorem gX8_isHeard_X8_withParts : GoodIn wsX8_isHeard (wsV RX8 177 RX8 yX8_withParts wsX8_withParts) := goodIn_app (goodIn_of _ (by decide +kernel)) ggX8_isHeard_X8_withParts
set_option maxRecDepth 20000 in
theorem ggX8_isHeard_Jx4a65c_size_8abf5 : GoodIn wsX8_isHeard wsJx4a65c_size_8abf5 := goodIn_r _ [16, 17, 115, 116, 117] (by decide +kernel) (by decide +kernel)
set_option maxRecDepth 20000 in
theorem gX8_isHeard_Jx4a65c_size_8abf5 : GoodIn wsX8_isHeard (wsV RX8 80 RJx4a65c yJx4a65c_size_8abf5 wsJx4a65c_size_8abf5) := goodIn_app (goodIn_of _ (by decide +kernel)) ggX8_isHeard_Jx4a65c_size_8abf5
set_option maxRecDepth 20000 in
theorem ggX8_isHeard_X8_has : GoodIn wsX8_isHeard wsX8_has := goodIn_r _ [79] (by decide +kernel) (by decide +kernel)
set_option maxRecDepth 20000 in
theorem gX8_isHeard_X8_has : GoodIn wsX8_isHeard (va_wsS RX8 105 yX8_has wsX8_has) := goodIn_app (goodIn_of _ (by decide +kernel)) ggX8_isHeard_X8_has
set_option maxRecDepth 20000 in
theorem ggX8_isHeard_Jx4a65c_get_915e3 : GoodIn wsX8_isHeard wsJx4a65c_get_915e3 := goodIn_r _ [21, 17, 22, 23, 24, 25, 26, 27, 28, 29, 30, 31, 32, 15, 33, 34, 115, 116, 117] (by decide +kernel) (by decide +kernel)
set_option maxRecDepth 20000 in
theorem gX8_isHeard_Jx4a65c_get_915e3 : GoodIn wsX8_isHeard (wsV RX8 220 RJx4a65c yJx4a65c_get_915e3 wsJx4a65c_get_915e3) := goodIn_app (goodIn_of _ (by decide +kernel)) ggX8_isHeard_Jx4a65c_get_915e3
theorem dX8_isHeard_0 : decode cX8_isHeard 0 = .ok (.aload_n 0, 1) := by decide +kernel
theorem dX8_isHeard_1 : decode cX8_isHeard 1 = .ok (.aload_n 1, 1) := by decide +kernel
theorem dX8_isHeard_2 : decode cX8_isHeard 2 = .ok (.iload_n 2, 1) := by decide +kernel
theorem dX8_isHeard_3 : decode cX8_isHeard 3 = .ok (.iload_n 3, 1) := by decide +kernel
theorem dX8_isHeard_4 : decode cX8_isHeard 4 = .ok (.aload 4, 2) := by decide +kernel
theorem dX8_isHeard_6 : decode cX8_isHeard 6 = .ok (.invokevirtual 173, 3) := by decide +kernel
theorem dX8_isHeard_9 : decode cX8_isHeard 9 = .ok (.ifCond .lt 5, 3) := by decide +kernel
theorem dX8_isHeard_12 : decode cX8_isHeard 12 = .ok (.iconst 0, 1) := by decide +kernel
theorem dX8_isHeard_13 : decode cX8_isHeard 13 = .ok (.ireturn, 1) := by decide +kernel
theorem dX8_isHeard_14 : decode cX8_isHeard 14 = .ok (.iload_n 2, 1) := by decide +kernel
theorem dX8_isHeard_15 : decode cX8_isHeard 15 = .ok (.iconst 1, 1) := by decide +kernel
theorem dX8_isHeard_16 : decode cX8_isHeard 16 = .ok (.if_icmp .ne 7, 3) := by decide +kernel
theorem dX8_isHeard_19 : decode cX8_isHeard 19 = .ok (.iconst 0, 1) := by decide +kernel
theorem dX8_isHeard_20 : decode cX8_isHeard 20 = .ok (.goto 11, 3) := by decide +kernel
theorem dX8_isHeard_23 : decode cX8_isHeard 23 = .ok (.aload_n 0, 1) := by decide +kernel
theorem dX8_isHeard_24 : decode cX8_isHeard 24 = .ok (.aload_n 1, 1) := by decide +kernel
theorem dX8_isHeard_25 : decode cX8_isHeard 25 = .ok (.getfield 102, 3) := by decide +kernel
theorem dX8_isHeard_28 : decode cX8_isHeard 28 = .ok (.invokevirtual 177, 3) := by decide +kernel
theorem dX8_isHeard_31 : decode cX8_isHeard 31 = .ok (.istore 5, 2) := by decide +kernel
theorem dX8_isHeard_33 : decode cX8_isHeard 33 = .ok (.iconst 0, 1) := by decide +kernel
theorem dX8_isHeard_34 : decode cX8_isHeard 34 = .ok (.istore 6, 2) := by decide +kernel
theorem dX8_isHeard_36 : decode cX8_isHeard 36 = .ok (.iload 6, 2) := by decide +kernel
theorem dX8_isHeard_38 : decode cX8_isHeard 38 = .ok (.aload_n 0, 1) := by decide +kernel
theorem dX8_isHeard_39 : decode cX8_isHeard 39 = .ok (.getfield 20, 3) := by decide +kernel
theorem dX8_isHeard_42 : decode cX8_isHeard 42 = .ok (.invokevirtual 80, 3) := by decide +kernel
theorem dX8_isHeard_45 : decode cX8_isHeard 45 = .ok (.if_icmp .ge 44, 3) := by decide +kernel
theorem dX8_isHeard_48 : decode cX8_isHeard 48 = .ok (.iload 5, 2) := by decide +kernel
theorem dX8_isHeard_50 : decode cX8_isHeard 50 = .ok (.iload 6, 2) := by decide +kernel
theorem dX8_isHeard_52 : decode cX8_isHeard 52 = .ok (.invokestatic 105, 3) := by decide +kernel
theorem dX8_isHeard_55 : decode cX8_isHeard 55 = .ok (.ifCond .eq 28, 3) := by decide +kernel
theorem dX8_isHeard_58 : decode cX8_isHeard 58 = .ok (.aload_n 0, 1) := by decide +kernel
theorem dX8_isHeard_59 : decode cX8_isHeard 59 = .ok (.aload_n 0, 1) := by decide +kernel
theorem dX8_isHeard_60 : decode cX8_isHeard 60 = .ok (.getfield 20, 3) := by decide +kernel
theorem dX8_isHeard_63 : decode cX8_isHeard 63 = .ok (.iload 6, 2) := by decide +kernel
theorem dX8_isHeard_65 : decode cX8_isHeard 65 = .ok (.invokevirtual 220, 3) := by decide +kernel
theorem dX8_isHeard_68 : decode cX8_isHeard 68 = .ok (.checkcast 84, 3) := by decide +kernel
theorem dX8_isHeard_71 : decode cX8_isHeard 71 = .ok (.iconst 0, 1) := by decide +kernel
theorem dX8_isHeard_72 : decode cX8_isHeard 72 = .ok (.iload_n 3, 1) := by decide +kernel
theorem dX8_isHeard_73 : decode cX8_isHeard 73 = .ok (.aload 4, 2) := by decide +kernel
theorem dX8_isHeard_75 : decode cX8_isHeard 75 = .ok (.invokevirtual 173, 3) := by decide +kernel
theorem dX8_isHeard_78 : decode cX8_isHeard 78 = .ok (.ifCond .lt 5, 3) := by decide +kernel
theorem dX8_isHeard_81 : decode cX8_isHeard 81 = .ok (.iconst 0, 1) := by decide +kernel
theorem dX8_isHeard_82 : decode cX8_isHeard 82 = .ok (.ireturn, 1) := by decide +kernel
theorem dX8_isHeard_83 : decode cX8_isHeard 83 = .ok (.iinc 6 1, 3) := by decide +kernel
theorem dX8_isHeard_86 : decode cX8_isHeard 86 = .ok (.goto (-50), 3) := by decide +kernel
theorem dX8_isHeard_89 : decode cX8_isHeard 89 = .ok (.iconst 1, 1) := by decide +kernel
theorem dX8_isHeard_90 : decode cX8_isHeard 90 = .ok (.ireturn, 1) := by decide +kernel
set_option maxRecDepth 20000 in
theorem ggX8_firstUnheard_Jx4a65c_size_8abf5 : GoodIn wsX8_firstUnheard wsJx4a65c_size_8abf5 := goodIn_r _ [8, 9, 38, 39, 40] (by decide +kernel) (by decide +kernel)
set_option maxRecDepth 20000 in
theorem gX8_firstUnheard_Jx4a65c_size_8abf5 : GoodIn wsX8_firstUnheard (wsV RX8 80 RJx4a65c yJx4a65c_size_8abf5 wsJx4a65c_size_8abf5) := goodIn_app (goodIn_of _ (by decide +kernel)) ggX8_firstUnheard_Jx4a65c_size_8abf5
set_option maxRecDepth 20000 in
theorem ggX8_firstUnheard_Jx4a65c_get_915e3 : GoodIn wsX8_firstUnheard wsJx4a65c_get_915e3 := goodIn_r _ [13, 9, 14, 15, 16, 17, 18, 19, 20, 21, 22, 23, 24, 7, 25, 26, 38, 39, 40] (by decide +kernel) (by decide +kernel)
set_option maxRecDepth 20000 in
theorem gX8_firstUnheard_Jx4a65c_get_915e3 : GoodIn wsX8_firstUnheard (wsV RX8 220 RJx4a65c yJx4a65c_get_915e3 wsJx4a65c_get_915e3) := goodIn_app (goodIn_of _ (by decide +kernel)) ggX8_firstUnheard_Jx4a65c_get_915e3
set_option maxRecDepth 20000 in
theorem ggX8_firstUnheard_X8_has : GoodIn wsX8_firstUnheard wsX8_has := goodIn_r _ [30] (by decide +kernel) (by decide +kernel)
set_option maxRecDepth 20000 in
theorem gX8_firstUnheard_X8_has : GoodIn wsX8_firstUnheard (va_wsS RX8 105 yX8_has wsX8_has) := goodIn_app (goodIn_of _ (by decide +kernel)) ggX8_firstUnheard_X8_has
theorem dX8_firstUnheard_0 : decode cX8_firstUnheard 0 = .ok (.iconst 0, 1) := by decide +kernel
theorem dX8_firstUnheard_1 : decode cX8_firstUnheard 1 = .ok (.istore_n 2, 1) := by decide +kernel
theorem dX8_firstUnheard_2 : decode cX8_firstUnheard 2 = .ok (.iload_n 2, 1) := by decide +kernel
theorem dX8_firstUnheard_3 : decode cX8_firstUnheard 3 = .ok (.aload_n 0, 1) := by decide +kernel
theorem dX8_firstUnheard_4 : decode cX8_firstUnheard 4 = .ok (.getfield 108, 3) := by decide +kernel
theorem dX8_firstUnheard_7 : decode cX8_firstUnheard 7 = .ok (.invokevirtual 80, 3) := by decide +kernel
theorem dX8_firstUnheard_10 : decode cX8_firstUnheard 10 = .ok (.if_icmp .ge 34, 3) := by decide +kernel
theorem dX8_firstUnheard_13 : decode cX8_firstUnheard 13 = .ok (.aload_n 0, 1) := by decide +kernel
theorem dX8_firstUnheard_14 : decode cX8_firstUnheard 14 = .ok (.getfield 108, 3) := by decide +kernel
theorem dX8_firstUnheard_17 : decode cX8_firstUnheard 17 = .ok (.iload_n 2, 1) := by decide +kernel
theorem dX8_firstUnheard_18 : decode cX8_firstUnheard 18 = .ok (.invokevirtual 220, 3) := by decide +kernel
theorem dX8_firstUnheard_21 : decode cX8_firstUnheard 21 = .ok (.checkcast 84, 3) := by decide +kernel
theorem dX8_firstUnheard_24 : decode cX8_firstUnheard 24 = .ok (.astore_n 3, 1) := by decide +kernel
theorem dX8_firstUnheard_25 : decode cX8_firstUnheard 25 = .ok (.iload_n 1, 1) := by decide +kernel
theorem dX8_firstUnheard_26 : decode cX8_firstUnheard 26 = .ok (.aload_n 3, 1) := by decide +kernel
theorem dX8_firstUnheard_27 : decode cX8_firstUnheard 27 = .ok (.getfield 127, 3) := by decide +kernel
theorem dX8_firstUnheard_30 : decode cX8_firstUnheard 30 = .ok (.invokestatic 105, 3) := by decide +kernel
theorem dX8_firstUnheard_33 : decode cX8_firstUnheard 33 = .ok (.ifCond .ne 5, 3) := by decide +kernel
theorem dX8_firstUnheard_36 : decode cX8_firstUnheard 36 = .ok (.aload_n 3, 1) := by decide +kernel
theorem dX8_firstUnheard_37 : decode cX8_firstUnheard 37 = .ok (.areturn, 1) := by decide +kernel
theorem dX8_firstUnheard_38 : decode cX8_firstUnheard 38 = .ok (.iinc 2 1, 3) := by decide +kernel
theorem dX8_firstUnheard_41 : decode cX8_firstUnheard 41 = .ok (.goto (-39), 3) := by decide +kernel
theorem dX8_firstUnheard_44 : decode cX8_firstUnheard 44 = .ok (.aconst_null, 1) := by decide +kernel
theorem dX8_firstUnheard_45 : decode cX8_firstUnheard 45 = .ok (.areturn, 1) := by decide +kernel
set_option maxRecDepth 20000 in
theorem ggX8_unheardPlaces_Jx4a65c_size_8abf5 : GoodIn wsX8_unheardPlaces wsJx4a65c_size_8abf5 := goodIn_r _ [8, 9, 38, 39, 40] (by decide +kernel) (by decide +kernel)
set_option maxRecDepth 20000 in
theorem gX8_unheardPlaces_Jx4a65c_size_8abf5 : GoodIn wsX8_unheardPlaces (wsV RX8 80 RJx4a65c yJx4a65c_size_8abf5 wsJx4a65c_size_8abf5) := goodIn_app (goodIn_of _ (by decide +kernel)) ggX8_unheardPlaces_Jx4a65c_size_8abf5
set_option maxRecDepth 20000 in
theorem ggX8_unheardPlaces_Jx4a65c_get_915e3 : GoodIn wsX8_unheardPlaces wsJx4a65c_get_915e3 := goodIn_r _ [13, 9, 14, 15, 16, 17, 18, 19, 20, 21, 22, 23, 24, 7, 25, 26, 38, 39, 40] (by decide +kernel) (by decide +kernel)
set_option maxRecDepth 20000 in
theorem gX8_unheardPlaces_Jx4a65c_get_915e3 : GoodIn wsX8_unheardPlaces (wsV RX8 220 RJx4a65c yJx4a65c_get_915e3 wsJx4a65c_get_915e3) := goodIn_app (goodIn_of _ (by decide +kernel)) ggX8_unheardPlaces_Jx4a65c_get_915e3
set_option maxRecDepth 20000 in
theorem ggX8_unheardPlaces_X8_has : GoodIn wsX8_unheardPlaces wsX8_has := goodIn_r _ [30] (by decide +kernel) (by decide +kernel)
set_option maxRecDepth 20000 in
theorem gX8_unheardPlaces_X8_has : GoodIn wsX8_unheardPlaces (va_wsS RX8 105 yX8_has wsX8_has) := goodIn_app (goodIn_of _ (by decide +kernel)) ggX8_unheardPlaces_X8_has
theorem dX8_unheardPlaces_0 : decode cX8_unheardPlaces 0 = .ok (.iconst 0, 1) := by decide +kernel
theorem dX8_unheardPlaces_1 : decode cX8_unheardPlaces 1 = .ok (.istore_n 2, 1) := by decide +kernel
theorem dX8_unheardPlaces_2 : decode cX8_unheardPlaces 2 = .ok (.iconst 0, 1) := by decide +kernel
theorem dX8_unheardPlaces_3 : decode cX8_unheardPlaces 3 = .ok (.istore_n 3, 1) := by decide +kernel
theorem dX8_unheardPlaces_4 : decode cX8_unheardPlaces 4 = .ok (.iload_n 3, 1) := by decide +kernel
theorem dX8_unheardPlaces_5 : decode cX8_unheardPlaces 5 = .ok (.aload_n 0, 1) := by decide +kernel
theorem dX8_unheardPlaces_6 : decode cX8_unheardPlaces 6 = .ok (.getfield 108, 3) := by decide +kernel
theorem dX8_unheardPlaces_9 : decode cX8_unheardPlaces 9 = .ok (.invokevirtual 80, 3) := by decide +kernel
theorem dX8_unheardPlaces_12 : decode cX8_unheardPlaces 12 = .ok (.if_icmp .ge 36, 3) := by decide +kernel
theorem dX8_unheardPlaces_15 : decode cX8_unheardPlaces 15 = .ok (.iload_n 1, 1) := by decide +kernel
theorem dX8_unheardPlaces_16 : decode cX8_unheardPlaces 16 = .ok (.aload_n 0, 1) := by decide +kernel
theorem dX8_unheardPlaces_17 : decode cX8_unheardPlaces 17 = .ok (.getfield 108, 3) := by decide +kernel
theorem dX8_unheardPlaces_20 : decode cX8_unheardPlaces 20 = .ok (.iload_n 3, 1) := by decide +kernel
theorem dX8_unheardPlaces_21 : decode cX8_unheardPlaces 21 = .ok (.invokevirtual 220, 3) := by decide +kernel
theorem dX8_unheardPlaces_24 : decode cX8_unheardPlaces 24 = .ok (.checkcast 84, 3) := by decide +kernel
theorem dX8_unheardPlaces_27 : decode cX8_unheardPlaces 27 = .ok (.getfield 127, 3) := by decide +kernel
theorem dX8_unheardPlaces_30 : decode cX8_unheardPlaces 30 = .ok (.invokestatic 105, 3) := by decide +kernel
theorem dX8_unheardPlaces_33 : decode cX8_unheardPlaces 33 = .ok (.ifCond .ne 9, 3) := by decide +kernel
theorem dX8_unheardPlaces_36 : decode cX8_unheardPlaces 36 = .ok (.iload_n 2, 1) := by decide +kernel
theorem dX8_unheardPlaces_37 : decode cX8_unheardPlaces 37 = .ok (.iconst 1, 1) := by decide +kernel
theorem dX8_unheardPlaces_38 : decode cX8_unheardPlaces 38 = .ok (.iload_n 3, 1) := by decide +kernel
theorem dX8_unheardPlaces_39 : decode cX8_unheardPlaces 39 = .ok (.ishl, 1) := by decide +kernel
theorem dX8_unheardPlaces_40 : decode cX8_unheardPlaces 40 = .ok (.ior, 1) := by decide +kernel
theorem dX8_unheardPlaces_41 : decode cX8_unheardPlaces 41 = .ok (.istore_n 2, 1) := by decide +kernel
theorem dX8_unheardPlaces_42 : decode cX8_unheardPlaces 42 = .ok (.iinc 3 1, 3) := by decide +kernel
theorem dX8_unheardPlaces_45 : decode cX8_unheardPlaces 45 = .ok (.goto (-41), 3) := by decide +kernel
theorem dX8_unheardPlaces_48 : decode cX8_unheardPlaces 48 = .ok (.iload_n 2, 1) := by decide +kernel
theorem dX8_unheardPlaces_49 : decode cX8_unheardPlaces 49 = .ok (.ireturn, 1) := by decide +kernel
set_option maxRecDepth 20000 in
theorem ggX8_factsAsked_Jx4a65c_size_8abf5 : GoodIn wsX8_factsAsked wsJx4a65c_size_8abf5 := goodIn_r _ [9, 10, 45, 46, 47] (by decide +kernel) (by decide +kernel)
set_option maxRecDepth 20000 in
theorem gX8_factsAsked_Jx4a65c_size_8abf5 : GoodIn wsX8_factsAsked (wsV RX8 80 RJx4a65c yJx4a65c_size_8abf5 wsJx4a65c_size_8abf5) := goodIn_app (goodIn_of _ (by decide +kernel)) ggX8_factsAsked_Jx4a65c_size_8abf5
set_option maxRecDepth 20000 in
theorem ggX8_factsAsked_Jx4a65c_get_915e3 : GoodIn wsX8_factsAsked wsJx4a65c_get_915e3 := goodIn_r _ [14, 10, 15, 16, 17, 18, 19, 20, 21, 22, 23, 24, 25, 8, 26, 27, 45, 46, 47] (by decide +kernel) (by decide +kernel)
set_option maxRecDepth 20000 in
theorem gX8_factsAsked_Jx4a65c_get_915e3 : GoodIn wsX8_factsAsked (wsV RX8 220 RJx4a65c yJx4a65c_get_915e3 wsJx4a65c_get_915e3) := goodIn_app (goodIn_of _ (by decide +kernel)) ggX8_factsAsked_Jx4a65c_get_915e3
theorem dX8_factsAsked_0 : decode cX8_factsAsked 0 = .ok (.iconst 0, 1) := by decide +kernel
theorem dX8_factsAsked_1 : decode cX8_factsAsked 1 = .ok (.istore_n 2, 1) := by decide +kernel
theorem dX8_factsAsked_2 : decode cX8_factsAsked 2 = .ok (.iconst 0, 1) := by decide +kernel
theorem dX8_factsAsked_3 : decode cX8_factsAsked 3 = .ok (.istore_n 3, 1) := by decide +kernel
theorem dX8_factsAsked_4 : decode cX8_factsAsked 4 = .ok (.iload_n 3, 1) := by decide +kernel
theorem dX8_factsAsked_5 : decode cX8_factsAsked 5 = .ok (.aload_n 0, 1) := by decide +kernel
theorem dX8_factsAsked_6 : decode cX8_factsAsked 6 = .ok (.getfield 24, 3) := by decide +kernel
theorem dX8_factsAsked_9 : decode cX8_factsAsked 9 = .ok (.invokevirtual 80, 3) := by decide +kernel
theorem dX8_factsAsked_12 : decode cX8_factsAsked 12 = .ok (.if_icmp .ge 39, 3) := by decide +kernel
theorem dX8_factsAsked_15 : decode cX8_factsAsked 15 = .ok (.aload_n 0, 1) := by decide +kernel
theorem dX8_factsAsked_16 : decode cX8_factsAsked 16 = .ok (.getfield 24, 3) := by decide +kernel
theorem dX8_factsAsked_19 : decode cX8_factsAsked 19 = .ok (.iload_n 3, 1) := by decide +kernel
theorem dX8_factsAsked_20 : decode cX8_factsAsked 20 = .ok (.invokevirtual 220, 3) := by decide +kernel
theorem dX8_factsAsked_23 : decode cX8_factsAsked 23 = .ok (.checkcast 153, 3) := by decide +kernel
theorem dX8_factsAsked_26 : decode cX8_factsAsked 26 = .ok (.astore 4, 2) := by decide +kernel
theorem dX8_factsAsked_28 : decode cX8_factsAsked 28 = .ok (.aload 4, 2) := by decide +kernel
theorem dX8_factsAsked_30 : decode cX8_factsAsked 30 = .ok (.getfield 224, 3) := by decide +kernel
theorem dX8_factsAsked_33 : decode cX8_factsAsked 33 = .ok (.iload_n 1, 1) := by decide +kernel
theorem dX8_factsAsked_34 : decode cX8_factsAsked 34 = .ok (.if_icmp .ne 11, 3) := by decide +kernel
theorem dX8_factsAsked_37 : decode cX8_factsAsked 37 = .ok (.iload_n 2, 1) := by decide +kernel
theorem dX8_factsAsked_38 : decode cX8_factsAsked 38 = .ok (.aload 4, 2) := by decide +kernel
theorem dX8_factsAsked_40 : decode cX8_factsAsked 40 = .ok (.getfield 308, 3) := by decide +kernel
theorem dX8_factsAsked_43 : decode cX8_factsAsked 43 = .ok (.ior, 1) := by decide +kernel
theorem dX8_factsAsked_44 : decode cX8_factsAsked 44 = .ok (.istore_n 2, 1) := by decide +kernel
theorem dX8_factsAsked_45 : decode cX8_factsAsked 45 = .ok (.iinc 3 1, 3) := by decide +kernel
theorem dX8_factsAsked_48 : decode cX8_factsAsked 48 = .ok (.goto (-44), 3) := by decide +kernel
theorem dX8_factsAsked_51 : decode cX8_factsAsked 51 = .ok (.iload_n 2, 1) := by decide +kernel
theorem dX8_factsAsked_52 : decode cX8_factsAsked 52 = .ok (.ireturn, 1) := by decide +kernel
set_option maxRecDepth 20000 in
theorem ggX8_isMet_Jx4a65c_size_8abf5 : GoodIn wsX8_isMet wsJx4a65c_size_8abf5 := goodIn_r _ [9, 10, 79, 80, 81] (by decide +kernel) (by decide +kernel)
set_option maxRecDepth 20000 in
theorem gX8_isMet_Jx4a65c_size_8abf5 : GoodIn wsX8_isMet (wsV RX8 80 RJx4a65c yJx4a65c_size_8abf5 wsJx4a65c_size_8abf5) := goodIn_app (goodIn_of _ (by decide +kernel)) ggX8_isMet_Jx4a65c_size_8abf5
set_option maxRecDepth 20000 in
theorem ggX8_isMet_Jx4a65c_get_915e3 : GoodIn wsX8_isMet wsJx4a65c_get_915e3 := goodIn_r _ [14, 10, 15, 16, 17, 18, 19, 20, 21, 22, 23, 24, 25, 8, 26, 27, 79, 80, 81] (by decide +kernel) (by decide +kernel)
set_option maxRecDepth 20000 in
theorem gX8_isMet_Jx4a65c_get_915e3 : GoodIn wsX8_isMet (wsV RX8 220 RJx4a65c yJx4a65c_get_915e3 wsJx4a65c_get_915e3) := goodIn_app (goodIn_of _ (by decide +kernel)) ggX8_isMet_Jx4a65c_get_915e3
set_option maxRecDepth 20000 in
theorem ggX8_isMet_X4_holding : GoodIn wsX8_isMet wsX4_holding := goodIn_r _ [32, 33, 34, 35, 36, 37, 38, 39, 40, 41, 42, 43, 44, 45, 46, 6, 7, 8, 9, 10, 47, 12, 13, 14, 15, 16, 17, 18, 19, 20, 21, 22, 23, 24, 25, 26, 27, 48, 49, 50, 51, 52, 53, 54, 55, 56, 57, 58, 59, 60, 61, 82, 83, 84, 85, 86, 87, 88, 89, 90, 91, 92, 93, 94, 72, 73, 74, 75, 76, 77, 78, 79, 80, 81, 95, 96, 97] (by decide +kernel) (by decide +kernel)
set_option maxRecDepth 20000 in
theorem gX8_isMet_X4_holding : GoodIn wsX8_isMet (wsV RX8 152 RX4 yX4_holding wsX4_holding) := goodIn_app (goodIn_of _ (by decide +kernel)) ggX8_isMet_X4_holding
theorem dX8_isMet_0 : decode cX8_isMet 0 = .ok (.iconst 0, 1) := by decide +kernel
theorem dX8_isMet_1 : decode cX8_isMet 1 = .ok (.istore 4, 2) := by decide +kernel
theorem dX8_isMet_3 : decode cX8_isMet 3 = .ok (.iload 4, 2) := by decide +kernel
theorem dX8_isMet_5 : decode cX8_isMet 5 = .ok (.aload_n 0, 1) := by decide +kernel
theorem dX8_isMet_6 : decode cX8_isMet 6 = .ok (.getfield 24, 3) := by decide +kernel
theorem dX8_isMet_9 : decode cX8_isMet 9 = .ok (.invokevirtual 80, 3) := by decide +kernel
theorem dX8_isMet_12 : decode cX8_isMet 12 = .ok (.if_icmp .ge 48, 3) := by decide +kernel
theorem dX8_isMet_15 : decode cX8_isMet 15 = .ok (.aload_n 0, 1) := by decide +kernel
theorem dX8_isMet_16 : decode cX8_isMet 16 = .ok (.getfield 24, 3) := by decide +kernel
theorem dX8_isMet_19 : decode cX8_isMet 19 = .ok (.iload 4, 2) := by decide +kernel
theorem dX8_isMet_21 : decode cX8_isMet 21 = .ok (.invokevirtual 220, 3) := by decide +kernel
theorem dX8_isMet_24 : decode cX8_isMet 24 = .ok (.checkcast 153, 3) := by decide +kernel
theorem dX8_isMet_27 : decode cX8_isMet 27 = .ok (.astore 5, 2) := by decide +kernel
theorem dX8_isMet_29 : decode cX8_isMet 29 = .ok (.aload 5, 2) := by decide +kernel
theorem dX8_isMet_31 : decode cX8_isMet 31 = .ok (.getfield 224, 3) := by decide +kernel
theorem dX8_isMet_34 : decode cX8_isMet 34 = .ok (.iload_n 3, 1) := by decide +kernel
theorem dX8_isMet_35 : decode cX8_isMet 35 = .ok (.if_icmp .ne 19, 3) := by decide +kernel
theorem dX8_isMet_38 : decode cX8_isMet 38 = .ok (.aload 5, 2) := by decide +kernel
theorem dX8_isMet_40 : decode cX8_isMet 40 = .ok (.aload_n 1, 1) := by decide +kernel
theorem dX8_isMet_41 : decode cX8_isMet 41 = .ok (.iload_n 2, 1) := by decide +kernel
theorem dX8_isMet_42 : decode cX8_isMet 42 = .ok (.aload_n 0, 1) := by decide +kernel
theorem dX8_isMet_43 : decode cX8_isMet 43 = .ok (.getfield 37, 3) := by decide +kernel
theorem dX8_isMet_46 : decode cX8_isMet 46 = .ok (.invokevirtual 152, 3) := by decide +kernel
theorem dX8_isMet_49 : decode cX8_isMet 49 = .ok (.ifCond .eq 5, 3) := by decide +kernel
theorem dX8_isMet_52 : decode cX8_isMet 52 = .ok (.iconst 1, 1) := by decide +kernel
theorem dX8_isMet_53 : decode cX8_isMet 53 = .ok (.ireturn, 1) := by decide +kernel
theorem dX8_isMet_54 : decode cX8_isMet 54 = .ok (.iinc 4 1, 3) := by decide +kernel
theorem dX8_isMet_57 : decode cX8_isMet 57 = .ok (.goto (-54), 3) := by decide +kernel
theorem dX8_isMet_60 : decode cX8_isMet 60 = .ok (.iconst 0, 1) := by decide +kernel
theorem dX8_isMet_61 : decode cX8_isMet 61 = .ok (.ireturn, 1) := by decide +kernel
set_option maxRecDepth 20000 in
theorem ggX8_rulesOfFirstLand_Jx4a65c_size_8abf5 : GoodIn wsX8_rulesOfFirstLand wsJx4a65c_size_8abf5 := goodIn_r _ [8, 9, 44, 45, 46] (by decide +kernel) (by decide +kernel)
set_option maxRecDepth 20000 in
theorem gX8_rulesOfFirstLand_Jx4a65c_size_8abf5 : GoodIn wsX8_rulesOfFirstLand (wsV RX8 80 RJx4a65c yJx4a65c_size_8abf5 wsJx4a65c_size_8abf5) := goodIn_app (goodIn_of _ (by decide +kernel)) ggX8_rulesOfFirstLand_Jx4a65c_size_8abf5
set_option maxRecDepth 20000 in
theorem ggX8_rulesOfFirstLand_Jx4a65c_get_915e3 : GoodIn wsX8_rulesOfFirstLand wsJx4a65c_get_915e3 := goodIn_r _ [13, 9, 14, 15, 16, 17, 18, 19, 20, 21, 22, 23, 24, 7, 25, 26, 44, 45, 46] (by decide +kernel) (by decide +kernel)
set_option maxRecDepth 20000 in
theorem gX8_rulesOfFirstLand_Jx4a65c_get_915e3 : GoodIn wsX8_rulesOfFirstLand (wsV RX8 220 RJx4a65c yJx4a65c_get_915e3 wsJx4a65c_get_915e3) := goodIn_app (goodIn_of _ (by decide +kernel)) ggX8_rulesOfFirstLand_Jx4a65c_get_915e3
theorem dX8_rulesOfFirstLand_0 : decode cX8_rulesOfFirstLand 0 = .ok (.iconst 0, 1) := by decide +kernel
theorem dX8_rulesOfFirstLand_1 : decode cX8_rulesOfFirstLand 1 = .ok (.istore_n 1, 1) := by decide +kernel
theorem dX8_rulesOfFirstLand_2 : decode cX8_rulesOfFirstLand 2 = .ok (.iconst 0, 1) := by decide +kernel
theorem dX8_rulesOfFirstLand_3 : decode cX8_rulesOfFirstLand 3 = .ok (.istore_n 2, 1) := by decide +kernel
theorem dX8_rulesOfFirstLand_4 : decode cX8_rulesOfFirstLand 4 = .ok (.iload_n 2, 1) := by decide +kernel
theorem dX8_rulesOfFirstLand_5 : decode cX8_rulesOfFirstLand 5 = .ok (.aload_n 0, 1) := by decide +kernel
theorem dX8_rulesOfFirstLand_6 : decode cX8_rulesOfFirstLand 6 = .ok (.getfield 24, 3) := by decide +kernel
theorem dX8_rulesOfFirstLand_9 : decode cX8_rulesOfFirstLand 9 = .ok (.invokevirtual 80, 3) := by decide +kernel
theorem dX8_rulesOfFirstLand_12 : decode cX8_rulesOfFirstLand 12 = .ok (.if_icmp .ge 29, 3) := by decide +kernel
theorem dX8_rulesOfFirstLand_15 : decode cX8_rulesOfFirstLand 15 = .ok (.aload_n 0, 1) := by decide +kernel
theorem dX8_rulesOfFirstLand_16 : decode cX8_rulesOfFirstLand 16 = .ok (.getfield 24, 3) := by decide +kernel
theorem dX8_rulesOfFirstLand_19 : decode cX8_rulesOfFirstLand 19 = .ok (.iload_n 2, 1) := by decide +kernel
theorem dX8_rulesOfFirstLand_20 : decode cX8_rulesOfFirstLand 20 = .ok (.invokevirtual 220, 3) := by decide +kernel
theorem dX8_rulesOfFirstLand_23 : decode cX8_rulesOfFirstLand 23 = .ok (.checkcast 153, 3) := by decide +kernel
theorem dX8_rulesOfFirstLand_26 : decode cX8_rulesOfFirstLand 26 = .ok (.getfield 224, 3) := by decide +kernel
theorem dX8_rulesOfFirstLand_29 : decode cX8_rulesOfFirstLand 29 = .ok (.ifCond .ne 6, 3) := by decide +kernel
theorem dX8_rulesOfFirstLand_32 : decode cX8_rulesOfFirstLand 32 = .ok (.iinc 1 1, 3) := by decide +kernel
theorem dX8_rulesOfFirstLand_35 : decode cX8_rulesOfFirstLand 35 = .ok (.iinc 2 1, 3) := by decide +kernel
theorem dX8_rulesOfFirstLand_38 : decode cX8_rulesOfFirstLand 38 = .ok (.goto (-34), 3) := by decide +kernel
theorem dX8_rulesOfFirstLand_41 : decode cX8_rulesOfFirstLand 41 = .ok (.iload_n 1, 1) := by decide +kernel
theorem dX8_rulesOfFirstLand_42 : decode cX8_rulesOfFirstLand 42 = .ok (.ireturn, 1) := by decide +kernel
set_option maxRecDepth 20000 in
theorem ggX8_provedWithout_X8_allWords : GoodIn wsX8_provedWithout wsX8_allWords := goodIn_r _ [8, 9, 10, 11, 12, 13, 14, 15, 109, 110, 111, 112, 113, 114, 115, 116, 117, 118, 122, 123, 124] (by decide +kernel) (by decide +kernel)
set_option maxRecDepth 20000 in
theorem gX8_provedWithout_X8_allWords : GoodIn wsX8_provedWithout (wsV RX8 207 RX8 yX8_allWords wsX8_allWords) := goodIn_app (goodIn_of _ (by decide +kernel)) ggX8_provedWithout_X8_allWords
set_option maxRecDepth 20000 in
theorem ggX8_provedWithout_X8_suppose : GoodIn wsX8_provedWithout wsX8_suppose := goodIn_r _ [19, 20, 2, 3, 21, 109, 110, 111, 112, 113, 114, 115, 116, 117, 118, 119, 120, 121] (by decide +kernel) (by decide +kernel)
set_option maxRecDepth 20000 in
theorem gX8_provedWithout_X8_suppose : GoodIn wsX8_provedWithout (wsV RX8 196 RX8 yX8_suppose wsX8_suppose) := goodIn_app (goodIn_of _ (by decide +kernel)) ggX8_provedWithout_X8_suppose
set_option maxRecDepth 20000 in
theorem ggX8_provedWithout_X8_heardToPartsEnd : GoodIn wsX8_provedWithout wsX8_heardToPartsEnd := goodIn_r _ [25, 9, 26, 27, 10, 11, 12, 13, 14, 15, 28, 29, 30, 31, 32, 33, 34, 35, 36, 37, 38, 39, 40, 41, 42, 43, 44, 45, 46, 7, 47, 48, 49, 50, 51, 52, 53, 54, 55, 56, 57, 58, 59, 60, 61, 62, 63, 64, 65, 66, 67, 68, 69, 70, 71, 72, 73, 74, 75, 76, 77, 78, 79, 80, 81, 82, 83, 84, 85, 86, 87, 88, 89, 90, 91, 92, 93, 94, 95, 96, 97, 98, 99, 100, 101, 102, 103, 109, 110, 111, 112, 113, 114, 115, 116, 117, 118, 125, 126, 127, 128, 129, 130, 131, 122, 123, 124, 132, 133, 134, 135, 136, 137, 138, 139, 140, 141, 119, 120, 121, 142, 143, 144] (by decide +kernel) (by decide +kernel)
set_option maxRecDepth 20000 in
theorem gX8_provedWithout_X8_heardToPartsEnd : GoodIn wsX8_provedWithout (wsV RX8 180 RX8 yX8_heardToPartsEnd wsX8_heardToPartsEnd) := goodIn_app (goodIn_of _ (by decide +kernel)) ggX8_provedWithout_X8_heardToPartsEnd
set_option maxRecDepth 20000 in
theorem ggX8_provedWithout_X8_factsOf : GoodIn wsX8_provedWithout wsX8_factsOf := goodIn_r _ [107, 9, 26, 108, 10, 11, 12, 13, 14, 15, 45, 46, 7, 47, 28, 29, 30, 31, 32, 33, 34, 35, 36, 37, 38, 39, 40, 41, 42, 43, 44, 109, 110, 111, 112, 113, 114, 115, 116, 117, 118, 125, 126, 127, 128, 129, 130, 131, 122, 123, 124] (by decide +kernel) (by decide +kernel)
set_option maxRecDepth 20000 in
theorem gX8_provedWithout_X8_factsOf : GoodIn wsX8_provedWithout (wsV RX8 310 RX8 yX8_factsOf wsX8_factsOf) := goodIn_app (goodIn_of _ (by decide +kernel)) ggX8_provedWithout_X8_factsOf
theorem dX8_provedWithout_0 : decode cX8_provedWithout 0 = .ok (.aload_n 0, 1) := by decide +kernel
theorem dX8_provedWithout_1 : decode cX8_provedWithout 1 = .ok (.getfield 37, 3) := by decide +kernel
theorem dX8_provedWithout_4 : decode cX8_provedWithout 4 = .ok (.getfield 128, 3) := by decide +kernel
theorem dX8_provedWithout_7 : decode cX8_provedWithout 7 = .ok (.istore_n 3, 1) := by decide +kernel
theorem dX8_provedWithout_8 : decode cX8_provedWithout 8 = .ok (.aload_n 0, 1) := by decide +kernel
theorem dX8_provedWithout_9 : decode cX8_provedWithout 9 = .ok (.invokevirtual 207, 3) := by decide +kernel
theorem dX8_provedWithout_12 : decode cX8_provedWithout 12 = .ok (.iload_n 1, 1) := by decide +kernel
theorem dX8_provedWithout_13 : decode cX8_provedWithout 13 = .ok (.iconst (-1), 1) := by decide +kernel
theorem dX8_provedWithout_14 : decode cX8_provedWithout 14 = .ok (.ixor, 1) := by decide +kernel
theorem dX8_provedWithout_15 : decode cX8_provedWithout 15 = .ok (.iand, 1) := by decide +kernel
theorem dX8_provedWithout_16 : decode cX8_provedWithout 16 = .ok (.istore 4, 2) := by decide +kernel
theorem dX8_provedWithout_18 : decode cX8_provedWithout 18 = .ok (.iconst 0, 1) := by decide +kernel
theorem dX8_provedWithout_19 : decode cX8_provedWithout 19 = .ok (.istore 5, 2) := by decide +kernel
theorem dX8_provedWithout_21 : decode cX8_provedWithout 21 = .ok (.iload 5, 2) := by decide +kernel
theorem dX8_provedWithout_23 : decode cX8_provedWithout 23 = .ok (.bipush 10, 2) := by decide +kernel
theorem dX8_provedWithout_25 : decode cX8_provedWithout 25 = .ok (.if_icmp .gt 52, 3) := by decide +kernel
theorem dX8_provedWithout_28 : decode cX8_provedWithout 28 = .ok (.aload_n 0, 1) := by decide +kernel
theorem dX8_provedWithout_29 : decode cX8_provedWithout 29 = .ok (.iload 4, 2) := by decide +kernel
theorem dX8_provedWithout_31 : decode cX8_provedWithout 31 = .ok (.iload_n 2, 1) := by decide +kernel
theorem dX8_provedWithout_32 : decode cX8_provedWithout 32 = .ok (.aload_n 0, 1) := by decide +kernel
theorem dX8_provedWithout_33 : decode cX8_provedWithout 33 = .ok (.iload_n 3, 1) := by decide +kernel
theorem dX8_provedWithout_34 : decode cX8_provedWithout 34 = .ok (.aload_n 0, 1) := by decide +kernel
theorem dX8_provedWithout_35 : decode cX8_provedWithout 35 = .ok (.getfield 37, 3) := by decide +kernel
theorem dX8_provedWithout_38 : decode cX8_provedWithout 38 = .ok (.getfield 145, 3) := by decide +kernel
theorem dX8_provedWithout_41 : decode cX8_provedWithout 41 = .ok (.iconst 0, 1) := by decide +kernel
theorem dX8_provedWithout_42 : decode cX8_provedWithout 42 = .ok (.invokevirtual 196, 3) := by decide +kernel
theorem dX8_provedWithout_45 : decode cX8_provedWithout 45 = .ok (.invokevirtual 180, 3) := by decide +kernel
theorem dX8_provedWithout_48 : decode cX8_provedWithout 48 = .ok (.istore 6, 2) := by decide +kernel
theorem dX8_provedWithout_50 : decode cX8_provedWithout 50 = .ok (.iload_n 3, 1) := by decide +kernel
theorem dX8_provedWithout_51 : decode cX8_provedWithout 51 = .ok (.aload_n 0, 1) := by decide +kernel
theorem dX8_provedWithout_52 : decode cX8_provedWithout 52 = .ok (.iload 6, 2) := by decide +kernel
theorem dX8_provedWithout_54 : decode cX8_provedWithout 54 = .ok (.invokevirtual 310, 3) := by decide +kernel
theorem dX8_provedWithout_57 : decode cX8_provedWithout 57 = .ok (.ior, 1) := by decide +kernel
theorem dX8_provedWithout_58 : decode cX8_provedWithout 58 = .ok (.istore 7, 2) := by decide +kernel
theorem dX8_provedWithout_60 : decode cX8_provedWithout 60 = .ok (.iload 7, 2) := by decide +kernel
theorem dX8_provedWithout_62 : decode cX8_provedWithout 62 = .ok (.iload_n 3, 1) := by decide +kernel
theorem dX8_provedWithout_63 : decode cX8_provedWithout 63 = .ok (.if_icmp .ne 5, 3) := by decide +kernel
theorem dX8_provedWithout_66 : decode cX8_provedWithout 66 = .ok (.iload_n 3, 1) := by decide +kernel
theorem dX8_provedWithout_67 : decode cX8_provedWithout 67 = .ok (.ireturn, 1) := by decide +kernel
theorem dX8_provedWithout_68 : decode cX8_provedWithout 68 = .ok (.iload 7, 2) := by decide +kernel
theorem dX8_provedWithout_70 : decode cX8_provedWithout 70 = .ok (.istore_n 3, 1) := by decide +kernel
theorem dX8_provedWithout_71 : decode cX8_provedWithout 71 = .ok (.iinc 5 1, 3) := by decide +kernel
theorem dX8_provedWithout_74 : decode cX8_provedWithout 74 = .ok (.goto (-53), 3) := by decide +kernel
theorem dX8_provedWithout_77 : decode cX8_provedWithout 77 = .ok (.iload_n 3, 1) := by decide +kernel
theorem dX8_provedWithout_78 : decode cX8_provedWithout 78 = .ok (.ireturn, 1) := by decide +kernel
set_option maxRecDepth 20000 in
theorem ggX8_findOrder_J6_bitCount_0f7a4 : GoodIn wsX8_findOrder wsJ6_bitCount_0f7a4 := goodIn_r _ [8, 9, 10, 11] (by decide +kernel) (by decide +kernel)
set_option maxRecDepth 20000 in
theorem gX8_findOrder_J6_bitCount_0f7a4 : GoodIn wsX8_findOrder (va_wsS RX8 191 yJ6_bitCount_0f7a4 wsJ6_bitCount_0f7a4) := goodIn_app (goodIn_of _ (by decide +kernel)) ggX8_findOrder_J6_bitCount_0f7a4
set_option maxRecDepth 20000 in
theorem ggX8_findOrder_X8_wordsAtPlaces : GoodIn wsX8_findOrder wsX8_wordsAtPlaces := goodIn_r _ [15, 16, 17, 14, 18, 19, 20, 21] (by decide +kernel) (by decide +kernel)
set_option maxRecDepth 20000 in
theorem gX8_findOrder_X8_wordsAtPlaces : GoodIn wsX8_findOrder (va_wsS RX8 313 yX8_wordsAtPlaces wsX8_wordsAtPlaces) := goodIn_app (goodIn_of _ (by decide +kernel)) ggX8_findOrder_X8_wordsAtPlaces
set_option maxRecDepth 20000 in
theorem ggX8_findOrder_X8_factsOf : GoodIn wsX8_findOrder wsX8_factsOf := goodIn_r _ [25, 26, 27, 28, 29, 30, 31, 32, 33, 34, 19, 20, 14, 21, 35, 36, 37, 38, 39, 40, 41, 42, 43, 44, 45, 46, 47, 48, 49, 50, 51, 121, 122, 123, 124, 125, 126, 127, 128, 129, 130, 134, 135, 136, 137, 138, 139, 140, 141, 142, 143] (by decide +kernel) (by decide +kernel)
set_option maxRecDepth 20000 in
theorem gX8_findOrder_X8_factsOf : GoodIn wsX8_findOrder (wsV RX8 310 RX8 yX8_factsOf wsX8_factsOf) := goodIn_app (goodIn_of _ (by decide +kernel)) ggX8_findOrder_X8_factsOf
set_option maxRecDepth 20000 in
theorem ggX8_findOrder_X8_suppose : GoodIn wsX8_findOrder wsX8_suppose := goodIn_r _ [55, 56, 3, 4, 57, 121, 122, 123, 124, 125, 126, 127, 128, 129, 130, 131, 132, 133] (by decide +kernel) (by decide +kernel)
set_option maxRecDepth 20000 in
theorem gX8_findOrder_X8_suppose : GoodIn wsX8_findOrder (wsV RX8 196 RX8 yX8_suppose wsX8_suppose) := goodIn_app (goodIn_of _ (by decide +kernel)) ggX8_findOrder_X8_suppose
set_option maxRecDepth 20000 in
theorem ggX8_findOrder_X8_withParts : GoodIn wsX8_findOrder wsX8_withParts := goodIn_r _ [61, 26, 27, 62, 29, 30, 31, 32, 33, 34, 19, 20, 14, 21, 35, 36, 37, 38, 39, 40, 41, 42, 43, 44, 45, 46, 47, 48, 49, 50, 51, 121, 122, 123, 124, 125, 126, 127, 128, 129, 130, 134, 135, 136, 137, 138, 139, 140, 141, 142, 143] (by decide +kernel) (by decide +kernel)
set_option maxRecDepth 20000 in
theorem gX8_findOrder_X8_withParts : GoodIn wsX8_findOrder (wsV RX8 177 RX8 yX8_withParts wsX8_withParts) := goodIn_app (goodIn_of _ (by decide +kernel)) ggX8_findOrder_X8_withParts
set_option maxRecDepth 20000 in
theorem ggX8_findOrder_X8_heardToPartsEnd : GoodIn wsX8_findOrder wsX8_heardToPartsEnd := goodIn_r _ [66, 26, 27, 62, 29, 30, 31, 32, 33, 34, 35, 36, 37, 38, 39, 40, 41, 42, 43, 44, 45, 46, 47, 48, 49, 50, 51, 19, 20, 14, 21, 67, 68, 69, 70, 71, 72, 73, 74, 75, 76, 77, 78, 79, 80, 81, 82, 83, 84, 85, 6, 7, 8, 9, 10, 11, 86, 87, 88, 89, 90, 91, 92, 93, 94, 95, 96, 97, 98, 99, 100, 101, 102, 103, 104, 105, 106, 107, 108, 109, 110, 111, 112, 113, 114, 115, 116, 121, 122, 123, 124, 125, 126, 127, 128, 129, 130, 134, 135, 136, 137, 138, 139, 140, 141, 142, 143, 144, 145, 146, 147, 148, 149, 150, 151, 152, 153, 131, 132, 133, 154, 155, 156] (by decide +kernel) (by decide +kernel)
set_option maxRecDepth 20000 in
theorem gX8_findOrder_X8_heardToPartsEnd : GoodIn wsX8_findOrder (wsV RX8 180 RX8 yX8_heardToPartsEnd wsX8_heardToPartsEnd) := goodIn_app (goodIn_of _ (by decide +kernel)) ggX8_findOrder_X8_heardToPartsEnd
set_option maxRecDepth 20000 in
theorem ggX8_findOrder_X8_has : GoodIn wsX8_findOrder wsX8_has := goodIn_r _ [21] (by decide +kernel) (by decide +kernel)
set_option maxRecDepth 20000 in
theorem gX8_findOrder_X8_has : GoodIn wsX8_findOrder (va_wsS RX8 105 yX8_has wsX8_has) := goodIn_app (goodIn_of _ (by decide +kernel)) ggX8_findOrder_X8_has
set_option maxRecDepth 20000 in
theorem ggX8_findOrder_X8_wordAtPlace : GoodIn wsX8_findOrder wsX8_wordAtPlace := goodIn_r _ [18, 19, 20, 14, 21] (by decide +kernel) (by decide +kernel)
set_option maxRecDepth 20000 in
theorem gX8_findOrder_X8_wordAtPlace : GoodIn wsX8_findOrder (va_wsS RX8 316 yX8_wordAtPlace wsX8_wordAtPlace) := goodIn_app (goodIn_of _ (by decide +kernel)) ggX8_findOrder_X8_wordAtPlace
set_option maxRecDepth 20000 in
theorem ggX8_findOrder_X8_ordersOn : GoodIn wsX8_findOrder wsX8_ordersOn := goodIn_r _ [120, 1, 121, 122, 123, 124, 125, 126, 127, 128, 129, 130] (by decide +kernel) (by decide +kernel)
set_option maxRecDepth 20000 in
theorem gX8_findOrder_X8_ordersOn : GoodIn wsX8_findOrder (wsV RX8 319 RX8 yX8_ordersOn wsX8_ordersOn) := goodIn_app (goodIn_of _ (by decide +kernel)) ggX8_findOrder_X8_ordersOn
theorem dX8_findOrder_0 : decode cX8_findOrder 0 = .ok (.iload_n 1, 1) := by decide +kernel
theorem dX8_findOrder_1 : decode cX8_findOrder 1 = .ok (.invokestatic 191, 3) := by decide +kernel
theorem dX8_findOrder_4 : decode cX8_findOrder 4 = .ok (.istore_n 3, 1) := by decide +kernel
theorem dX8_findOrder_5 : decode cX8_findOrder 5 = .ok (.iconst 1, 1) := by decide +kernel
theorem dX8_findOrder_6 : decode cX8_findOrder 6 = .ok (.iload_n 3, 1) := by decide +kernel
theorem dX8_findOrder_7 : decode cX8_findOrder 7 = .ok (.ishl, 1) := by decide +kernel
theorem dX8_findOrder_8 : decode cX8_findOrder 8 = .ok (.iconst 1, 1) := by decide +kernel
theorem dX8_findOrder_9 : decode cX8_findOrder 9 = .ok (.isub, 1) := by decide +kernel
theorem dX8_findOrder_10 : decode cX8_findOrder 10 = .ok (.istore 4, 2) := by decide +kernel
theorem dX8_findOrder_12 : decode cX8_findOrder 12 = .ok (.iload 4, 2) := by decide +kernel
theorem dX8_findOrder_14 : decode cX8_findOrder 14 = .ok (.iconst 1, 1) := by decide +kernel
theorem dX8_findOrder_15 : decode cX8_findOrder 15 = .ok (.isub, 1) := by decide +kernel
theorem dX8_findOrder_16 : decode cX8_findOrder 16 = .ok (.istore 5, 2) := by decide +kernel
theorem dX8_findOrder_18 : decode cX8_findOrder 18 = .ok (.iload 5, 2) := by decide +kernel
theorem dX8_findOrder_20 : decode cX8_findOrder 20 = .ok (.ifCond .lt 164, 3) := by decide +kernel
theorem dX8_findOrder_23 : decode cX8_findOrder 23 = .ok (.iload 5, 2) := by decide +kernel
theorem dX8_findOrder_25 : decode cX8_findOrder 25 = .ok (.aload_n 0, 1) := by decide +kernel
theorem dX8_findOrder_26 : decode cX8_findOrder 26 = .ok (.getfield 60, 3) := by decide +kernel
theorem dX8_findOrder_29 : decode cX8_findOrder 29 = .ok (.arraylength, 1) := by decide +kernel
theorem dX8_findOrder_30 : decode cX8_findOrder 30 = .ok (.if_icmp .ge 154, 3) := by decide +kernel
theorem dX8_findOrder_33 : decode cX8_findOrder 33 = .ok (.iload_n 1, 1) := by decide +kernel
theorem dX8_findOrder_34 : decode cX8_findOrder 34 = .ok (.iload 5, 2) := by decide +kernel
theorem dX8_findOrder_36 : decode cX8_findOrder 36 = .ok (.invokestatic 313, 3) := by decide +kernel
theorem dX8_findOrder_39 : decode cX8_findOrder 39 = .ok (.istore 6, 2) := by decide +kernel
theorem dX8_findOrder_41 : decode cX8_findOrder 41 = .ok (.iload_n 1, 1) := by decide +kernel
theorem dX8_findOrder_42 : decode cX8_findOrder 42 = .ok (.iload 6, 2) := by decide +kernel
theorem dX8_findOrder_44 : decode cX8_findOrder 44 = .ok (.iconst (-1), 1) := by decide +kernel
theorem dX8_findOrder_45 : decode cX8_findOrder 45 = .ok (.ixor, 1) := by decide +kernel
theorem dX8_findOrder_46 : decode cX8_findOrder 46 = .ok (.iand, 1) := by decide +kernel
theorem dX8_findOrder_47 : decode cX8_findOrder 47 = .ok (.istore 7, 2) := by decide +kernel
theorem dX8_findOrder_49 : decode cX8_findOrder 49 = .ok (.aload_n 0, 1) := by decide +kernel
theorem dX8_findOrder_50 : decode cX8_findOrder 50 = .ok (.aload_n 0, 1) := by decide +kernel
theorem dX8_findOrder_51 : decode cX8_findOrder 51 = .ok (.getfield 37, 3) := by decide +kernel
theorem dX8_findOrder_54 : decode cX8_findOrder 54 = .ok (.getfield 128, 3) := by decide +kernel
theorem dX8_findOrder_57 : decode cX8_findOrder 57 = .ok (.aload_n 0, 1) := by decide +kernel
theorem dX8_findOrder_58 : decode cX8_findOrder 58 = .ok (.iload 6, 2) := by decide +kernel
theorem dX8_findOrder_60 : decode cX8_findOrder 60 = .ok (.invokevirtual 310, 3) := by decide +kernel
theorem dX8_findOrder_63 : decode cX8_findOrder 63 = .ok (.ior, 1) := by decide +kernel
theorem dX8_findOrder_64 : decode cX8_findOrder 64 = .ok (.aload_n 0, 1) := by decide +kernel
theorem dX8_findOrder_65 : decode cX8_findOrder 65 = .ok (.getfield 37, 3) := by decide +kernel
theorem dX8_findOrder_68 : decode cX8_findOrder 68 = .ok (.getfield 145, 3) := by decide +kernel
theorem dX8_findOrder_71 : decode cX8_findOrder 71 = .ok (.iload 6, 2) := by decide +kernel
theorem dX8_findOrder_73 : decode cX8_findOrder 73 = .ok (.invokevirtual 196, 3) := by decide +kernel
theorem dX8_findOrder_76 : decode cX8_findOrder 76 = .ok (.astore 8, 2) := by decide +kernel
theorem dX8_findOrder_78 : decode cX8_findOrder 78 = .ok (.aload_n 0, 1) := by decide +kernel
theorem dX8_findOrder_79 : decode cX8_findOrder 79 = .ok (.aload_n 0, 1) := by decide +kernel
theorem dX8_findOrder_80 : decode cX8_findOrder 80 = .ok (.iload 7, 2) := by decide +kernel
theorem dX8_findOrder_82 : decode cX8_findOrder 82 = .ok (.invokevirtual 177, 3) := by decide +kernel
theorem dX8_findOrder_85 : decode cX8_findOrder 85 = .ok (.iload_n 2, 1) := by decide +kernel
theorem dX8_findOrder_86 : decode cX8_findOrder 86 = .ok (.aload 8, 2) := by decide +kernel
theorem dX8_findOrder_88 : decode cX8_findOrder 88 = .ok (.invokevirtual 180, 3) := by decide +kernel
theorem dX8_findOrder_91 : decode cX8_findOrder 91 = .ok (.istore 9, 2) := by decide +kernel
theorem dX8_findOrder_93 : decode cX8_findOrder 93 = .ok (.aload_n 0, 1) := by decide +kernel
theorem dX8_findOrder_94 : decode cX8_findOrder 94 = .ok (.getfield 60, 3) := by decide +kernel
theorem dX8_findOrder_97 : decode cX8_findOrder 97 = .ok (.iload 5, 2) := by decide +kernel
theorem dX8_findOrder_99 : decode cX8_findOrder 99 = .ok (.iconst (-1), 1) := by decide +kernel
theorem dX8_findOrder_100 : decode cX8_findOrder 100 = .ok (.iastore, 1) := by decide +kernel
theorem dX8_findOrder_101 : decode cX8_findOrder 101 = .ok (.iload_n 3, 1) := by decide +kernel
theorem dX8_findOrder_102 : decode cX8_findOrder 102 = .ok (.iconst 1, 1) := by decide +kernel
theorem dX8_findOrder_103 : decode cX8_findOrder 103 = .ok (.isub, 1) := by decide +kernel
theorem dX8_findOrder_104 : decode cX8_findOrder 104 = .ok (.istore 10, 2) := by decide +kernel
theorem dX8_findOrder_106 : decode cX8_findOrder 106 = .ok (.iload 10, 2) := by decide +kernel
theorem dX8_findOrder_108 : decode cX8_findOrder 108 = .ok (.ifCond .lt 70, 3) := by decide +kernel
theorem dX8_findOrder_111 : decode cX8_findOrder 111 = .ok (.iload 5, 2) := by decide +kernel
theorem dX8_findOrder_113 : decode cX8_findOrder 113 = .ok (.iload 10, 2) := by decide +kernel
theorem dX8_findOrder_115 : decode cX8_findOrder 115 = .ok (.invokestatic 105, 3) := by decide +kernel
theorem dX8_findOrder_118 : decode cX8_findOrder 118 = .ok (.ifCond .ne 21, 3) := by decide +kernel
theorem dX8_findOrder_121 : decode cX8_findOrder 121 = .ok (.iload 9, 2) := by decide +kernel
theorem dX8_findOrder_123 : decode cX8_findOrder 123 = .ok (.iload_n 1, 1) := by decide +kernel
theorem dX8_findOrder_124 : decode cX8_findOrder 124 = .ok (.iload 10, 2) := by decide +kernel
theorem dX8_findOrder_126 : decode cX8_findOrder 126 = .ok (.invokestatic 316, 3) := by decide +kernel
theorem dX8_findOrder_129 : decode cX8_findOrder 129 = .ok (.invokestatic 105, 3) := by decide +kernel
theorem dX8_findOrder_132 : decode cX8_findOrder 132 = .ok (.ifCond .eq 7, 3) := by decide +kernel
theorem dX8_findOrder_135 : decode cX8_findOrder 135 = .ok (.iconst 1, 1) := by decide +kernel
theorem dX8_findOrder_136 : decode cX8_findOrder 136 = .ok (.goto 4, 3) := by decide +kernel
theorem dX8_findOrder_139 : decode cX8_findOrder 139 = .ok (.iconst 0, 1) := by decide +kernel
theorem dX8_findOrder_140 : decode cX8_findOrder 140 = .ok (.istore 11, 2) := by decide +kernel
theorem dX8_findOrder_142 : decode cX8_findOrder 142 = .ok (.iload 11, 2) := by decide +kernel
theorem dX8_findOrder_144 : decode cX8_findOrder 144 = .ok (.ifCond .eq 28, 3) := by decide +kernel
theorem dX8_findOrder_147 : decode cX8_findOrder 147 = .ok (.aload_n 0, 1) := by decide +kernel
theorem dX8_findOrder_148 : decode cX8_findOrder 148 = .ok (.iload 5, 2) := by decide +kernel
theorem dX8_findOrder_150 : decode cX8_findOrder 150 = .ok (.iconst 1, 1) := by decide +kernel
theorem dX8_findOrder_151 : decode cX8_findOrder 151 = .ok (.iload 10, 2) := by decide +kernel
theorem dX8_findOrder_153 : decode cX8_findOrder 153 = .ok (.ishl, 1) := by decide +kernel
theorem dX8_findOrder_154 : decode cX8_findOrder 154 = .ok (.ior, 1) := by decide +kernel
theorem dX8_findOrder_155 : decode cX8_findOrder 155 = .ok (.iload 4, 2) := by decide +kernel
theorem dX8_findOrder_157 : decode cX8_findOrder 157 = .ok (.invokevirtual 319, 3) := by decide +kernel
theorem dX8_findOrder_160 : decode cX8_findOrder 160 = .ok (.ifCond .eq 12, 3) := by decide +kernel
theorem dX8_findOrder_163 : decode cX8_findOrder 163 = .ok (.aload_n 0, 1) := by decide +kernel
theorem dX8_findOrder_164 : decode cX8_findOrder 164 = .ok (.getfield 60, 3) := by decide +kernel
theorem dX8_findOrder_167 : decode cX8_findOrder 167 = .ok (.iload 5, 2) := by decide +kernel
theorem dX8_findOrder_169 : decode cX8_findOrder 169 = .ok (.iload 10, 2) := by decide +kernel
theorem dX8_findOrder_171 : decode cX8_findOrder 171 = .ok (.iastore, 1) := by decide +kernel
theorem dX8_findOrder_172 : decode cX8_findOrder 172 = .ok (.iinc 10 (-1), 3) := by decide +kernel
theorem dX8_findOrder_175 : decode cX8_findOrder 175 = .ok (.goto (-69), 3) := by decide +kernel
theorem dX8_findOrder_178 : decode cX8_findOrder 178 = .ok (.iinc 5 (-1), 3) := by decide +kernel
theorem dX8_findOrder_181 : decode cX8_findOrder 181 = .ok (.goto (-163), 3) := by decide +kernel
theorem dX8_findOrder_184 : decode cX8_findOrder 184 = .ok (.aload_n 0, 1) := by decide +kernel
theorem dX8_findOrder_185 : decode cX8_findOrder 185 = .ok (.iconst 0, 1) := by decide +kernel
theorem dX8_findOrder_186 : decode cX8_findOrder 186 = .ok (.iload 4, 2) := by decide +kernel
theorem dX8_findOrder_188 : decode cX8_findOrder 188 = .ok (.invokevirtual 319, 3) := by decide +kernel
theorem dX8_findOrder_191 : decode cX8_findOrder 191 = .ok (.ireturn, 1) := by decide +kernel
theorem dX8_ordersOn_0 : decode cX8_ordersOn 0 = .ok (.iload_n 1, 1) := by decide +kernel
theorem dX8_ordersOn_1 : decode cX8_ordersOn 1 = .ok (.iload_n 2, 1) := by decide +kernel
theorem dX8_ordersOn_2 : decode cX8_ordersOn 2 = .ok (.if_icmp .eq 25, 3) := by decide +kernel
theorem dX8_ordersOn_5 : decode cX8_ordersOn 5 = .ok (.iload_n 1, 1) := by decide +kernel
theorem dX8_ordersOn_6 : decode cX8_ordersOn 6 = .ok (.ifCond .lt 25, 3) := by decide +kernel
theorem dX8_ordersOn_9 : decode cX8_ordersOn 9 = .ok (.iload_n 1, 1) := by decide +kernel
theorem dX8_ordersOn_10 : decode cX8_ordersOn 10 = .ok (.aload_n 0, 1) := by decide +kernel
theorem dX8_ordersOn_11 : decode cX8_ordersOn 11 = .ok (.getfield 60, 3) := by decide +kernel
theorem dX8_ordersOn_14 : decode cX8_ordersOn 14 = .ok (.arraylength, 1) := by decide +kernel
theorem dX8_ordersOn_15 : decode cX8_ordersOn 15 = .ok (.if_icmp .ge 16, 3) := by decide +kernel
theorem dX8_ordersOn_18 : decode cX8_ordersOn 18 = .ok (.aload_n 0, 1) := by decide +kernel
theorem dX8_ordersOn_19 : decode cX8_ordersOn 19 = .ok (.getfield 60, 3) := by decide +kernel
theorem dX8_ordersOn_22 : decode cX8_ordersOn 22 = .ok (.iload_n 1, 1) := by decide +kernel
theorem dX8_ordersOn_23 : decode cX8_ordersOn 23 = .ok (.iaload, 1) := by decide +kernel
theorem dX8_ordersOn_24 : decode cX8_ordersOn 24 = .ok (.ifCond .lt 7, 3) := by decide +kernel
theorem dX8_ordersOn_27 : decode cX8_ordersOn 27 = .ok (.iconst 1, 1) := by decide +kernel
theorem dX8_ordersOn_28 : decode cX8_ordersOn 28 = .ok (.goto 4, 3) := by decide +kernel
theorem dX8_ordersOn_31 : decode cX8_ordersOn 31 = .ok (.iconst 0, 1) := by decide +kernel
theorem dX8_ordersOn_32 : decode cX8_ordersOn 32 = .ok (.ireturn, 1) := by decide +kernel
set_option maxRecDepth 20000 in
theorem ggX8_wordInOrder_X8_wordAtPlace : GoodIn wsX8_wordInOrder wsX8_wordAtPlace := goodIn_r _ [5, 6, 7, 4, 8] (by decide +kernel) (by decide +kernel)
set_option maxRecDepth 20000 in
theorem gX8_wordInOrder_X8_wordAtPlace : GoodIn wsX8_wordInOrder (va_wsS RX8 316 yX8_wordAtPlace wsX8_wordAtPlace) := goodIn_app (goodIn_of _ (by decide +kernel)) ggX8_wordInOrder_X8_wordAtPlace
theorem dX8_wordInOrder_0 : decode cX8_wordInOrder 0 = .ok (.iconst 0, 1) := by decide +kernel
theorem dX8_wordInOrder_1 : decode cX8_wordInOrder 1 = .ok (.istore_n 3, 1) := by decide +kernel
theorem dX8_wordInOrder_2 : decode cX8_wordInOrder 2 = .ok (.iconst (-1), 1) := by decide +kernel
theorem dX8_wordInOrder_3 : decode cX8_wordInOrder 3 = .ok (.istore 4, 2) := by decide +kernel
theorem dX8_wordInOrder_5 : decode cX8_wordInOrder 5 = .ok (.iconst 0, 1) := by decide +kernel
theorem dX8_wordInOrder_6 : decode cX8_wordInOrder 6 = .ok (.istore 5, 2) := by decide +kernel
theorem dX8_wordInOrder_8 : decode cX8_wordInOrder 8 = .ok (.iload 5, 2) := by decide +kernel
theorem dX8_wordInOrder_10 : decode cX8_wordInOrder 10 = .ok (.iload_n 2, 1) := by decide +kernel
theorem dX8_wordInOrder_11 : decode cX8_wordInOrder 11 = .ok (.if_icmp .gt 37, 3) := by decide +kernel
theorem dX8_wordInOrder_14 : decode cX8_wordInOrder 14 = .ok (.iload_n 3, 1) := by decide +kernel
theorem dX8_wordInOrder_15 : decode cX8_wordInOrder 15 = .ok (.ifCond .lt 33, 3) := by decide +kernel
theorem dX8_wordInOrder_18 : decode cX8_wordInOrder 18 = .ok (.iload_n 3, 1) := by decide +kernel
theorem dX8_wordInOrder_19 : decode cX8_wordInOrder 19 = .ok (.aload_n 0, 1) := by decide +kernel
theorem dX8_wordInOrder_20 : decode cX8_wordInOrder 20 = .ok (.getfield 60, 3) := by decide +kernel
theorem dX8_wordInOrder_23 : decode cX8_wordInOrder 23 = .ok (.arraylength, 1) := by decide +kernel
theorem dX8_wordInOrder_24 : decode cX8_wordInOrder 24 = .ok (.if_icmp .ge 24, 3) := by decide +kernel
theorem dX8_wordInOrder_27 : decode cX8_wordInOrder 27 = .ok (.aload_n 0, 1) := by decide +kernel
theorem dX8_wordInOrder_28 : decode cX8_wordInOrder 28 = .ok (.getfield 60, 3) := by decide +kernel
theorem dX8_wordInOrder_31 : decode cX8_wordInOrder 31 = .ok (.iload_n 3, 1) := by decide +kernel
theorem dX8_wordInOrder_32 : decode cX8_wordInOrder 32 = .ok (.iaload, 1) := by decide +kernel
theorem dX8_wordInOrder_33 : decode cX8_wordInOrder 33 = .ok (.istore 4, 2) := by decide +kernel
theorem dX8_wordInOrder_35 : decode cX8_wordInOrder 35 = .ok (.iload_n 3, 1) := by decide +kernel
theorem dX8_wordInOrder_36 : decode cX8_wordInOrder 36 = .ok (.iconst 1, 1) := by decide +kernel
theorem dX8_wordInOrder_37 : decode cX8_wordInOrder 37 = .ok (.iload 4, 2) := by decide +kernel
theorem dX8_wordInOrder_39 : decode cX8_wordInOrder 39 = .ok (.ishl, 1) := by decide +kernel
theorem dX8_wordInOrder_40 : decode cX8_wordInOrder 40 = .ok (.ior, 1) := by decide +kernel
theorem dX8_wordInOrder_41 : decode cX8_wordInOrder 41 = .ok (.istore_n 3, 1) := by decide +kernel
theorem dX8_wordInOrder_42 : decode cX8_wordInOrder 42 = .ok (.iinc 5 1, 3) := by decide +kernel
theorem dX8_wordInOrder_45 : decode cX8_wordInOrder 45 = .ok (.goto (-37), 3) := by decide +kernel
theorem dX8_wordInOrder_48 : decode cX8_wordInOrder 48 = .ok (.iload_n 1, 1) := by decide +kernel
theorem dX8_wordInOrder_49 : decode cX8_wordInOrder 49 = .ok (.iload 4, 2) := by decide +kernel
theorem dX8_wordInOrder_51 : decode cX8_wordInOrder 51 = .ok (.invokestatic 316, 3) := by decide +kernel
theorem dX8_wordInOrder_54 : decode cX8_wordInOrder 54 = .ok (.ireturn, 1) := by decide +kernel
set_option maxRecDepth 20000 in
theorem ggX8_wordAtPlace_X8_has : GoodIn wsX8_wordAtPlace wsX8_has := goodIn_r _ [4] (by decide +kernel) (by decide +kernel)
set_option maxRecDepth 20000 in
theorem gX8_wordAtPlace_X8_has : GoodIn wsX8_wordAtPlace (va_wsS RX8 105 yX8_has wsX8_has) := goodIn_app (goodIn_of _ (by decide +kernel)) ggX8_wordAtPlace_X8_has
theorem dX8_wordAtPlace_0 : decode cX8_wordAtPlace 0 = .ok (.iconst 0, 1) := by decide +kernel
theorem dX8_wordAtPlace_1 : decode cX8_wordAtPlace 1 = .ok (.istore_n 2, 1) := by decide +kernel
theorem dX8_wordAtPlace_2 : decode cX8_wordAtPlace 2 = .ok (.iconst 0, 1) := by decide +kernel
theorem dX8_wordAtPlace_3 : decode cX8_wordAtPlace 3 = .ok (.istore_n 3, 1) := by decide +kernel
theorem dX8_wordAtPlace_4 : decode cX8_wordAtPlace 4 = .ok (.iload_n 3, 1) := by decide +kernel
theorem dX8_wordAtPlace_5 : decode cX8_wordAtPlace 5 = .ok (.bipush 14, 2) := by decide +kernel
theorem dX8_wordAtPlace_7 : decode cX8_wordAtPlace 7 = .ok (.if_icmp .ge 27, 3) := by decide +kernel
theorem dX8_wordAtPlace_10 : decode cX8_wordAtPlace 10 = .ok (.iload_n 0, 1) := by decide +kernel
theorem dX8_wordAtPlace_11 : decode cX8_wordAtPlace 11 = .ok (.iload_n 3, 1) := by decide +kernel
theorem dX8_wordAtPlace_12 : decode cX8_wordAtPlace 12 = .ok (.invokestatic 105, 3) := by decide +kernel
theorem dX8_wordAtPlace_15 : decode cX8_wordAtPlace 15 = .ok (.ifCond .eq 13, 3) := by decide +kernel
theorem dX8_wordAtPlace_18 : decode cX8_wordAtPlace 18 = .ok (.iload_n 2, 1) := by decide +kernel
theorem dX8_wordAtPlace_19 : decode cX8_wordAtPlace 19 = .ok (.iload_n 1, 1) := by decide +kernel
theorem dX8_wordAtPlace_20 : decode cX8_wordAtPlace 20 = .ok (.if_icmp .ne 5, 3) := by decide +kernel
theorem dX8_wordAtPlace_23 : decode cX8_wordAtPlace 23 = .ok (.iload_n 3, 1) := by decide +kernel
theorem dX8_wordAtPlace_24 : decode cX8_wordAtPlace 24 = .ok (.ireturn, 1) := by decide +kernel
theorem dX8_wordAtPlace_25 : decode cX8_wordAtPlace 25 = .ok (.iinc 2 1, 3) := by decide +kernel
theorem dX8_wordAtPlace_28 : decode cX8_wordAtPlace 28 = .ok (.iinc 3 1, 3) := by decide +kernel
theorem dX8_wordAtPlace_31 : decode cX8_wordAtPlace 31 = .ok (.goto (-27), 3) := by decide +kernel
theorem dX8_wordAtPlace_34 : decode cX8_wordAtPlace 34 = .ok (.iconst (-1), 1) := by decide +kernel
theorem dX8_wordAtPlace_35 : decode cX8_wordAtPlace 35 = .ok (.ireturn, 1) := by decide +kernel
set_option maxRecDepth 20000 in
theorem ggX8_wordsAtPlaces_X8_wordAtPlace : GoodIn wsX8_wordsAtPlaces wsX8_wordAtPlace := goodIn_r _ [4, 5, 6, 3, 7] (by decide +kernel) (by decide +kernel)
set_option maxRecDepth 20000 in
theorem gX8_wordsAtPlaces_X8_wordAtPlace : GoodIn wsX8_wordsAtPlaces (va_wsS RX8 316 yX8_wordAtPlace wsX8_wordAtPlace) := goodIn_app (goodIn_of _ (by decide +kernel)) ggX8_wordsAtPlaces_X8_wordAtPlace
set_option maxRecDepth 20000 in
theorem ggX8_wordsAtPlaces_X8_has : GoodIn wsX8_wordsAtPlaces wsX8_has := goodIn_r _ [7] (by decide +kernel) (by decide +kernel)
set_option maxRecDepth 20000 in
theorem gX8_wordsAtPlaces_X8_has : GoodIn wsX8_wordsAtPlaces (va_wsS RX8 105 yX8_has wsX8_has) := goodIn_app (goodIn_of _ (by decide +kernel)) ggX8_wordsAtPlaces_X8_has
theorem dX8_wordsAtPlaces_0 : decode cX8_wordsAtPlaces 0 = .ok (.iconst 0, 1) := by decide +kernel
theorem dX8_wordsAtPlaces_1 : decode cX8_wordsAtPlaces 1 = .ok (.istore_n 2, 1) := by decide +kernel
theorem dX8_wordsAtPlaces_2 : decode cX8_wordsAtPlaces 2 = .ok (.iconst 0, 1) := by decide +kernel
theorem dX8_wordsAtPlaces_3 : decode cX8_wordsAtPlaces 3 = .ok (.istore_n 3, 1) := by decide +kernel
theorem dX8_wordsAtPlaces_4 : decode cX8_wordsAtPlaces 4 = .ok (.iload_n 3, 1) := by decide +kernel
theorem dX8_wordsAtPlaces_5 : decode cX8_wordsAtPlaces 5 = .ok (.iconst 5, 1) := by decide +kernel
theorem dX8_wordsAtPlaces_6 : decode cX8_wordsAtPlaces 6 = .ok (.if_icmp .ge 36, 3) := by decide +kernel
theorem dX8_wordsAtPlaces_9 : decode cX8_wordsAtPlaces 9 = .ok (.iload_n 0, 1) := by decide +kernel
theorem dX8_wordsAtPlaces_10 : decode cX8_wordsAtPlaces 10 = .ok (.iload_n 3, 1) := by decide +kernel
theorem dX8_wordsAtPlaces_11 : decode cX8_wordsAtPlaces 11 = .ok (.invokestatic 316, 3) := by decide +kernel
theorem dX8_wordsAtPlaces_14 : decode cX8_wordsAtPlaces 14 = .ok (.istore 4, 2) := by decide +kernel
theorem dX8_wordsAtPlaces_16 : decode cX8_wordsAtPlaces 16 = .ok (.iload 4, 2) := by decide +kernel
theorem dX8_wordsAtPlaces_18 : decode cX8_wordsAtPlaces 18 = .ok (.ifCond .lt 18, 3) := by decide +kernel
theorem dX8_wordsAtPlaces_21 : decode cX8_wordsAtPlaces 21 = .ok (.iload_n 1, 1) := by decide +kernel
theorem dX8_wordsAtPlaces_22 : decode cX8_wordsAtPlaces 22 = .ok (.iload_n 3, 1) := by decide +kernel
theorem dX8_wordsAtPlaces_23 : decode cX8_wordsAtPlaces 23 = .ok (.invokestatic 105, 3) := by decide +kernel
theorem dX8_wordsAtPlaces_26 : decode cX8_wordsAtPlaces 26 = .ok (.ifCond .eq 10, 3) := by decide +kernel
theorem dX8_wordsAtPlaces_29 : decode cX8_wordsAtPlaces 29 = .ok (.iload_n 2, 1) := by decide +kernel
theorem dX8_wordsAtPlaces_30 : decode cX8_wordsAtPlaces 30 = .ok (.iconst 1, 1) := by decide +kernel
theorem dX8_wordsAtPlaces_31 : decode cX8_wordsAtPlaces 31 = .ok (.iload 4, 2) := by decide +kernel
theorem dX8_wordsAtPlaces_33 : decode cX8_wordsAtPlaces 33 = .ok (.ishl, 1) := by decide +kernel
theorem dX8_wordsAtPlaces_34 : decode cX8_wordsAtPlaces 34 = .ok (.ior, 1) := by decide +kernel
theorem dX8_wordsAtPlaces_35 : decode cX8_wordsAtPlaces 35 = .ok (.istore_n 2, 1) := by decide +kernel
theorem dX8_wordsAtPlaces_36 : decode cX8_wordsAtPlaces 36 = .ok (.iinc 3 1, 3) := by decide +kernel
theorem dX8_wordsAtPlaces_39 : decode cX8_wordsAtPlaces 39 = .ok (.goto (-35), 3) := by decide +kernel
theorem dX8_wordsAtPlaces_42 : decode cX8_wordsAtPlaces 42 = .ok (.iload_n 2, 1) := by decide +kernel
theorem dX8_wordsAtPlaces_43 : decode cX8_wordsAtPlaces 43 = .ok (.ireturn, 1) := by decide +kernel
set_option maxRecDepth 20000 in
theorem ggX8_hangingOn_X8_allWords : GoodIn wsX8_hangingOn wsX8_allWords := goodIn_r _ [11, 12, 13, 14, 15, 16, 17, 18, 118, 119, 120, 121, 122, 123, 124, 125, 126, 127, 131, 132, 133] (by decide +kernel) (by decide +kernel)
set_option maxRecDepth 20000 in
theorem gX8_hangingOn_X8_allWords : GoodIn wsX8_hangingOn (wsV RX8 207 RX8 yX8_allWords wsX8_allWords) := goodIn_app (goodIn_of _ (by decide +kernel)) ggX8_hangingOn_X8_allWords
set_option maxRecDepth 20000 in
theorem ggX8_hangingOn_X8_suppose : GoodIn wsX8_hangingOn wsX8_suppose := goodIn_r _ [22, 23, 6, 3, 24, 118, 119, 120, 121, 122, 123, 124, 125, 126, 127, 128, 129, 130] (by decide +kernel) (by decide +kernel)
set_option maxRecDepth 20000 in
theorem gX8_hangingOn_X8_suppose : GoodIn wsX8_hangingOn (wsV RX8 196 RX8 yX8_suppose wsX8_suppose) := goodIn_app (goodIn_of _ (by decide +kernel)) ggX8_hangingOn_X8_suppose
set_option maxRecDepth 20000 in
theorem ggX8_hangingOn_X8_heardToPartsEnd : GoodIn wsX8_hangingOn wsX8_heardToPartsEnd := goodIn_r _ [28, 12, 29, 30, 13, 14, 15, 16, 17, 18, 31, 32, 33, 34, 35, 36, 37, 38, 39, 40, 41, 42, 43, 44, 45, 46, 47, 48, 49, 10, 50, 51, 52, 53, 54, 55, 56, 5, 57, 58, 59, 60, 61, 62, 63, 64, 65, 66, 67, 68, 69, 70, 71, 72, 73, 74, 75, 76, 77, 78, 79, 80, 81, 82, 83, 84, 85, 86, 87, 88, 89, 90, 91, 92, 93, 94, 95, 96, 97, 98, 99, 100, 101, 102, 103, 104, 105, 118, 119, 120, 121, 122, 123, 124, 125, 126, 127, 134, 135, 136, 137, 138, 139, 140, 131, 132, 133, 111, 112, 113, 114, 115, 116, 117, 141, 142, 143, 128, 129, 130, 144, 145, 146] (by decide +kernel) (by decide +kernel)
set_option maxRecDepth 20000 in
theorem gX8_hangingOn_X8_heardToPartsEnd : GoodIn wsX8_hangingOn (wsV RX8 180 RX8 yX8_heardToPartsEnd wsX8_heardToPartsEnd) := goodIn_app (goodIn_of _ (by decide +kernel)) ggX8_hangingOn_X8_heardToPartsEnd
set_option maxRecDepth 20000 in
theorem ggX8_hangingOn_X8_heardTo : GoodIn wsX8_hangingOn wsX8_heardTo := goodIn_r _ [109, 12, 29, 30, 13, 14, 15, 16, 17, 18, 31, 32, 33, 34, 35, 36, 37, 38, 39, 40, 41, 42, 43, 44, 45, 46, 47, 51, 52, 53, 10, 54, 55, 56, 5, 57, 58, 59, 60, 61, 62, 63, 64, 65, 66, 67, 68, 69, 70, 71, 72, 73, 74, 75, 76, 77, 78, 79, 80, 81, 82, 83, 84, 85, 86, 87, 88, 89, 90, 91, 92, 93, 94, 95, 96, 97, 98, 99, 49, 50, 100, 101, 102, 103, 104, 105, 118, 119, 120, 121, 122, 123, 124, 125, 126, 127, 134, 135, 136, 137, 138, 139, 140, 131, 132, 133, 111, 112, 113, 114, 115, 116, 117, 141, 142, 143, 128, 129, 130, 144, 145, 146] (by decide +kernel) (by decide +kernel)
set_option maxRecDepth 20000 in
theorem gX8_hangingOn_X8_heardTo : GoodIn wsX8_hangingOn (wsV RX8 238 RX8 yX8_heardTo wsX8_heardTo) := goodIn_app (goodIn_of _ (by decide +kernel)) ggX8_hangingOn_X8_heardTo
set_option maxRecDepth 20000 in
theorem ggX8_hangingOn_J6_bitCount_0f7a4 : GoodIn wsX8_hangingOn wsJ6_bitCount_0f7a4 := goodIn_r _ [71, 72, 73, 74] (by decide +kernel) (by decide +kernel)
set_option maxRecDepth 20000 in
theorem gX8_hangingOn_J6_bitCount_0f7a4 : GoodIn wsX8_hangingOn (va_wsS RX8 191 yJ6_bitCount_0f7a4 wsJ6_bitCount_0f7a4) := goodIn_app (goodIn_of _ (by decide +kernel)) ggX8_hangingOn_J6_bitCount_0f7a4
theorem dX8_hangingOn_0 : decode cX8_hangingOn 0 = .ok (.aload_n 1, 1) := by decide +kernel
theorem dX8_hangingOn_1 : decode cX8_hangingOn 1 = .ok (.getfield 322, 3) := by decide +kernel
theorem dX8_hangingOn_4 : decode cX8_hangingOn 4 = .ok (.ifCond .ne 5, 3) := by decide +kernel
theorem dX8_hangingOn_7 : decode cX8_hangingOn 7 = .ok (.iconst 0, 1) := by decide +kernel
theorem dX8_hangingOn_8 : decode cX8_hangingOn 8 = .ok (.ireturn, 1) := by decide +kernel
theorem dX8_hangingOn_9 : decode cX8_hangingOn 9 = .ok (.aload_n 0, 1) := by decide +kernel
theorem dX8_hangingOn_10 : decode cX8_hangingOn 10 = .ok (.getfield 37, 3) := by decide +kernel
theorem dX8_hangingOn_13 : decode cX8_hangingOn 13 = .ok (.getfield 145, 3) := by decide +kernel
theorem dX8_hangingOn_16 : decode cX8_hangingOn 16 = .ok (.iconst 1, 1) := by decide +kernel
theorem dX8_hangingOn_17 : decode cX8_hangingOn 17 = .ok (.aload_n 1, 1) := by decide +kernel
theorem dX8_hangingOn_18 : decode cX8_hangingOn 18 = .ok (.getfield 325, 3) := by decide +kernel
theorem dX8_hangingOn_21 : decode cX8_hangingOn 21 = .ok (.ishl, 1) := by decide +kernel
theorem dX8_hangingOn_22 : decode cX8_hangingOn 22 = .ok (.ior, 1) := by decide +kernel
theorem dX8_hangingOn_23 : decode cX8_hangingOn 23 = .ok (.istore_n 2, 1) := by decide +kernel
theorem dX8_hangingOn_24 : decode cX8_hangingOn 24 = .ok (.aload_n 0, 1) := by decide +kernel
theorem dX8_hangingOn_25 : decode cX8_hangingOn 25 = .ok (.getfield 37, 3) := by decide +kernel
theorem dX8_hangingOn_28 : decode cX8_hangingOn 28 = .ok (.getfield 145, 3) := by decide +kernel
theorem dX8_hangingOn_31 : decode cX8_hangingOn 31 = .ok (.iconst 1, 1) := by decide +kernel
theorem dX8_hangingOn_32 : decode cX8_hangingOn 32 = .ok (.aload_n 1, 1) := by decide +kernel
theorem dX8_hangingOn_33 : decode cX8_hangingOn 33 = .ok (.getfield 325, 3) := by decide +kernel
theorem dX8_hangingOn_36 : decode cX8_hangingOn 36 = .ok (.ishl, 1) := by decide +kernel
theorem dX8_hangingOn_37 : decode cX8_hangingOn 37 = .ok (.iconst (-1), 1) := by decide +kernel
theorem dX8_hangingOn_38 : decode cX8_hangingOn 38 = .ok (.ixor, 1) := by decide +kernel
theorem dX8_hangingOn_39 : decode cX8_hangingOn 39 = .ok (.iand, 1) := by decide +kernel
theorem dX8_hangingOn_40 : decode cX8_hangingOn 40 = .ok (.istore_n 3, 1) := by decide +kernel
theorem dX8_hangingOn_41 : decode cX8_hangingOn 41 = .ok (.aload_n 0, 1) := by decide +kernel
theorem dX8_hangingOn_42 : decode cX8_hangingOn 42 = .ok (.aload_n 0, 1) := by decide +kernel
theorem dX8_hangingOn_43 : decode cX8_hangingOn 43 = .ok (.invokevirtual 207, 3) := by decide +kernel
theorem dX8_hangingOn_46 : decode cX8_hangingOn 46 = .ok (.aload_n 1, 1) := by decide +kernel
theorem dX8_hangingOn_47 : decode cX8_hangingOn 47 = .ok (.getfield 224, 3) := by decide +kernel
theorem dX8_hangingOn_50 : decode cX8_hangingOn 50 = .ok (.aload_n 0, 1) := by decide +kernel
theorem dX8_hangingOn_51 : decode cX8_hangingOn 51 = .ok (.aload_n 0, 1) := by decide +kernel
theorem dX8_hangingOn_52 : decode cX8_hangingOn 52 = .ok (.getfield 37, 3) := by decide +kernel
theorem dX8_hangingOn_55 : decode cX8_hangingOn 55 = .ok (.getfield 128, 3) := by decide +kernel
theorem dX8_hangingOn_58 : decode cX8_hangingOn 58 = .ok (.iload_n 2, 1) := by decide +kernel
theorem dX8_hangingOn_59 : decode cX8_hangingOn 59 = .ok (.iconst 0, 1) := by decide +kernel
theorem dX8_hangingOn_60 : decode cX8_hangingOn 60 = .ok (.invokevirtual 196, 3) := by decide +kernel
theorem dX8_hangingOn_63 : decode cX8_hangingOn 63 = .ok (.invokevirtual 180, 3) := by decide +kernel
theorem dX8_hangingOn_66 : decode cX8_hangingOn 66 = .ok (.istore 4, 2) := by decide +kernel
theorem dX8_hangingOn_68 : decode cX8_hangingOn 68 = .ok (.aload_n 0, 1) := by decide +kernel
theorem dX8_hangingOn_69 : decode cX8_hangingOn 69 = .ok (.aload_n 0, 1) := by decide +kernel
theorem dX8_hangingOn_70 : decode cX8_hangingOn 70 = .ok (.invokevirtual 207, 3) := by decide +kernel
theorem dX8_hangingOn_73 : decode cX8_hangingOn 73 = .ok (.aload_n 1, 1) := by decide +kernel
theorem dX8_hangingOn_74 : decode cX8_hangingOn 74 = .ok (.getfield 224, 3) := by decide +kernel
theorem dX8_hangingOn_77 : decode cX8_hangingOn 77 = .ok (.aload_n 0, 1) := by decide +kernel
theorem dX8_hangingOn_78 : decode cX8_hangingOn 78 = .ok (.aload_n 0, 1) := by decide +kernel
theorem dX8_hangingOn_79 : decode cX8_hangingOn 79 = .ok (.getfield 37, 3) := by decide +kernel
theorem dX8_hangingOn_82 : decode cX8_hangingOn 82 = .ok (.getfield 128, 3) := by decide +kernel
theorem dX8_hangingOn_85 : decode cX8_hangingOn 85 = .ok (.iload_n 3, 1) := by decide +kernel
theorem dX8_hangingOn_86 : decode cX8_hangingOn 86 = .ok (.iconst 0, 1) := by decide +kernel
theorem dX8_hangingOn_87 : decode cX8_hangingOn 87 = .ok (.invokevirtual 196, 3) := by decide +kernel
theorem dX8_hangingOn_90 : decode cX8_hangingOn 90 = .ok (.invokevirtual 180, 3) := by decide +kernel
theorem dX8_hangingOn_93 : decode cX8_hangingOn 93 = .ok (.istore 5, 2) := by decide +kernel
theorem dX8_hangingOn_95 : decode cX8_hangingOn 95 = .ok (.iconst 0, 1) := by decide +kernel
theorem dX8_hangingOn_96 : decode cX8_hangingOn 96 = .ok (.istore 6, 2) := by decide +kernel
theorem dX8_hangingOn_98 : decode cX8_hangingOn 98 = .ok (.iconst 0, 1) := by decide +kernel
theorem dX8_hangingOn_99 : decode cX8_hangingOn 99 = .ok (.istore 7, 2) := by decide +kernel
theorem dX8_hangingOn_101 : decode cX8_hangingOn 101 = .ok (.iload 7, 2) := by decide +kernel
theorem dX8_hangingOn_103 : decode cX8_hangingOn 103 = .ok (.iconst 4, 1) := by decide +kernel
theorem dX8_hangingOn_104 : decode cX8_hangingOn 104 = .ok (.if_icmp .ge 76, 3) := by decide +kernel
theorem dX8_hangingOn_107 : decode cX8_hangingOn 107 = .ok (.aload_n 0, 1) := by decide +kernel
theorem dX8_hangingOn_108 : decode cX8_hangingOn 108 = .ok (.iload 7, 2) := by decide +kernel
theorem dX8_hangingOn_110 : decode cX8_hangingOn 110 = .ok (.aload_n 1, 1) := by decide +kernel
theorem dX8_hangingOn_111 : decode cX8_hangingOn 111 = .ok (.getfield 224, 3) := by decide +kernel
theorem dX8_hangingOn_114 : decode cX8_hangingOn 114 = .ok (.aload_n 0, 1) := by decide +kernel
theorem dX8_hangingOn_115 : decode cX8_hangingOn 115 = .ok (.aload_n 0, 1) := by decide +kernel
theorem dX8_hangingOn_116 : decode cX8_hangingOn 116 = .ok (.getfield 37, 3) := by decide +kernel
theorem dX8_hangingOn_119 : decode cX8_hangingOn 119 = .ok (.getfield 128, 3) := by decide +kernel
theorem dX8_hangingOn_122 : decode cX8_hangingOn 122 = .ok (.iload_n 2, 1) := by decide +kernel
theorem dX8_hangingOn_123 : decode cX8_hangingOn 123 = .ok (.iconst 0, 1) := by decide +kernel
theorem dX8_hangingOn_124 : decode cX8_hangingOn 124 = .ok (.invokevirtual 196, 3) := by decide +kernel
theorem dX8_hangingOn_127 : decode cX8_hangingOn 127 = .ok (.iload 4, 2) := by decide +kernel
theorem dX8_hangingOn_129 : decode cX8_hangingOn 129 = .ok (.invokevirtual 238, 3) := by decide +kernel
theorem dX8_hangingOn_132 : decode cX8_hangingOn 132 = .ok (.istore 8, 2) := by decide +kernel
theorem dX8_hangingOn_134 : decode cX8_hangingOn 134 = .ok (.aload_n 0, 1) := by decide +kernel
theorem dX8_hangingOn_135 : decode cX8_hangingOn 135 = .ok (.iload 7, 2) := by decide +kernel
theorem dX8_hangingOn_137 : decode cX8_hangingOn 137 = .ok (.aload_n 1, 1) := by decide +kernel
theorem dX8_hangingOn_138 : decode cX8_hangingOn 138 = .ok (.getfield 224, 3) := by decide +kernel
theorem dX8_hangingOn_141 : decode cX8_hangingOn 141 = .ok (.aload_n 0, 1) := by decide +kernel
theorem dX8_hangingOn_142 : decode cX8_hangingOn 142 = .ok (.aload_n 0, 1) := by decide +kernel
theorem dX8_hangingOn_143 : decode cX8_hangingOn 143 = .ok (.getfield 37, 3) := by decide +kernel
theorem dX8_hangingOn_146 : decode cX8_hangingOn 146 = .ok (.getfield 128, 3) := by decide +kernel
theorem dX8_hangingOn_149 : decode cX8_hangingOn 149 = .ok (.iload_n 3, 1) := by decide +kernel
theorem dX8_hangingOn_150 : decode cX8_hangingOn 150 = .ok (.iconst 0, 1) := by decide +kernel
theorem dX8_hangingOn_151 : decode cX8_hangingOn 151 = .ok (.invokevirtual 196, 3) := by decide +kernel
theorem dX8_hangingOn_154 : decode cX8_hangingOn 154 = .ok (.iload 5, 2) := by decide +kernel
theorem dX8_hangingOn_156 : decode cX8_hangingOn 156 = .ok (.invokevirtual 238, 3) := by decide +kernel
theorem dX8_hangingOn_159 : decode cX8_hangingOn 159 = .ok (.istore 9, 2) := by decide +kernel
theorem dX8_hangingOn_161 : decode cX8_hangingOn 161 = .ok (.iload 6, 2) := by decide +kernel
theorem dX8_hangingOn_163 : decode cX8_hangingOn 163 = .ok (.iload 8, 2) := by decide +kernel
theorem dX8_hangingOn_165 : decode cX8_hangingOn 165 = .ok (.iload 9, 2) := by decide +kernel
theorem dX8_hangingOn_167 : decode cX8_hangingOn 167 = .ok (.ixor, 1) := by decide +kernel
theorem dX8_hangingOn_168 : decode cX8_hangingOn 168 = .ok (.invokestatic 191, 3) := by decide +kernel
theorem dX8_hangingOn_171 : decode cX8_hangingOn 171 = .ok (.iadd, 1) := by decide +kernel
theorem dX8_hangingOn_172 : decode cX8_hangingOn 172 = .ok (.istore 6, 2) := by decide +kernel
theorem dX8_hangingOn_174 : decode cX8_hangingOn 174 = .ok (.iinc 7 1, 3) := by decide +kernel
theorem dX8_hangingOn_177 : decode cX8_hangingOn 177 = .ok (.goto (-76), 3) := by decide +kernel
theorem dX8_hangingOn_180 : decode cX8_hangingOn 180 = .ok (.iload 6, 2) := by decide +kernel
theorem dX8_hangingOn_182 : decode cX8_hangingOn 182 = .ok (.ireturn, 1) := by decide +kernel
set_option maxRecDepth 20000 in
theorem ggX8_rightlyTold_Jx4a65c_clear_da8c8 : GoodIn wsX8_rightlyTold wsJx4a65c_clear_da8c8 := goodIn_r _ [11, 12, 13, 14, 15, 178, 179, 180] (by decide +kernel) (by decide +kernel)
set_option maxRecDepth 20000 in
theorem gX8_rightlyTold_Jx4a65c_clear_da8c8 : GoodIn wsX8_rightlyTold (wsV RX8 326 RJx4a65c yJx4a65c_clear_da8c8 wsJx4a65c_clear_da8c8) := goodIn_app (goodIn_of _ (by decide +kernel)) ggX8_rightlyTold_Jx4a65c_clear_da8c8
set_option maxRecDepth 20000 in
theorem ggX8_rightlyTold_Jx4a65c_add_9ea2d : GoodIn wsX8_rightlyTold wsJx4a65c_add_9ea2d := goodIn_r _ [19, 12, 13, 14, 15, 20, 21, 22, 10, 23, 24, 25, 26, 27, 28, 29, 30, 31, 32, 33, 34, 35, 36, 37, 38, 39, 40, 41, 42, 43, 44, 45, 46, 47, 48, 49, 50, 51, 52, 53, 54, 55, 56, 57, 58, 59, 60, 61, 62, 63, 64, 65, 66, 178, 179, 180] (by decide +kernel) (by decide +kernel)
set_option maxRecDepth 20000 in
theorem gX8_rightlyTold_Jx4a65c_add_9ea2d : GoodIn wsX8_rightlyTold (wsV RX8 89 RJx4a65c yJx4a65c_add_9ea2d wsJx4a65c_add_9ea2d) := goodIn_app (goodIn_of _ (by decide +kernel)) ggX8_rightlyTold_Jx4a65c_add_9ea2d
set_option maxRecDepth 20000 in
theorem ggX8_rightlyTold_Jx4a65c_isEmpty_aae02 : GoodIn wsX8_rightlyTold wsJx4a65c_isEmpty_aae02 := goodIn_r _ [70, 15, 178, 179, 180] (by decide +kernel) (by decide +kernel)
set_option maxRecDepth 20000 in
theorem gX8_rightlyTold_Jx4a65c_isEmpty_aae02 : GoodIn wsX8_rightlyTold (wsV RX8 329 RJx4a65c yJx4a65c_isEmpty_aae02 wsJx4a65c_isEmpty_aae02) := goodIn_app (goodIn_of _ (by decide +kernel)) ggX8_rightlyTold_Jx4a65c_isEmpty_aae02
set_option maxRecDepth 20000 in
theorem ggX8_rightlyTold_Jx4a65c_size_8abf5 : GoodIn wsX8_rightlyTold wsJx4a65c_size_8abf5 := goodIn_r _ [74, 15, 178, 179, 180] (by decide +kernel) (by decide +kernel)
set_option maxRecDepth 20000 in
theorem gX8_rightlyTold_Jx4a65c_size_8abf5 : GoodIn wsX8_rightlyTold (wsV RX8 80 RJx4a65c yJx4a65c_size_8abf5 wsJx4a65c_size_8abf5) := goodIn_app (goodIn_of _ (by decide +kernel)) ggX8_rightlyTold_Jx4a65c_size_8abf5
set_option maxRecDepth 20000 in
theorem ggX8_rightlyTold_Jx4a65c_remove_915e3 : GoodIn wsX8_rightlyTold wsJx4a65c_remove_915e3 := goodIn_r _ [78, 15, 14, 79, 80, 81, 82, 83, 84, 85, 86, 87, 88, 89, 10, 90, 12, 13, 91, 64, 65, 66, 178, 179, 180] (by decide +kernel) (by decide +kernel)
set_option maxRecDepth 20000 in
theorem gX8_rightlyTold_Jx4a65c_remove_915e3 : GoodIn wsX8_rightlyTold (wsV RX8 333 RJx4a65c yJx4a65c_remove_915e3 wsJx4a65c_remove_915e3) := goodIn_app (goodIn_of _ (by decide +kernel)) ggX8_rightlyTold_Jx4a65c_remove_915e3
set_option maxRecDepth 20000 in
theorem ggX8_rightlyTold_Jx4a65c_get_915e3 : GoodIn wsX8_rightlyTold wsJx4a65c_get_915e3 := goodIn_r _ [95, 15, 79, 80, 81, 82, 83, 84, 85, 86, 96, 97, 98, 10, 99, 14, 178, 179, 180] (by decide +kernel) (by decide +kernel)
set_option maxRecDepth 20000 in
theorem gX8_rightlyTold_Jx4a65c_get_915e3 : GoodIn wsX8_rightlyTold (wsV RX8 220 RJx4a65c yJx4a65c_get_915e3 wsJx4a65c_get_915e3) := goodIn_app (goodIn_of _ (by decide +kernel)) ggX8_rightlyTold_Jx4a65c_get_915e3
set_option maxRecDepth 20000 in
theorem ggX8_rightlyTold_X6_hasPlace : GoodIn wsX8_rightlyTold wsX6_hasPlace := goodIn_r _ [103, 104, 105, 181, 182, 183] (by decide +kernel) (by decide +kernel)
set_option maxRecDepth 20000 in
theorem gX8_rightlyTold_X6_hasPlace_n279 : GoodIn wsX8_rightlyTold (wsX6_hasPlace) := ggX8_rightlyTold_X6_hasPlace
set_option maxRecDepth 20000 in
theorem ggX8_rightlyTold_X6_get : GoodIn wsX8_rightlyTold wsX6_get := goodIn_r _ [108, 105, 109, 110, 100, 102, 101, 103, 104, 181, 182, 183] (by decide +kernel) (by decide +kernel)
set_option maxRecDepth 20000 in
theorem gX8_rightlyTold_X6_get_n289 : GoodIn wsX8_rightlyTold (wsX6_get) := ggX8_rightlyTold_X6_get
set_option maxRecDepth 20000 in
theorem ggX8_rightlyTold_X4_holding : GoodIn wsX8_rightlyTold wsX4_holding := goodIn_r _ [115, 116, 117, 118, 119, 120, 121, 122, 123, 124, 125, 126, 127, 128, 129, 72, 73, 10, 74, 15, 130, 93, 94, 95, 79, 80, 81, 82, 83, 84, 85, 86, 96, 97, 98, 99, 14, 131, 132, 133, 134, 135, 136, 137, 138, 139, 140, 141, 142, 143, 144, 184, 185, 186, 187, 188, 189, 190, 191, 192, 193, 194, 195, 196, 171, 172, 173, 174, 175, 176, 177, 178, 179, 180, 197, 198, 199] (by decide +kernel) (by decide +kernel)
set_option maxRecDepth 20000 in
theorem gX8_rightlyTold_X4_holding : GoodIn wsX8_rightlyTold (wsV RX8 152 RX4 yX4_holding wsX4_holding) := goodIn_app (goodIn_of _ (by decide +kernel)) ggX8_rightlyTold_X4_holding
set_option maxRecDepth 20000 in
theorem ggX8_rightlyTold_X4_clauseOfWay : GoodIn wsX8_rightlyTold wsX4_clauseOfWay := goodIn_r _ [148, 149, 150, 151, 152, 124, 153, 154, 171, 172, 173, 174, 175, 176, 177] (by decide +kernel) (by decide +kernel)
set_option maxRecDepth 20000 in
theorem gX8_rightlyTold_X4_clauseOfWay : GoodIn wsX8_rightlyTold (wsV RX8 162 RX4 yX4_clauseOfWay wsX4_clauseOfWay) := goodIn_app (goodIn_of _ (by decide +kernel)) ggX8_rightlyTold_X4_clauseOfWay
set_option maxRecDepth 20000 in
theorem ggX8_rightlyTold_X8_letPartsWait : GoodIn wsX8_rightlyTold wsX8_letPartsWait := goodIn_r _ [159, 160, 1, 2, 71, 72, 73, 10, 74, 15, 92, 93, 94, 95, 79, 80, 81, 82, 83, 84, 85, 86, 96, 97, 98, 99, 14, 16, 17, 18, 19, 12, 13, 20, 21, 22, 23, 24, 25, 26, 27, 28, 29, 30, 31, 32, 33, 34, 35, 36, 37, 38, 39, 40, 41, 42, 43, 44, 45, 46, 47, 48, 49, 50, 51, 52, 53, 54, 55, 56, 57, 58, 59, 60, 61, 62, 63, 64, 65, 66, 184, 185, 186, 187, 188, 189, 190, 161, 162, 163, 164, 165, 166, 167, 168, 169, 170, 178, 179, 180] (by decide +kernel) (by decide +kernel)
set_option maxRecDepth 20000 in
theorem gX8_rightlyTold_X8_letPartsWait : GoodIn wsX8_rightlyTold (wsV RX8 336 RX8 yX8_letPartsWait wsX8_letPartsWait) := goodIn_app (goodIn_of _ (by decide +kernel)) ggX8_rightlyTold_X8_letPartsWait
theorem dX8_rightlyTold_0 : decode cX8_rightlyTold 0 = .ok (.iconst 0, 1) := by decide +kernel
theorem dX8_rightlyTold_1 : decode cX8_rightlyTold 1 = .ok (.istore 6, 2) := by decide +kernel
theorem dX8_rightlyTold_3 : decode cX8_rightlyTold 3 = .ok (.iload 4, 2) := by decide +kernel
theorem dX8_rightlyTold_5 : decode cX8_rightlyTold 5 = .ok (.istore 7, 2) := by decide +kernel
theorem dX8_rightlyTold_7 : decode cX8_rightlyTold 7 = .ok (.aload_n 0, 1) := by decide +kernel
theorem dX8_rightlyTold_8 : decode cX8_rightlyTold 8 = .ok (.getfield 57, 3) := by decide +kernel
theorem dX8_rightlyTold_11 : decode cX8_rightlyTold 11 = .ok (.invokevirtual 326, 3) := by decide +kernel
theorem dX8_rightlyTold_14 : decode cX8_rightlyTold 14 = .ok (.aload_n 0, 1) := by decide +kernel
theorem dX8_rightlyTold_15 : decode cX8_rightlyTold 15 = .ok (.getfield 57, 3) := by decide +kernel
theorem dX8_rightlyTold_18 : decode cX8_rightlyTold 18 = .ok (.aload_n 3, 1) := by decide +kernel
theorem dX8_rightlyTold_19 : decode cX8_rightlyTold 19 = .ok (.invokevirtual 89, 3) := by decide +kernel
theorem dX8_rightlyTold_22 : decode cX8_rightlyTold 22 = .ok (.pop, 1) := by decide +kernel
theorem dX8_rightlyTold_23 : decode cX8_rightlyTold 23 = .ok (.iconst 0, 1) := by decide +kernel
theorem dX8_rightlyTold_24 : decode cX8_rightlyTold 24 = .ok (.istore 8, 2) := by decide +kernel
theorem dX8_rightlyTold_26 : decode cX8_rightlyTold 26 = .ok (.iload 8, 2) := by decide +kernel
theorem dX8_rightlyTold_28 : decode cX8_rightlyTold 28 = .ok (.bipush 60, 2) := by decide +kernel
theorem dX8_rightlyTold_30 : decode cX8_rightlyTold 30 = .ok (.if_icmp .gt 157, 3) := by decide +kernel
theorem dX8_rightlyTold_33 : decode cX8_rightlyTold 33 = .ok (.aload_n 0, 1) := by decide +kernel
theorem dX8_rightlyTold_34 : decode cX8_rightlyTold 34 = .ok (.getfield 57, 3) := by decide +kernel
theorem dX8_rightlyTold_37 : decode cX8_rightlyTold 37 = .ok (.invokevirtual 329, 3) := by decide +kernel
theorem dX8_rightlyTold_40 : decode cX8_rightlyTold 40 = .ok (.ifCond .ne 147, 3) := by decide +kernel
theorem dX8_rightlyTold_43 : decode cX8_rightlyTold 43 = .ok (.aload_n 0, 1) := by decide +kernel
theorem dX8_rightlyTold_44 : decode cX8_rightlyTold 44 = .ok (.getfield 57, 3) := by decide +kernel
theorem dX8_rightlyTold_47 : decode cX8_rightlyTold 47 = .ok (.aload_n 0, 1) := by decide +kernel
theorem dX8_rightlyTold_48 : decode cX8_rightlyTold 48 = .ok (.getfield 57, 3) := by decide +kernel
theorem dX8_rightlyTold_51 : decode cX8_rightlyTold 51 = .ok (.invokevirtual 80, 3) := by decide +kernel
theorem dX8_rightlyTold_54 : decode cX8_rightlyTold 54 = .ok (.iconst 1, 1) := by decide +kernel
theorem dX8_rightlyTold_55 : decode cX8_rightlyTold 55 = .ok (.isub, 1) := by decide +kernel
theorem dX8_rightlyTold_56 : decode cX8_rightlyTold 56 = .ok (.invokevirtual 333, 3) := by decide +kernel
theorem dX8_rightlyTold_59 : decode cX8_rightlyTold 59 = .ok (.checkcast 84, 3) := by decide +kernel
theorem dX8_rightlyTold_62 : decode cX8_rightlyTold 62 = .ok (.astore 9, 2) := by decide +kernel
theorem dX8_rightlyTold_64 : decode cX8_rightlyTold 64 = .ok (.iconst 0, 1) := by decide +kernel
theorem dX8_rightlyTold_65 : decode cX8_rightlyTold 65 = .ok (.istore 10, 2) := by decide +kernel
theorem dX8_rightlyTold_67 : decode cX8_rightlyTold 67 = .ok (.iload 10, 2) := by decide +kernel
theorem dX8_rightlyTold_69 : decode cX8_rightlyTold 69 = .ok (.aload_n 0, 1) := by decide +kernel
theorem dX8_rightlyTold_70 : decode cX8_rightlyTold 70 = .ok (.getfield 24, 3) := by decide +kernel
theorem dX8_rightlyTold_73 : decode cX8_rightlyTold 73 = .ok (.invokevirtual 80, 3) := by decide +kernel
theorem dX8_rightlyTold_76 : decode cX8_rightlyTold 76 = .ok (.if_icmp .ge 90, 3) := by decide +kernel
theorem dX8_rightlyTold_79 : decode cX8_rightlyTold 79 = .ok (.aload_n 0, 1) := by decide +kernel
theorem dX8_rightlyTold_80 : decode cX8_rightlyTold 80 = .ok (.getfield 24, 3) := by decide +kernel
theorem dX8_rightlyTold_83 : decode cX8_rightlyTold 83 = .ok (.iload 10, 2) := by decide +kernel
theorem dX8_rightlyTold_85 : decode cX8_rightlyTold 85 = .ok (.invokevirtual 220, 3) := by decide +kernel
theorem dX8_rightlyTold_88 : decode cX8_rightlyTold 88 = .ok (.checkcast 153, 3) := by decide +kernel
theorem dX8_rightlyTold_91 : decode cX8_rightlyTold 91 = .ok (.astore 11, 2) := by decide +kernel
theorem dX8_rightlyTold_93 : decode cX8_rightlyTold 93 = .ok (.aload 11, 2) := by decide +kernel
theorem dX8_rightlyTold_95 : decode cX8_rightlyTold 95 = .ok (.getfield 224, 3) := by decide +kernel
theorem dX8_rightlyTold_98 : decode cX8_rightlyTold 98 = .ok (.iload 5, 2) := by decide +kernel
theorem dX8_rightlyTold_100 : decode cX8_rightlyTold 100 = .ok (.if_icmp .eq 6, 3) := by decide +kernel
theorem dX8_rightlyTold_103 : decode cX8_rightlyTold 103 = .ok (.goto 57, 3) := by decide +kernel
theorem dX8_rightlyTold_106 : decode cX8_rightlyTold 106 = .ok (.aload_n 1, 1) := by decide +kernel
theorem dX8_rightlyTold_107 : decode cX8_rightlyTold 107 = .ok (.iload_n 2, 1) := by decide +kernel
theorem dX8_rightlyTold_108 : decode cX8_rightlyTold 108 = .ok (.iload 6, 2) := by decide +kernel
theorem dX8_rightlyTold_110 : decode cX8_rightlyTold 110 = .ok (.iadd, 1) := by decide +kernel
theorem dX8_rightlyTold_111 : decode cX8_rightlyTold 111 = .ok (.invokevirtual 279, 3) := by decide +kernel
theorem dX8_rightlyTold_114 : decode cX8_rightlyTold 114 = .ok (.ifCond .ne 9, 3) := by decide +kernel
theorem dX8_rightlyTold_117 : decode cX8_rightlyTold 117 = .ok (.bipush 100, 2) := by decide +kernel
theorem dX8_rightlyTold_119 : decode cX8_rightlyTold 119 = .ok (.iload 6, 2) := by decide +kernel
theorem dX8_rightlyTold_121 : decode cX8_rightlyTold 121 = .ok (.iadd, 1) := by decide +kernel
theorem dX8_rightlyTold_122 : decode cX8_rightlyTold 122 = .ok (.ireturn, 1) := by decide +kernel
theorem dX8_rightlyTold_123 : decode cX8_rightlyTold 123 = .ok (.aload_n 1, 1) := by decide +kernel
theorem dX8_rightlyTold_124 : decode cX8_rightlyTold 124 = .ok (.iload_n 2, 1) := by decide +kernel
theorem dX8_rightlyTold_125 : decode cX8_rightlyTold 125 = .ok (.iload 6, 2) := by decide +kernel
theorem dX8_rightlyTold_127 : decode cX8_rightlyTold 127 = .ok (.iadd, 1) := by decide +kernel
theorem dX8_rightlyTold_128 : decode cX8_rightlyTold 128 = .ok (.invokevirtual 289, 3) := by decide +kernel
theorem dX8_rightlyTold_131 : decode cX8_rightlyTold 131 = .ok (.aload 11, 2) := by decide +kernel
theorem dX8_rightlyTold_133 : decode cX8_rightlyTold 133 = .ok (.aload 11, 2) := by decide +kernel
theorem dX8_rightlyTold_135 : decode cX8_rightlyTold 135 = .ok (.aload 9, 2) := by decide +kernel
theorem dX8_rightlyTold_137 : decode cX8_rightlyTold 137 = .ok (.iload 7, 2) := by decide +kernel
theorem dX8_rightlyTold_139 : decode cX8_rightlyTold 139 = .ok (.aload_n 0, 1) := by decide +kernel
theorem dX8_rightlyTold_140 : decode cX8_rightlyTold 140 = .ok (.getfield 37, 3) := by decide +kernel
theorem dX8_rightlyTold_143 : decode cX8_rightlyTold 143 = .ok (.invokevirtual 152, 3) := by decide +kernel
theorem dX8_rightlyTold_146 : decode cX8_rightlyTold 146 = .ok (.invokevirtual 162, 3) := by decide +kernel
theorem dX8_rightlyTold_149 : decode cX8_rightlyTold 149 = .ok (.i2l, 1) := by decide +kernel
theorem dX8_rightlyTold_150 : decode cX8_rightlyTold 150 = .ok (.lcmp, 1) := by decide +kernel
theorem dX8_rightlyTold_151 : decode cX8_rightlyTold 151 = .ok (.ifCond .eq 6, 3) := by decide +kernel
theorem dX8_rightlyTold_154 : decode cX8_rightlyTold 154 = .ok (.iload 6, 2) := by decide +kernel
theorem dX8_rightlyTold_156 : decode cX8_rightlyTold 156 = .ok (.ireturn, 1) := by decide +kernel
theorem dX8_rightlyTold_157 : decode cX8_rightlyTold 157 = .ok (.iinc 6 1, 3) := by decide +kernel
theorem dX8_rightlyTold_160 : decode cX8_rightlyTold 160 = .ok (.iinc 10 1, 3) := by decide +kernel
theorem dX8_rightlyTold_163 : decode cX8_rightlyTold 163 = .ok (.goto (-96), 3) := by decide +kernel
theorem dX8_rightlyTold_166 : decode cX8_rightlyTold 166 = .ok (.iload 7, 2) := by decide +kernel
theorem dX8_rightlyTold_168 : decode cX8_rightlyTold 168 = .ok (.iconst 1, 1) := by decide +kernel
theorem dX8_rightlyTold_169 : decode cX8_rightlyTold 169 = .ok (.if_icmp .eq 9, 3) := by decide +kernel
theorem dX8_rightlyTold_172 : decode cX8_rightlyTold 172 = .ok (.aload_n 0, 1) := by decide +kernel
theorem dX8_rightlyTold_173 : decode cX8_rightlyTold 173 = .ok (.aload 9, 2) := by decide +kernel
theorem dX8_rightlyTold_175 : decode cX8_rightlyTold 175 = .ok (.invokevirtual 336, 3) := by decide +kernel
theorem dX8_rightlyTold_178 : decode cX8_rightlyTold 178 = .ok (.iconst 0, 1) := by decide +kernel
theorem dX8_rightlyTold_179 : decode cX8_rightlyTold 179 = .ok (.istore 7, 2) := by decide +kernel
theorem dX8_rightlyTold_181 : decode cX8_rightlyTold 181 = .ok (.iinc 8 1, 3) := by decide +kernel
theorem dX8_rightlyTold_184 : decode cX8_rightlyTold 184 = .ok (.goto (-158), 3) := by decide +kernel
theorem dX8_rightlyTold_187 : decode cX8_rightlyTold 187 = .ok (.iload 6, 2) := by decide +kernel
theorem dX8_rightlyTold_189 : decode cX8_rightlyTold 189 = .ok (.ireturn, 1) := by decide +kernel
set_option maxRecDepth 20000 in
theorem ggX8_letPartsWait_Jx4a65c_size_8abf5 : GoodIn wsX8_letPartsWait wsJx4a65c_size_8abf5 := goodIn_r _ [8, 9, 97, 98, 99] (by decide +kernel) (by decide +kernel)
set_option maxRecDepth 20000 in
theorem gX8_letPartsWait_Jx4a65c_size_8abf5 : GoodIn wsX8_letPartsWait (wsV RX8 80 RJx4a65c yJx4a65c_size_8abf5 wsJx4a65c_size_8abf5) := goodIn_app (goodIn_of _ (by decide +kernel)) ggX8_letPartsWait_Jx4a65c_size_8abf5
set_option maxRecDepth 20000 in
theorem ggX8_letPartsWait_Jx4a65c_get_915e3 : GoodIn wsX8_letPartsWait wsJx4a65c_get_915e3 := goodIn_r _ [13, 9, 14, 15, 16, 17, 18, 19, 20, 21, 22, 23, 24, 7, 25, 26, 97, 98, 99] (by decide +kernel) (by decide +kernel)
set_option maxRecDepth 20000 in
theorem gX8_letPartsWait_Jx4a65c_get_915e3 : GoodIn wsX8_letPartsWait (wsV RX8 220 RJx4a65c yJx4a65c_get_915e3 wsJx4a65c_get_915e3) := goodIn_app (goodIn_of _ (by decide +kernel)) ggX8_letPartsWait_Jx4a65c_get_915e3
set_option maxRecDepth 20000 in
theorem ggX8_letPartsWait_Jx4a65c_add_9ea2d : GoodIn wsX8_letPartsWait wsJx4a65c_add_9ea2d := goodIn_r _ [30, 31, 32, 26, 9, 33, 34, 35, 7, 36, 37, 38, 39, 40, 41, 42, 43, 44, 45, 46, 47, 48, 49, 50, 51, 52, 53, 54, 55, 56, 57, 58, 59, 60, 61, 62, 63, 64, 65, 66, 67, 68, 69, 70, 71, 72, 73, 74, 75, 76, 77, 78, 79, 97, 98, 99] (by decide +kernel) (by decide +kernel)
set_option maxRecDepth 20000 in
theorem gX8_letPartsWait_Jx4a65c_add_9ea2d : GoodIn wsX8_letPartsWait (wsV RX8 89 RJx4a65c yJx4a65c_add_9ea2d wsJx4a65c_add_9ea2d) := goodIn_app (goodIn_of _ (by decide +kernel)) ggX8_letPartsWait_Jx4a65c_add_9ea2d
theorem dX8_letPartsWait_0 : decode cX8_letPartsWait 0 = .ok (.aload_n 1, 1) := by decide +kernel
theorem dX8_letPartsWait_1 : decode cX8_letPartsWait 1 = .ok (.getfield 108, 3) := by decide +kernel
theorem dX8_letPartsWait_4 : decode cX8_letPartsWait 4 = .ok (.invokevirtual 80, 3) := by decide +kernel
theorem dX8_letPartsWait_7 : decode cX8_letPartsWait 7 = .ok (.iconst 1, 1) := by decide +kernel
theorem dX8_letPartsWait_8 : decode cX8_letPartsWait 8 = .ok (.isub, 1) := by decide +kernel
theorem dX8_letPartsWait_9 : decode cX8_letPartsWait 9 = .ok (.istore_n 2, 1) := by decide +kernel
theorem dX8_letPartsWait_10 : decode cX8_letPartsWait 10 = .ok (.iload_n 2, 1) := by decide +kernel
theorem dX8_letPartsWait_11 : decode cX8_letPartsWait 11 = .ok (.ifCond .lt 28, 3) := by decide +kernel
theorem dX8_letPartsWait_14 : decode cX8_letPartsWait 14 = .ok (.aload_n 0, 1) := by decide +kernel
theorem dX8_letPartsWait_15 : decode cX8_letPartsWait 15 = .ok (.getfield 57, 3) := by decide +kernel
theorem dX8_letPartsWait_18 : decode cX8_letPartsWait 18 = .ok (.aload_n 1, 1) := by decide +kernel
theorem dX8_letPartsWait_19 : decode cX8_letPartsWait 19 = .ok (.getfield 108, 3) := by decide +kernel
theorem dX8_letPartsWait_22 : decode cX8_letPartsWait 22 = .ok (.iload_n 2, 1) := by decide +kernel
theorem dX8_letPartsWait_23 : decode cX8_letPartsWait 23 = .ok (.invokevirtual 220, 3) := by decide +kernel
theorem dX8_letPartsWait_26 : decode cX8_letPartsWait 26 = .ok (.checkcast 84, 3) := by decide +kernel
theorem dX8_letPartsWait_29 : decode cX8_letPartsWait 29 = .ok (.invokevirtual 89, 3) := by decide +kernel
theorem dX8_letPartsWait_32 : decode cX8_letPartsWait 32 = .ok (.pop, 1) := by decide +kernel
theorem dX8_letPartsWait_33 : decode cX8_letPartsWait 33 = .ok (.iinc 2 (-1), 3) := by decide +kernel
theorem dX8_letPartsWait_36 : decode cX8_letPartsWait 36 = .ok (.goto (-26), 3) := by decide +kernel
theorem dX8_letPartsWait_39 : decode cX8_letPartsWait 39 = .ok (.return_, 1) := by decide +kernel
theorem dX8_kindAbove_0 : decode cX8_kindAbove 0 = .ok (.iload_n 0, 1) := by decide +kernel
theorem dX8_kindAbove_1 : decode cX8_kindAbove 1 = .ok (.tableswitch 39 2 6 #[35, 39, 39, 37, 35], 35) := by decide +kernel
theorem dX8_kindAbove_36 : decode cX8_kindAbove 36 = .ok (.iconst 1, 1) := by decide +kernel
theorem dX8_kindAbove_37 : decode cX8_kindAbove 37 = .ok (.ireturn, 1) := by decide +kernel
theorem dX8_kindAbove_38 : decode cX8_kindAbove 38 = .ok (.iconst 2, 1) := by decide +kernel
theorem dX8_kindAbove_39 : decode cX8_kindAbove 39 = .ok (.ireturn, 1) := by decide +kernel
theorem dX8_kindAbove_40 : decode cX8_kindAbove 40 = .ok (.iconst 0, 1) := by decide +kernel
theorem dX8_kindAbove_41 : decode cX8_kindAbove 41 = .ok (.ireturn, 1) := by decide +kernel
theorem dX9_init_0 : decode cX9_init 0 = .ok (.aload_n 0, 1) := by decide +kernel
theorem dX9_init_1 : decode cX9_init 1 = .ok (.invokespecial 1, 3) := by decide +kernel
theorem dX9_init_4 : decode cX9_init 4 = .ok (.aload_n 0, 1) := by decide +kernel
theorem dX9_init_5 : decode cX9_init 5 = .ok (.iconst 0, 1) := by decide +kernel
theorem dX9_init_6 : decode cX9_init 6 = .ok (.putfield 7, 3) := by decide +kernel
theorem dX9_init_9 : decode cX9_init 9 = .ok (.aload_n 0, 1) := by decide +kernel
theorem dX9_init_10 : decode cX9_init 10 = .ok (.iconst 0, 1) := by decide +kernel
theorem dX9_init_11 : decode cX9_init 11 = .ok (.putfield 13, 3) := by decide +kernel
theorem dX9_init_14 : decode cX9_init 14 = .ok (.aload_n 0, 1) := by decide +kernel
theorem dX9_init_15 : decode cX9_init 15 = .ok (.iconst 0, 1) := by decide +kernel
theorem dX9_init_16 : decode cX9_init 16 = .ok (.putfield 16, 3) := by decide +kernel
theorem dX9_init_19 : decode cX9_init 19 = .ok (.aload_n 0, 1) := by decide +kernel
theorem dX9_init_20 : decode cX9_init 20 = .ok (.bipush 8, 2) := by decide +kernel
theorem dX9_init_22 : decode cX9_init 22 = .ok (.newarray .int, 2) := by decide +kernel
theorem dX9_init_24 : decode cX9_init 24 = .ok (.putfield 19, 3) := by decide +kernel
theorem dX9_init_27 : decode cX9_init 27 = .ok (.aload_n 0, 1) := by decide +kernel
theorem dX9_init_28 : decode cX9_init 28 = .ok (.bipush 14, 2) := by decide +kernel
theorem dX9_init_30 : decode cX9_init 30 = .ok (.newarray .int, 2) := by decide +kernel
theorem dX9_init_32 : decode cX9_init 32 = .ok (.putfield 23, 3) := by decide +kernel
theorem dX9_init_35 : decode cX9_init 35 = .ok (.aload_n 0, 1) := by decide +kernel
theorem dX9_init_36 : decode cX9_init 36 = .ok (.bipush 14, 2) := by decide +kernel
theorem dX9_init_38 : decode cX9_init 38 = .ok (.newarray .int, 2) := by decide +kernel
theorem dX9_init_40 : decode cX9_init 40 = .ok (.putfield 26, 3) := by decide +kernel
theorem dX9_init_43 : decode cX9_init 43 = .ok (.aload_n 0, 1) := by decide +kernel
theorem dX9_init_44 : decode cX9_init 44 = .ok (.bipush 14, 2) := by decide +kernel
theorem dX9_init_46 : decode cX9_init 46 = .ok (.newarray .int, 2) := by decide +kernel
theorem dX9_init_48 : decode cX9_init 48 = .ok (.putfield 29, 3) := by decide +kernel
theorem dX9_init_51 : decode cX9_init 51 = .ok (.aload_n 0, 1) := by decide +kernel
theorem dX9_init_52 : decode cX9_init 52 = .ok (.bipush 14, 2) := by decide +kernel
theorem dX9_init_54 : decode cX9_init 54 = .ok (.newarray .int, 2) := by decide +kernel
theorem dX9_init_56 : decode cX9_init 56 = .ok (.putfield 32, 3) := by decide +kernel
theorem dX9_init_59 : decode cX9_init 59 = .ok (.aload_n 0, 1) := by decide +kernel
theorem dX9_init_60 : decode cX9_init 60 = .ok (.bipush 56, 2) := by decide +kernel
theorem dX9_init_62 : decode cX9_init 62 = .ok (.newarray .int, 2) := by decide +kernel
theorem dX9_init_64 : decode cX9_init 64 = .ok (.putfield 35, 3) := by decide +kernel
theorem dX9_init_67 : decode cX9_init 67 = .ok (.aload_n 0, 1) := by decide +kernel
theorem dX9_init_68 : decode cX9_init 68 = .ok (.iconst 0, 1) := by decide +kernel
theorem dX9_init_69 : decode cX9_init 69 = .ok (.putfield 38, 3) := by decide +kernel
theorem dX9_init_72 : decode cX9_init 72 = .ok (.aload_n 0, 1) := by decide +kernel
theorem dX9_init_73 : decode cX9_init 73 = .ok (.iconst 0, 1) := by decide +kernel
theorem dX9_init_74 : decode cX9_init 74 = .ok (.putfield 41, 3) := by decide +kernel
theorem dX9_init_77 : decode cX9_init 77 = .ok (.aload_n 0, 1) := by decide +kernel
theorem dX9_init_78 : decode cX9_init 78 = .ok (.iconst 0, 1) := by decide +kernel
theorem dX9_init_79 : decode cX9_init 79 = .ok (.putfield 44, 3) := by decide +kernel
theorem dX9_init_82 : decode cX9_init 82 = .ok (.aload_n 0, 1) := by decide +kernel
theorem dX9_init_83 : decode cX9_init 83 = .ok (.bipush 100, 2) := by decide +kernel
theorem dX9_init_85 : decode cX9_init 85 = .ok (.newarray .int, 2) := by decide +kernel
theorem dX9_init_87 : decode cX9_init 87 = .ok (.putfield 47, 3) := by decide +kernel
theorem dX9_init_90 : decode cX9_init 90 = .ok (.aload_n 0, 1) := by decide +kernel
theorem dX9_init_91 : decode cX9_init 91 = .ok (.bipush 10, 2) := by decide +kernel
theorem dX9_init_93 : decode cX9_init 93 = .ok (.newarray .int, 2) := by decide +kernel
theorem dX9_init_95 : decode cX9_init 95 = .ok (.putfield 50, 3) := by decide +kernel
theorem dX9_init_98 : decode cX9_init 98 = .ok (.aload_n 0, 1) := by decide +kernel
theorem dX9_init_99 : decode cX9_init 99 = .ok (.bipush 10, 2) := by decide +kernel
theorem dX9_init_101 : decode cX9_init 101 = .ok (.newarray .int, 2) := by decide +kernel
theorem dX9_init_103 : decode cX9_init 103 = .ok (.putfield 53, 3) := by decide +kernel
theorem dX9_init_106 : decode cX9_init 106 = .ok (.aload_n 0, 1) := by decide +kernel
theorem dX9_init_107 : decode cX9_init 107 = .ok (.bipush 60, 2) := by decide +kernel
theorem dX9_init_109 : decode cX9_init 109 = .ok (.newarray .int, 2) := by decide +kernel
theorem dX9_init_111 : decode cX9_init 111 = .ok (.putfield 56, 3) := by decide +kernel
theorem dX9_init_114 : decode cX9_init 114 = .ok (.aload_n 0, 1) := by decide +kernel
theorem dX9_init_115 : decode cX9_init 115 = .ok (.bipush 60, 2) := by decide +kernel
theorem dX9_init_117 : decode cX9_init 117 = .ok (.newarray .int, 2) := by decide +kernel
theorem dX9_init_119 : decode cX9_init 119 = .ok (.putfield 59, 3) := by decide +kernel
theorem dX9_init_122 : decode cX9_init 122 = .ok (.aload_n 0, 1) := by decide +kernel
theorem dX9_init_123 : decode cX9_init 123 = .ok (.bipush 60, 2) := by decide +kernel
theorem dX9_init_125 : decode cX9_init 125 = .ok (.newarray .int, 2) := by decide +kernel
theorem dX9_init_127 : decode cX9_init 127 = .ok (.putfield 62, 3) := by decide +kernel
theorem dX9_init_130 : decode cX9_init 130 = .ok (.aload_n 0, 1) := by decide +kernel
theorem dX9_init_131 : decode cX9_init 131 = .ok (.bipush 60, 2) := by decide +kernel
theorem dX9_init_133 : decode cX9_init 133 = .ok (.newarray .int, 2) := by decide +kernel
theorem dX9_init_135 : decode cX9_init 135 = .ok (.putfield 65, 3) := by decide +kernel
theorem dX9_init_138 : decode cX9_init 138 = .ok (.aload_n 0, 1) := by decide +kernel
theorem dX9_init_139 : decode cX9_init 139 = .ok (.sipush 1000, 3) := by decide +kernel
theorem dX9_init_142 : decode cX9_init 142 = .ok (.newarray .int, 2) := by decide +kernel
theorem dX9_init_144 : decode cX9_init 144 = .ok (.putfield 68, 3) := by decide +kernel
theorem dX9_init_147 : decode cX9_init 147 = .ok (.aload_n 0, 1) := by decide +kernel
theorem dX9_init_148 : decode cX9_init 148 = .ok (.iconst 0, 1) := by decide +kernel
theorem dX9_init_149 : decode cX9_init 149 = .ok (.putfield 71, 3) := by decide +kernel
theorem dX9_init_152 : decode cX9_init 152 = .ok (.aload_n 0, 1) := by decide +kernel
theorem dX9_init_153 : decode cX9_init 153 = .ok (.bipush 101, 2) := by decide +kernel
theorem dX9_init_155 : decode cX9_init 155 = .ok (.newarray .int, 2) := by decide +kernel
theorem dX9_init_157 : decode cX9_init 157 = .ok (.putfield 74, 3) := by decide +kernel
theorem dX9_init_160 : decode cX9_init 160 = .ok (.aload_n 0, 1) := by decide +kernel
theorem dX9_init_161 : decode cX9_init 161 = .ok (.iconst 0, 1) := by decide +kernel
theorem dX9_init_162 : decode cX9_init 162 = .ok (.putfield 77, 3) := by decide +kernel
theorem dX9_init_165 : decode cX9_init 165 = .ok (.aload_n 0, 1) := by decide +kernel
theorem dX9_init_166 : decode cX9_init 166 = .ok (.iconst 0, 1) := by decide +kernel
theorem dX9_init_167 : decode cX9_init 167 = .ok (.putfield 80, 3) := by decide +kernel
theorem dX9_init_170 : decode cX9_init 170 = .ok (.aload_n 0, 1) := by decide +kernel
theorem dX9_init_171 : decode cX9_init 171 = .ok (.iconst 0, 1) := by decide +kernel
theorem dX9_init_172 : decode cX9_init 172 = .ok (.putfield 83, 3) := by decide +kernel
theorem dX9_init_175 : decode cX9_init 175 = .ok (.aload_n 0, 1) := by decide +kernel
theorem dX9_init_176 : decode cX9_init 176 = .ok (.iconst 0, 1) := by decide +kernel
theorem dX9_init_177 : decode cX9_init 177 = .ok (.putfield 86, 3) := by decide +kernel
theorem dX9_init_180 : decode cX9_init 180 = .ok (.aload_n 0, 1) := by decide +kernel
theorem dX9_init_181 : decode cX9_init 181 = .ok (.iconst (-1), 1) := by decide +kernel
theorem dX9_init_182 : decode cX9_init 182 = .ok (.putfield 89, 3) := by decide +kernel
theorem dX9_init_185 : decode cX9_init 185 = .ok (.aload_n 0, 1) := by decide +kernel
theorem dX9_init_186 : decode cX9_init 186 = .ok (.bipush 8, 2) := by decide +kernel
theorem dX9_init_188 : decode cX9_init 188 = .ok (.newarray .int, 2) := by decide +kernel
theorem dX9_init_190 : decode cX9_init 190 = .ok (.putfield 92, 3) := by decide +kernel
theorem dX9_init_193 : decode cX9_init 193 = .ok (.aload_n 0, 1) := by decide +kernel
theorem dX9_init_194 : decode cX9_init 194 = .ok (.bipush 100, 2) := by decide +kernel
theorem dX9_init_196 : decode cX9_init 196 = .ok (.newarray .boolean, 2) := by decide +kernel
theorem dX9_init_198 : decode cX9_init 198 = .ok (.putfield 95, 3) := by decide +kernel
theorem dX9_init_201 : decode cX9_init 201 = .ok (.aload_n 0, 1) := by decide +kernel
theorem dX9_init_202 : decode cX9_init 202 = .ok (.bipush 14, 2) := by decide +kernel
theorem dX9_init_204 : decode cX9_init 204 = .ok (.newarray .boolean, 2) := by decide +kernel
theorem dX9_init_206 : decode cX9_init 206 = .ok (.putfield 99, 3) := by decide +kernel
theorem dX9_init_209 : decode cX9_init 209 = .ok (.aload_n 0, 1) := by decide +kernel
theorem dX9_init_210 : decode cX9_init 210 = .ok (.iconst 5, 1) := by decide +kernel
theorem dX9_init_211 : decode cX9_init 211 = .ok (.newarray .int, 2) := by decide +kernel
theorem dX9_init_213 : decode cX9_init 213 = .ok (.putfield 102, 3) := by decide +kernel
theorem dX9_init_216 : decode cX9_init 216 = .ok (.aload_n 0, 1) := by decide +kernel
theorem dX9_init_217 : decode cX9_init 217 = .ok (.iconst 5, 1) := by decide +kernel
theorem dX9_init_218 : decode cX9_init 218 = .ok (.newarray .int, 2) := by decide +kernel
theorem dX9_init_220 : decode cX9_init 220 = .ok (.putfield 105, 3) := by decide +kernel
theorem dX9_init_223 : decode cX9_init 223 = .ok (.aload_n 0, 1) := by decide +kernel
theorem dX9_init_224 : decode cX9_init 224 = .ok (.bipush 56, 2) := by decide +kernel
theorem dX9_init_226 : decode cX9_init 226 = .ok (.newarray .boolean, 2) := by decide +kernel
theorem dX9_init_228 : decode cX9_init 228 = .ok (.putfield 108, 3) := by decide +kernel
theorem dX9_init_231 : decode cX9_init 231 = .ok (.aload_n 0, 1) := by decide +kernel
theorem dX9_init_232 : decode cX9_init 232 = .ok (.bipush 100, 2) := by decide +kernel
theorem dX9_init_234 : decode cX9_init 234 = .ok (.newarray .int, 2) := by decide +kernel
theorem dX9_init_236 : decode cX9_init 236 = .ok (.putfield 111, 3) := by decide +kernel
theorem dX9_init_239 : decode cX9_init 239 = .ok (.aload_n 0, 1) := by decide +kernel
theorem dX9_init_240 : decode cX9_init 240 = .ok (.iconst 0, 1) := by decide +kernel
theorem dX9_init_241 : decode cX9_init 241 = .ok (.putfield 114, 3) := by decide +kernel
theorem dX9_init_244 : decode cX9_init 244 = .ok (.aload_n 0, 1) := by decide +kernel
theorem dX9_init_245 : decode cX9_init 245 = .ok (.bipush 20, 2) := by decide +kernel
theorem dX9_init_247 : decode cX9_init 247 = .ok (.newarray .int, 2) := by decide +kernel
theorem dX9_init_249 : decode cX9_init 249 = .ok (.putfield 117, 3) := by decide +kernel
theorem dX9_init_252 : decode cX9_init 252 = .ok (.aload_n 0, 1) := by decide +kernel
theorem dX9_init_253 : decode cX9_init 253 = .ok (.bipush 6, 2) := by decide +kernel
theorem dX9_init_255 : decode cX9_init 255 = .ok (.newarray .int, 2) := by decide +kernel
theorem dX9_init_257 : decode cX9_init 257 = .ok (.dup, 1) := by decide +kernel
theorem dX9_init_258 : decode cX9_init 258 = .ok (.iconst 0, 1) := by decide +kernel
theorem dX9_init_259 : decode cX9_init 259 = .ok (.iconst (-1), 1) := by decide +kernel
theorem dX9_init_260 : decode cX9_init 260 = .ok (.iastore, 1) := by decide +kernel
theorem dX9_init_261 : decode cX9_init 261 = .ok (.dup, 1) := by decide +kernel
theorem dX9_init_262 : decode cX9_init 262 = .ok (.iconst 1, 1) := by decide +kernel
theorem dX9_init_263 : decode cX9_init 263 = .ok (.iconst (-1), 1) := by decide +kernel
theorem dX9_init_264 : decode cX9_init 264 = .ok (.iastore, 1) := by decide +kernel
theorem dX9_init_265 : decode cX9_init 265 = .ok (.dup, 1) := by decide +kernel
theorem dX9_init_266 : decode cX9_init 266 = .ok (.iconst 2, 1) := by decide +kernel
theorem dX9_init_267 : decode cX9_init 267 = .ok (.iconst (-1), 1) := by decide +kernel
theorem dX9_init_268 : decode cX9_init 268 = .ok (.iastore, 1) := by decide +kernel
theorem dX9_init_269 : decode cX9_init 269 = .ok (.dup, 1) := by decide +kernel
theorem dX9_init_270 : decode cX9_init 270 = .ok (.iconst 3, 1) := by decide +kernel
theorem dX9_init_271 : decode cX9_init 271 = .ok (.iconst (-1), 1) := by decide +kernel
theorem dX9_init_272 : decode cX9_init 272 = .ok (.iastore, 1) := by decide +kernel
theorem dX9_init_273 : decode cX9_init 273 = .ok (.dup, 1) := by decide +kernel
theorem dX9_init_274 : decode cX9_init 274 = .ok (.iconst 4, 1) := by decide +kernel
theorem dX9_init_275 : decode cX9_init 275 = .ok (.iconst (-1), 1) := by decide +kernel
theorem dX9_init_276 : decode cX9_init 276 = .ok (.iastore, 1) := by decide +kernel
theorem dX9_init_277 : decode cX9_init 277 = .ok (.dup, 1) := by decide +kernel
theorem dX9_init_278 : decode cX9_init 278 = .ok (.iconst 5, 1) := by decide +kernel
theorem dX9_init_279 : decode cX9_init 279 = .ok (.iconst (-1), 1) := by decide +kernel
theorem dX9_init_280 : decode cX9_init 280 = .ok (.iastore, 1) := by decide +kernel
theorem dX9_init_281 : decode cX9_init 281 = .ok (.putfield 120, 3) := by decide +kernel
theorem dX9_init_284 : decode cX9_init 284 = .ok (.aload_n 0, 1) := by decide +kernel
theorem dX9_init_285 : decode cX9_init 285 = .ok (.bipush 6, 2) := by decide +kernel
theorem dX9_init_287 : decode cX9_init 287 = .ok (.newarray .int, 2) := by decide +kernel
theorem dX9_init_289 : decode cX9_init 289 = .ok (.putfield 123, 3) := by decide +kernel
theorem dX9_init_292 : decode cX9_init 292 = .ok (.aload_n 0, 1) := by decide +kernel
theorem dX9_init_293 : decode cX9_init 293 = .ok (.sipush 360, 3) := by decide +kernel
theorem dX9_init_296 : decode cX9_init 296 = .ok (.newarray .long, 2) := by decide +kernel
theorem dX9_init_298 : decode cX9_init 298 = .ok (.putfield 126, 3) := by decide +kernel
theorem dX9_init_301 : decode cX9_init 301 = .ok (.aload_n 0, 1) := by decide +kernel
theorem dX9_init_302 : decode cX9_init 302 = .ok (.bipush 60, 2) := by decide +kernel
theorem dX9_init_304 : decode cX9_init 304 = .ok (.newarray .long, 2) := by decide +kernel
theorem dX9_init_306 : decode cX9_init 306 = .ok (.putfield 130, 3) := by decide +kernel
theorem dX9_init_309 : decode cX9_init 309 = .ok (.return_, 1) := by decide +kernel
theorem dX9_in_0 : decode cX9_in 0 = .ok (.iload_n 1, 1) := by decide +kernel
theorem dX9_in_1 : decode cX9_in 1 = .ok (.iload_n 2, 1) := by decide +kernel
theorem dX9_in_2 : decode cX9_in 2 = .ok (.if_icmp .lt 12, 3) := by decide +kernel
theorem dX9_in_5 : decode cX9_in 5 = .ok (.iload_n 1, 1) := by decide +kernel
theorem dX9_in_6 : decode cX9_in 6 = .ok (.iload_n 3, 1) := by decide +kernel
theorem dX9_in_7 : decode cX9_in 7 = .ok (.if_icmp .gt 7, 3) := by decide +kernel
theorem dX9_in_10 : decode cX9_in 10 = .ok (.iconst 1, 1) := by decide +kernel
theorem dX9_in_11 : decode cX9_in 11 = .ok (.goto 4, 3) := by decide +kernel
theorem dX9_in_14 : decode cX9_in 14 = .ok (.iconst 0, 1) := by decide +kernel
theorem dX9_in_15 : decode cX9_in 15 = .ok (.ireturn, 1) := by decide +kernel
theorem dX9_ones_0 : decode cX9_ones 0 = .ok (.iconst 0, 1) := by decide +kernel
theorem dX9_ones_1 : decode cX9_ones 1 = .ok (.istore_n 2, 1) := by decide +kernel
theorem dX9_ones_2 : decode cX9_ones 2 = .ok (.iload_n 1, 1) := by decide +kernel
theorem dX9_ones_3 : decode cX9_ones 3 = .ok (.istore_n 3, 1) := by decide +kernel
theorem dX9_ones_4 : decode cX9_ones 4 = .ok (.iload_n 3, 1) := by decide +kernel
theorem dX9_ones_5 : decode cX9_ones 5 = .ok (.ifCond .eq 15, 3) := by decide +kernel
theorem dX9_ones_8 : decode cX9_ones 8 = .ok (.iinc 2 1, 3) := by decide +kernel
theorem dX9_ones_11 : decode cX9_ones 11 = .ok (.iload_n 3, 1) := by decide +kernel
theorem dX9_ones_12 : decode cX9_ones 12 = .ok (.iload_n 3, 1) := by decide +kernel
theorem dX9_ones_13 : decode cX9_ones 13 = .ok (.iconst 1, 1) := by decide +kernel
theorem dX9_ones_14 : decode cX9_ones 14 = .ok (.isub, 1) := by decide +kernel
theorem dX9_ones_15 : decode cX9_ones 15 = .ok (.iand, 1) := by decide +kernel
theorem dX9_ones_16 : decode cX9_ones 16 = .ok (.istore_n 3, 1) := by decide +kernel
theorem dX9_ones_17 : decode cX9_ones 17 = .ok (.goto (-13), 3) := by decide +kernel
theorem dX9_ones_20 : decode cX9_ones 20 = .ok (.iload_n 2, 1) := by decide +kernel
theorem dX9_ones_21 : decode cX9_ones 21 = .ok (.ireturn, 1) := by decide +kernel
theorem dX9_has_0 : decode cX9_has 0 = .ok (.iload_n 1, 1) := by decide +kernel
theorem dX9_has_1 : decode cX9_has 1 = .ok (.iload_n 2, 1) := by decide +kernel
theorem dX9_has_2 : decode cX9_has 2 = .ok (.ishr, 1) := by decide +kernel
theorem dX9_has_3 : decode cX9_has 3 = .ok (.iconst 1, 1) := by decide +kernel
theorem dX9_has_4 : decode cX9_has 4 = .ok (.iand, 1) := by decide +kernel
theorem dX9_has_5 : decode cX9_has 5 = .ok (.iconst 1, 1) := by decide +kernel
theorem dX9_has_6 : decode cX9_has 6 = .ok (.if_icmp .ne 7, 3) := by decide +kernel
theorem dX9_has_9 : decode cX9_has 9 = .ok (.iconst 1, 1) := by decide +kernel
theorem dX9_has_10 : decode cX9_has 10 = .ok (.goto 4, 3) := by decide +kernel
theorem dX9_has_13 : decode cX9_has 13 = .ok (.iconst 0, 1) := by decide +kernel
theorem dX9_has_14 : decode cX9_has 14 = .ok (.ireturn, 1) := by decide +kernel
set_option maxRecDepth 20000 in
theorem ggX9_isWord_X9_in : GoodIn wsX9_isWord wsX9_in := goodIn_r _ [6] (by decide +kernel) (by decide +kernel)
set_option maxRecDepth 20000 in
theorem gX9_isWord_X9_in : GoodIn wsX9_isWord (wsV RX9 133 RX9 yX9_in wsX9_in) := goodIn_app (goodIn_of _ (by decide +kernel)) ggX9_isWord_X9_in
theorem dX9_isWord_0 : decode cX9_isWord 0 = .ok (.aload_n 0, 1) := by decide +kernel
theorem dX9_isWord_1 : decode cX9_isWord 1 = .ok (.iload_n 1, 1) := by decide +kernel
theorem dX9_isWord_2 : decode cX9_isWord 2 = .ok (.iconst 0, 1) := by decide +kernel
theorem dX9_isWord_3 : decode cX9_isWord 3 = .ok (.aload_n 0, 1) := by decide +kernel
theorem dX9_isWord_4 : decode cX9_isWord 4 = .ok (.getfield 7, 3) := by decide +kernel
theorem dX9_isWord_7 : decode cX9_isWord 7 = .ok (.iconst 1, 1) := by decide +kernel
theorem dX9_isWord_8 : decode cX9_isWord 8 = .ok (.isub, 1) := by decide +kernel
theorem dX9_isWord_9 : decode cX9_isWord 9 = .ok (.invokevirtual 133, 3) := by decide +kernel
theorem dX9_isWord_12 : decode cX9_isWord 12 = .ok (.ireturn, 1) := by decide +kernel
set_option maxRecDepth 20000 in
theorem ggX9_isLand_X9_in : GoodIn wsX9_isLand wsX9_in := goodIn_r _ [5] (by decide +kernel) (by decide +kernel)
set_option maxRecDepth 20000 in
theorem gX9_isLand_X9_in : GoodIn wsX9_isLand (wsV RX9 133 RX9 yX9_in wsX9_in) := goodIn_app (goodIn_of _ (by decide +kernel)) ggX9_isLand_X9_in
theorem dX9_isLand_0 : decode cX9_isLand 0 = .ok (.aload_n 0, 1) := by decide +kernel
theorem dX9_isLand_1 : decode cX9_isLand 1 = .ok (.iload_n 1, 1) := by decide +kernel
theorem dX9_isLand_2 : decode cX9_isLand 2 = .ok (.iconst 0, 1) := by decide +kernel
theorem dX9_isLand_3 : decode cX9_isLand 3 = .ok (.iconst 1, 1) := by decide +kernel
theorem dX9_isLand_4 : decode cX9_isLand 4 = .ok (.invokevirtual 133, 3) := by decide +kernel
theorem dX9_isLand_7 : decode cX9_isLand 7 = .ok (.ireturn, 1) := by decide +kernel
set_option maxRecDepth 20000 in
theorem ggX9_isEnd_X9_in : GoodIn wsX9_isEnd wsX9_in := goodIn_r _ [5] (by decide +kernel) (by decide +kernel)
set_option maxRecDepth 20000 in
theorem gX9_isEnd_X9_in : GoodIn wsX9_isEnd (wsV RX9 133 RX9 yX9_in wsX9_in) := goodIn_app (goodIn_of _ (by decide +kernel)) ggX9_isEnd_X9_in
theorem dX9_isEnd_0 : decode cX9_isEnd 0 = .ok (.aload_n 0, 1) := by decide +kernel
theorem dX9_isEnd_1 : decode cX9_isEnd 1 = .ok (.iload_n 1, 1) := by decide +kernel
theorem dX9_isEnd_2 : decode cX9_isEnd 2 = .ok (.iconst 0, 1) := by decide +kernel
theorem dX9_isEnd_3 : decode cX9_isEnd 3 = .ok (.iconst 3, 1) := by decide +kernel
theorem dX9_isEnd_4 : decode cX9_isEnd 4 = .ok (.invokevirtual 133, 3) := by decide +kernel
theorem dX9_isEnd_7 : decode cX9_isEnd 7 = .ok (.ireturn, 1) := by decide +kernel
theorem dX9_isUnder_0 : decode cX9_isUnder 0 = .ok (.iload_n 2, 1) := by decide +kernel
theorem dX9_isUnder_1 : decode cX9_isUnder 1 = .ok (.ifCond .eq 8, 3) := by decide +kernel
theorem dX9_isUnder_4 : decode cX9_isUnder 4 = .ok (.iload_n 1, 1) := by decide +kernel
theorem dX9_isUnder_5 : decode cX9_isUnder 5 = .ok (.iload_n 2, 1) := by decide +kernel
theorem dX9_isUnder_6 : decode cX9_isUnder 6 = .ok (.if_icmp .ne 5, 3) := by decide +kernel
theorem dX9_isUnder_9 : decode cX9_isUnder 9 = .ok (.iconst 1, 1) := by decide +kernel
theorem dX9_isUnder_10 : decode cX9_isUnder 10 = .ok (.ireturn, 1) := by decide +kernel
theorem dX9_isUnder_11 : decode cX9_isUnder 11 = .ok (.iload_n 2, 1) := by decide +kernel
theorem dX9_isUnder_12 : decode cX9_isUnder 12 = .ok (.iconst 1, 1) := by decide +kernel
theorem dX9_isUnder_13 : decode cX9_isUnder 13 = .ok (.if_icmp .ne 25, 3) := by decide +kernel
theorem dX9_isUnder_16 : decode cX9_isUnder 16 = .ok (.iload_n 1, 1) := by decide +kernel
theorem dX9_isUnder_17 : decode cX9_isUnder 17 = .ok (.iconst 2, 1) := by decide +kernel
theorem dX9_isUnder_18 : decode cX9_isUnder 18 = .ok (.if_icmp .eq 14, 3) := by decide +kernel
theorem dX9_isUnder_21 : decode cX9_isUnder 21 = .ok (.iload_n 1, 1) := by decide +kernel
theorem dX9_isUnder_22 : decode cX9_isUnder 22 = .ok (.iconst 5, 1) := by decide +kernel
theorem dX9_isUnder_23 : decode cX9_isUnder 23 = .ok (.if_icmp .eq 9, 3) := by decide +kernel
theorem dX9_isUnder_26 : decode cX9_isUnder 26 = .ok (.iload_n 1, 1) := by decide +kernel
theorem dX9_isUnder_27 : decode cX9_isUnder 27 = .ok (.bipush 6, 2) := by decide +kernel
theorem dX9_isUnder_29 : decode cX9_isUnder 29 = .ok (.if_icmp .ne 7, 3) := by decide +kernel
theorem dX9_isUnder_32 : decode cX9_isUnder 32 = .ok (.iconst 1, 1) := by decide +kernel
theorem dX9_isUnder_33 : decode cX9_isUnder 33 = .ok (.goto 4, 3) := by decide +kernel
theorem dX9_isUnder_36 : decode cX9_isUnder 36 = .ok (.iconst 0, 1) := by decide +kernel
theorem dX9_isUnder_37 : decode cX9_isUnder 37 = .ok (.ireturn, 1) := by decide +kernel
theorem dX9_isUnder_38 : decode cX9_isUnder 38 = .ok (.iload_n 2, 1) := by decide +kernel
theorem dX9_isUnder_39 : decode cX9_isUnder 39 = .ok (.iconst 2, 1) := by decide +kernel
theorem dX9_isUnder_40 : decode cX9_isUnder 40 = .ok (.if_icmp .ne 12, 3) := by decide +kernel
theorem dX9_isUnder_43 : decode cX9_isUnder 43 = .ok (.iload_n 1, 1) := by decide +kernel
theorem dX9_isUnder_44 : decode cX9_isUnder 44 = .ok (.iconst 5, 1) := by decide +kernel
theorem dX9_isUnder_45 : decode cX9_isUnder 45 = .ok (.if_icmp .ne 7, 3) := by decide +kernel
theorem dX9_isUnder_48 : decode cX9_isUnder 48 = .ok (.iconst 1, 1) := by decide +kernel
theorem dX9_isUnder_49 : decode cX9_isUnder 49 = .ok (.goto 4, 3) := by decide +kernel
theorem dX9_isUnder_52 : decode cX9_isUnder 52 = .ok (.iconst 0, 1) := by decide +kernel
theorem dX9_isUnder_53 : decode cX9_isUnder 53 = .ok (.ireturn, 1) := by decide +kernel
set_option maxRecDepth 20000 in
theorem ggX9_known_X9_in : GoodIn wsX9_known wsX9_in := goodIn_r _ [6] (by decide +kernel) (by decide +kernel)
set_option maxRecDepth 20000 in
theorem gX9_known_X9_in : GoodIn wsX9_known (wsV RX9 133 RX9 yX9_in wsX9_in) := goodIn_app (goodIn_of _ (by decide +kernel)) ggX9_known_X9_in
theorem dX9_known_0 : decode cX9_known 0 = .ok (.aload_n 0, 1) := by decide +kernel
theorem dX9_known_1 : decode cX9_known 1 = .ok (.iload_n 1, 1) := by decide +kernel
theorem dX9_known_2 : decode cX9_known 2 = .ok (.iconst 0, 1) := by decide +kernel
theorem dX9_known_3 : decode cX9_known 3 = .ok (.bipush 7, 2) := by decide +kernel
theorem dX9_known_5 : decode cX9_known 5 = .ok (.invokevirtual 133, 3) := by decide +kernel
theorem dX9_known_8 : decode cX9_known 8 = .ok (.ifCond .ne 5, 3) := by decide +kernel
theorem dX9_known_11 : decode cX9_known 11 = .ok (.iconst (-1), 1) := by decide +kernel
theorem dX9_known_12 : decode cX9_known 12 = .ok (.ireturn, 1) := by decide +kernel
theorem dX9_known_13 : decode cX9_known 13 = .ok (.aload_n 0, 1) := by decide +kernel
theorem dX9_known_14 : decode cX9_known 14 = .ok (.iload_n 2, 1) := by decide +kernel
theorem dX9_known_15 : decode cX9_known 15 = .ok (.iconst 0, 1) := by decide +kernel
theorem dX9_known_16 : decode cX9_known 16 = .ok (.bipush 63, 2) := by decide +kernel
theorem dX9_known_18 : decode cX9_known 18 = .ok (.invokevirtual 133, 3) := by decide +kernel
theorem dX9_known_21 : decode cX9_known 21 = .ok (.ifCond .ne 6, 3) := by decide +kernel
theorem dX9_known_24 : decode cX9_known 24 = .ok (.bipush (-2), 2) := by decide +kernel
theorem dX9_known_26 : decode cX9_known 26 = .ok (.ireturn, 1) := by decide +kernel
theorem dX9_known_27 : decode cX9_known 27 = .ok (.aload_n 0, 1) := by decide +kernel
theorem dX9_known_28 : decode cX9_known 28 = .ok (.getfield 19, 3) := by decide +kernel
theorem dX9_known_31 : decode cX9_known 31 = .ok (.iload_n 1, 1) := by decide +kernel
theorem dX9_known_32 : decode cX9_known 32 = .ok (.iaload, 1) := by decide +kernel
theorem dX9_known_33 : decode cX9_known 33 = .ok (.istore_n 3, 1) := by decide +kernel
theorem dX9_known_34 : decode cX9_known 34 = .ok (.aload_n 0, 1) := by decide +kernel
theorem dX9_known_35 : decode cX9_known 35 = .ok (.getfield 19, 3) := by decide +kernel
theorem dX9_known_38 : decode cX9_known 38 = .ok (.iload_n 1, 1) := by decide +kernel
theorem dX9_known_39 : decode cX9_known 39 = .ok (.iload_n 2, 1) := by decide +kernel
theorem dX9_known_40 : decode cX9_known 40 = .ok (.iastore, 1) := by decide +kernel
theorem dX9_known_41 : decode cX9_known 41 = .ok (.iload_n 3, 1) := by decide +kernel
theorem dX9_known_42 : decode cX9_known 42 = .ok (.ireturn, 1) := by decide +kernel
set_option maxRecDepth 20000 in
theorem ggX9_word_X9_in : GoodIn wsX9_word wsX9_in := goodIn_r _ [9] (by decide +kernel) (by decide +kernel)
set_option maxRecDepth 20000 in
theorem gX9_word_X9_in : GoodIn wsX9_word (wsV RX9 133 RX9 yX9_in wsX9_in) := goodIn_app (goodIn_of _ (by decide +kernel)) ggX9_word_X9_in
theorem dX9_word_0 : decode cX9_word 0 = .ok (.aload_n 0, 1) := by decide +kernel
theorem dX9_word_1 : decode cX9_word 1 = .ok (.iload_n 1, 1) := by decide +kernel
theorem dX9_word_2 : decode cX9_word 2 = .ok (.iconst 0, 1) := by decide +kernel
theorem dX9_word_3 : decode cX9_word 3 = .ok (.bipush 6, 2) := by decide +kernel
theorem dX9_word_5 : decode cX9_word 5 = .ok (.invokevirtual 133, 3) := by decide +kernel
theorem dX9_word_8 : decode cX9_word 8 = .ok (.ifCond .eq 14, 3) := by decide +kernel
theorem dX9_word_11 : decode cX9_word 11 = .ok (.aload_n 0, 1) := by decide +kernel
theorem dX9_word_12 : decode cX9_word 12 = .ok (.iload_n 2, 1) := by decide +kernel
theorem dX9_word_13 : decode cX9_word 13 = .ok (.iconst 0, 1) := by decide +kernel
theorem dX9_word_14 : decode cX9_word 14 = .ok (.bipush 7, 2) := by decide +kernel
theorem dX9_word_16 : decode cX9_word 16 = .ok (.invokevirtual 133, 3) := by decide +kernel
theorem dX9_word_19 : decode cX9_word 19 = .ok (.ifCond .ne 5, 3) := by decide +kernel
theorem dX9_word_22 : decode cX9_word 22 = .ok (.iconst (-1), 1) := by decide +kernel
theorem dX9_word_23 : decode cX9_word 23 = .ok (.ireturn, 1) := by decide +kernel
theorem dX9_word_24 : decode cX9_word 24 = .ok (.aload_n 0, 1) := by decide +kernel
theorem dX9_word_25 : decode cX9_word 25 = .ok (.iload_n 3, 1) := by decide +kernel
theorem dX9_word_26 : decode cX9_word 26 = .ok (.iconst 0, 1) := by decide +kernel
theorem dX9_word_27 : decode cX9_word 27 = .ok (.sipush 1023, 3) := by decide +kernel
theorem dX9_word_30 : decode cX9_word 30 = .ok (.invokevirtual 133, 3) := by decide +kernel
theorem dX9_word_33 : decode cX9_word 33 = .ok (.ifCond .ne 6, 3) := by decide +kernel
theorem dX9_word_36 : decode cX9_word 36 = .ok (.bipush (-2), 2) := by decide +kernel
theorem dX9_word_38 : decode cX9_word 38 = .ok (.ireturn, 1) := by decide +kernel
theorem dX9_word_39 : decode cX9_word 39 = .ok (.aload_n 0, 1) := by decide +kernel
theorem dX9_word_40 : decode cX9_word 40 = .ok (.getfield 7, 3) := by decide +kernel
theorem dX9_word_43 : decode cX9_word 43 = .ok (.bipush 14, 2) := by decide +kernel
theorem dX9_word_45 : decode cX9_word 45 = .ok (.if_icmp .ne 6, 3) := by decide +kernel
theorem dX9_word_48 : decode cX9_word 48 = .ok (.bipush (-4), 2) := by decide +kernel
theorem dX9_word_50 : decode cX9_word 50 = .ok (.ireturn, 1) := by decide +kernel
theorem dX9_word_51 : decode cX9_word 51 = .ok (.aload_n 0, 1) := by decide +kernel
theorem dX9_word_52 : decode cX9_word 52 = .ok (.getfield 23, 3) := by decide +kernel
theorem dX9_word_55 : decode cX9_word 55 = .ok (.aload_n 0, 1) := by decide +kernel
theorem dX9_word_56 : decode cX9_word 56 = .ok (.getfield 7, 3) := by decide +kernel
theorem dX9_word_59 : decode cX9_word 59 = .ok (.iload_n 1, 1) := by decide +kernel
theorem dX9_word_60 : decode cX9_word 60 = .ok (.iastore, 1) := by decide +kernel
theorem dX9_word_61 : decode cX9_word 61 = .ok (.aload_n 0, 1) := by decide +kernel
theorem dX9_word_62 : decode cX9_word 62 = .ok (.getfield 26, 3) := by decide +kernel
theorem dX9_word_65 : decode cX9_word 65 = .ok (.aload_n 0, 1) := by decide +kernel
theorem dX9_word_66 : decode cX9_word 66 = .ok (.getfield 7, 3) := by decide +kernel
theorem dX9_word_69 : decode cX9_word 69 = .ok (.iload_n 2, 1) := by decide +kernel
theorem dX9_word_70 : decode cX9_word 70 = .ok (.iastore, 1) := by decide +kernel
theorem dX9_word_71 : decode cX9_word 71 = .ok (.aload_n 0, 1) := by decide +kernel
theorem dX9_word_72 : decode cX9_word 72 = .ok (.getfield 29, 3) := by decide +kernel
theorem dX9_word_75 : decode cX9_word 75 = .ok (.aload_n 0, 1) := by decide +kernel
theorem dX9_word_76 : decode cX9_word 76 = .ok (.getfield 7, 3) := by decide +kernel
theorem dX9_word_79 : decode cX9_word 79 = .ok (.iload_n 3, 1) := by decide +kernel
theorem dX9_word_80 : decode cX9_word 80 = .ok (.iastore, 1) := by decide +kernel
theorem dX9_word_81 : decode cX9_word 81 = .ok (.aload_n 0, 1) := by decide +kernel
theorem dX9_word_82 : decode cX9_word 82 = .ok (.dup, 1) := by decide +kernel
theorem dX9_word_83 : decode cX9_word 83 = .ok (.getfield 7, 3) := by decide +kernel
theorem dX9_word_86 : decode cX9_word 86 = .ok (.iconst 1, 1) := by decide +kernel
theorem dX9_word_87 : decode cX9_word 87 = .ok (.iadd, 1) := by decide +kernel
theorem dX9_word_88 : decode cX9_word 88 = .ok (.putfield 7, 3) := by decide +kernel
theorem dX9_word_91 : decode cX9_word 91 = .ok (.aload_n 0, 1) := by decide +kernel
theorem dX9_word_92 : decode cX9_word 92 = .ok (.getfield 7, 3) := by decide +kernel
theorem dX9_word_95 : decode cX9_word 95 = .ok (.iconst 1, 1) := by decide +kernel
theorem dX9_word_96 : decode cX9_word 96 = .ok (.isub, 1) := by decide +kernel
theorem dX9_word_97 : decode cX9_word 97 = .ok (.ireturn, 1) := by decide +kernel
theorem dX9_roomOf_0 : decode cX9_roomOf 0 = .ok (.aload_n 0, 1) := by decide +kernel
theorem dX9_roomOf_1 : decode cX9_roomOf 1 = .ok (.getfield 23, 3) := by decide +kernel
theorem dX9_roomOf_4 : decode cX9_roomOf 4 = .ok (.iload_n 1, 1) := by decide +kernel
theorem dX9_roomOf_5 : decode cX9_roomOf 5 = .ok (.iaload, 1) := by decide +kernel
theorem dX9_roomOf_6 : decode cX9_roomOf 6 = .ok (.bipush 6, 2) := by decide +kernel
theorem dX9_roomOf_8 : decode cX9_roomOf 8 = .ok (.if_icmp .ne 7, 3) := by decide +kernel
theorem dX9_roomOf_11 : decode cX9_roomOf 11 = .ok (.iconst 1, 1) := by decide +kernel
theorem dX9_roomOf_12 : decode cX9_roomOf 12 = .ok (.goto 28, 3) := by decide +kernel
theorem dX9_roomOf_15 : decode cX9_roomOf 15 = .ok (.aload_n 0, 1) := by decide +kernel
theorem dX9_roomOf_16 : decode cX9_roomOf 16 = .ok (.getfield 23, 3) := by decide +kernel
theorem dX9_roomOf_19 : decode cX9_roomOf 19 = .ok (.iload_n 1, 1) := by decide +kernel
theorem dX9_roomOf_20 : decode cX9_roomOf 20 = .ok (.iaload, 1) := by decide +kernel
theorem dX9_roomOf_21 : decode cX9_roomOf 21 = .ok (.iconst 2, 1) := by decide +kernel
theorem dX9_roomOf_22 : decode cX9_roomOf 22 = .ok (.if_icmp .eq 13, 3) := by decide +kernel
theorem dX9_roomOf_25 : decode cX9_roomOf 25 = .ok (.aload_n 0, 1) := by decide +kernel
theorem dX9_roomOf_26 : decode cX9_roomOf 26 = .ok (.getfield 23, 3) := by decide +kernel
theorem dX9_roomOf_29 : decode cX9_roomOf 29 = .ok (.iload_n 1, 1) := by decide +kernel
theorem dX9_roomOf_30 : decode cX9_roomOf 30 = .ok (.iaload, 1) := by decide +kernel
theorem dX9_roomOf_31 : decode cX9_roomOf 31 = .ok (.iconst 5, 1) := by decide +kernel
theorem dX9_roomOf_32 : decode cX9_roomOf 32 = .ok (.if_icmp .ne 7, 3) := by decide +kernel
theorem dX9_roomOf_35 : decode cX9_roomOf 35 = .ok (.iconst 4, 1) := by decide +kernel
theorem dX9_roomOf_36 : decode cX9_roomOf 36 = .ok (.goto 4, 3) := by decide +kernel
theorem dX9_roomOf_39 : decode cX9_roomOf 39 = .ok (.iconst 0, 1) := by decide +kernel
theorem dX9_roomOf_40 : decode cX9_roomOf 40 = .ok (.ireturn, 1) := by decide +kernel
set_option maxRecDepth 20000 in
theorem ggX9_hold_X9_isWord : GoodIn wsX9_hold wsX9_isWord := goodIn_r _ [7, 8, 9, 10, 11, 6, 12, 18, 19, 20, 21, 22, 23, 24, 25, 26, 27, 28, 29, 30, 31, 32, 33, 34, 35, 36, 37, 38, 39, 40, 41, 42, 43, 44, 45, 46, 47, 48, 49, 50, 51, 52, 53, 54, 55, 56, 57] (by decide +kernel) (by decide +kernel)
set_option maxRecDepth 20000 in
theorem gX9_hold_X9_isWord : GoodIn wsX9_hold (wsV RX9 137 RX9 yX9_isWord wsX9_isWord) := goodIn_app (goodIn_of _ (by decide +kernel)) ggX9_hold_X9_isWord
set_option maxRecDepth 20000 in
theorem ggX9_hold_X9_roomOf : GoodIn wsX9_hold wsX9_roomOf := goodIn_r _ [16, 17, 18, 19, 20, 21, 22, 23, 24, 25, 26, 27, 28, 29, 30, 31, 32, 33, 34, 35, 36, 37, 38, 39, 40, 41, 42, 43, 44, 45, 46, 47, 48, 49, 50, 51, 52, 53, 54, 55, 56, 57] (by decide +kernel) (by decide +kernel)
set_option maxRecDepth 20000 in
theorem gX9_hold_X9_roomOf : GoodIn wsX9_hold (wsV RX9 141 RX9 yX9_roomOf wsX9_roomOf) := goodIn_app (goodIn_of _ (by decide +kernel)) ggX9_hold_X9_roomOf
theorem dX9_hold_0 : decode cX9_hold 0 = .ok (.aload_n 0, 1) := by decide +kernel
theorem dX9_hold_1 : decode cX9_hold 1 = .ok (.iload_n 1, 1) := by decide +kernel
theorem dX9_hold_2 : decode cX9_hold 2 = .ok (.invokevirtual 137, 3) := by decide +kernel
theorem dX9_hold_5 : decode cX9_hold 5 = .ok (.ifCond .eq 11, 3) := by decide +kernel
theorem dX9_hold_8 : decode cX9_hold 8 = .ok (.aload_n 0, 1) := by decide +kernel
theorem dX9_hold_9 : decode cX9_hold 9 = .ok (.iload_n 2, 1) := by decide +kernel
theorem dX9_hold_10 : decode cX9_hold 10 = .ok (.invokevirtual 137, 3) := by decide +kernel
theorem dX9_hold_13 : decode cX9_hold 13 = .ok (.ifCond .ne 5, 3) := by decide +kernel
theorem dX9_hold_16 : decode cX9_hold 16 = .ok (.iconst (-1), 1) := by decide +kernel
theorem dX9_hold_17 : decode cX9_hold 17 = .ok (.ireturn, 1) := by decide +kernel
theorem dX9_hold_18 : decode cX9_hold 18 = .ok (.iload_n 2, 1) := by decide +kernel
theorem dX9_hold_19 : decode cX9_hold 19 = .ok (.iload_n 1, 1) := by decide +kernel
theorem dX9_hold_20 : decode cX9_hold 20 = .ok (.if_icmp .lt 6, 3) := by decide +kernel
theorem dX9_hold_23 : decode cX9_hold 23 = .ok (.bipush (-2), 2) := by decide +kernel
theorem dX9_hold_25 : decode cX9_hold 25 = .ok (.ireturn, 1) := by decide +kernel
theorem dX9_hold_26 : decode cX9_hold 26 = .ok (.aload_n 0, 1) := by decide +kernel
theorem dX9_hold_27 : decode cX9_hold 27 = .ok (.iload_n 1, 1) := by decide +kernel
theorem dX9_hold_28 : decode cX9_hold 28 = .ok (.invokevirtual 141, 3) := by decide +kernel
theorem dX9_hold_31 : decode cX9_hold 31 = .ok (.ifCond .ne 6, 3) := by decide +kernel
theorem dX9_hold_34 : decode cX9_hold 34 = .ok (.bipush (-12), 2) := by decide +kernel
theorem dX9_hold_36 : decode cX9_hold 36 = .ok (.ireturn, 1) := by decide +kernel
theorem dX9_hold_37 : decode cX9_hold 37 = .ok (.iconst 0, 1) := by decide +kernel
theorem dX9_hold_38 : decode cX9_hold 38 = .ok (.istore_n 3, 1) := by decide +kernel
theorem dX9_hold_39 : decode cX9_hold 39 = .ok (.iload_n 3, 1) := by decide +kernel
theorem dX9_hold_40 : decode cX9_hold 40 = .ok (.aload_n 0, 1) := by decide +kernel
theorem dX9_hold_41 : decode cX9_hold 41 = .ok (.getfield 32, 3) := by decide +kernel
theorem dX9_hold_44 : decode cX9_hold 44 = .ok (.iload_n 1, 1) := by decide +kernel
theorem dX9_hold_45 : decode cX9_hold 45 = .ok (.iaload, 1) := by decide +kernel
theorem dX9_hold_46 : decode cX9_hold 46 = .ok (.if_icmp .ge 26, 3) := by decide +kernel
theorem dX9_hold_49 : decode cX9_hold 49 = .ok (.aload_n 0, 1) := by decide +kernel
theorem dX9_hold_50 : decode cX9_hold 50 = .ok (.getfield 35, 3) := by decide +kernel
theorem dX9_hold_53 : decode cX9_hold 53 = .ok (.iconst 4, 1) := by decide +kernel
theorem dX9_hold_54 : decode cX9_hold 54 = .ok (.iload_n 1, 1) := by decide +kernel
theorem dX9_hold_55 : decode cX9_hold 55 = .ok (.imul, 1) := by decide +kernel
theorem dX9_hold_56 : decode cX9_hold 56 = .ok (.iload_n 3, 1) := by decide +kernel
theorem dX9_hold_57 : decode cX9_hold 57 = .ok (.iadd, 1) := by decide +kernel
theorem dX9_hold_58 : decode cX9_hold 58 = .ok (.iaload, 1) := by decide +kernel
theorem dX9_hold_59 : decode cX9_hold 59 = .ok (.iload_n 2, 1) := by decide +kernel
theorem dX9_hold_60 : decode cX9_hold 60 = .ok (.if_icmp .ne 6, 3) := by decide +kernel
theorem dX9_hold_63 : decode cX9_hold 63 = .ok (.bipush (-3), 2) := by decide +kernel
theorem dX9_hold_65 : decode cX9_hold 65 = .ok (.ireturn, 1) := by decide +kernel
theorem dX9_hold_66 : decode cX9_hold 66 = .ok (.iinc 3 1, 3) := by decide +kernel
theorem dX9_hold_69 : decode cX9_hold 69 = .ok (.goto (-30), 3) := by decide +kernel
theorem dX9_hold_72 : decode cX9_hold 72 = .ok (.aload_n 0, 1) := by decide +kernel
theorem dX9_hold_73 : decode cX9_hold 73 = .ok (.getfield 32, 3) := by decide +kernel
theorem dX9_hold_76 : decode cX9_hold 76 = .ok (.iload_n 1, 1) := by decide +kernel
theorem dX9_hold_77 : decode cX9_hold 77 = .ok (.iaload, 1) := by decide +kernel
theorem dX9_hold_78 : decode cX9_hold 78 = .ok (.aload_n 0, 1) := by decide +kernel
theorem dX9_hold_79 : decode cX9_hold 79 = .ok (.iload_n 1, 1) := by decide +kernel
theorem dX9_hold_80 : decode cX9_hold 80 = .ok (.invokevirtual 141, 3) := by decide +kernel
theorem dX9_hold_83 : decode cX9_hold 83 = .ok (.if_icmp .ne 6, 3) := by decide +kernel
theorem dX9_hold_86 : decode cX9_hold 86 = .ok (.bipush (-4), 2) := by decide +kernel
theorem dX9_hold_88 : decode cX9_hold 88 = .ok (.ireturn, 1) := by decide +kernel
theorem dX9_hold_89 : decode cX9_hold 89 = .ok (.aload_n 0, 1) := by decide +kernel
theorem dX9_hold_90 : decode cX9_hold 90 = .ok (.getfield 35, 3) := by decide +kernel
theorem dX9_hold_93 : decode cX9_hold 93 = .ok (.iconst 4, 1) := by decide +kernel
theorem dX9_hold_94 : decode cX9_hold 94 = .ok (.iload_n 1, 1) := by decide +kernel
theorem dX9_hold_95 : decode cX9_hold 95 = .ok (.imul, 1) := by decide +kernel
theorem dX9_hold_96 : decode cX9_hold 96 = .ok (.aload_n 0, 1) := by decide +kernel
theorem dX9_hold_97 : decode cX9_hold 97 = .ok (.getfield 32, 3) := by decide +kernel
theorem dX9_hold_100 : decode cX9_hold 100 = .ok (.iload_n 1, 1) := by decide +kernel
theorem dX9_hold_101 : decode cX9_hold 101 = .ok (.iaload, 1) := by decide +kernel
theorem dX9_hold_102 : decode cX9_hold 102 = .ok (.iadd, 1) := by decide +kernel
theorem dX9_hold_103 : decode cX9_hold 103 = .ok (.iload_n 2, 1) := by decide +kernel
theorem dX9_hold_104 : decode cX9_hold 104 = .ok (.iastore, 1) := by decide +kernel
theorem dX9_hold_105 : decode cX9_hold 105 = .ok (.aload_n 0, 1) := by decide +kernel
theorem dX9_hold_106 : decode cX9_hold 106 = .ok (.getfield 32, 3) := by decide +kernel
theorem dX9_hold_109 : decode cX9_hold 109 = .ok (.iload_n 1, 1) := by decide +kernel
theorem dX9_hold_110 : decode cX9_hold 110 = .ok (.dup2, 1) := by decide +kernel
theorem dX9_hold_111 : decode cX9_hold 111 = .ok (.iaload, 1) := by decide +kernel
theorem dX9_hold_112 : decode cX9_hold 112 = .ok (.iconst 1, 1) := by decide +kernel
theorem dX9_hold_113 : decode cX9_hold 113 = .ok (.iadd, 1) := by decide +kernel
theorem dX9_hold_114 : decode cX9_hold 114 = .ok (.iastore, 1) := by decide +kernel
theorem dX9_hold_115 : decode cX9_hold 115 = .ok (.aload_n 0, 1) := by decide +kernel
theorem dX9_hold_116 : decode cX9_hold 116 = .ok (.getfield 32, 3) := by decide +kernel
theorem dX9_hold_119 : decode cX9_hold 119 = .ok (.iload_n 1, 1) := by decide +kernel
theorem dX9_hold_120 : decode cX9_hold 120 = .ok (.iaload, 1) := by decide +kernel
theorem dX9_hold_121 : decode cX9_hold 121 = .ok (.ireturn, 1) := by decide +kernel
set_option maxRecDepth 20000 in
theorem ggX9_of_X9_isWord : GoodIn wsX9_of wsX9_isWord := goodIn_r _ [10, 11, 12, 13, 14, 9, 15, 16, 17, 18, 19, 20, 21, 22, 23, 24, 25, 26, 27, 28, 29, 30, 31, 32, 33, 34, 35, 36, 37, 38, 39, 40, 41, 42, 43, 44, 45, 46, 47, 48, 49, 50, 51, 52, 53, 54, 55] (by decide +kernel) (by decide +kernel)
set_option maxRecDepth 20000 in
theorem gX9_of_X9_isWord : GoodIn wsX9_of (wsV RX9 137 RX9 yX9_isWord wsX9_isWord) := goodIn_app (goodIn_of _ (by decide +kernel)) ggX9_of_X9_isWord
set_option maxRecDepth 20000 in
theorem ggX9_of_X9_in : GoodIn wsX9_of wsX9_in := goodIn_r _ [15] (by decide +kernel) (by decide +kernel)
set_option maxRecDepth 20000 in
theorem gX9_of_X9_in : GoodIn wsX9_of (wsV RX9 133 RX9 yX9_in wsX9_in) := goodIn_app (goodIn_of _ (by decide +kernel)) ggX9_of_X9_in
theorem dX9_of_0 : decode cX9_of 0 = .ok (.aload_n 0, 1) := by decide +kernel
theorem dX9_of_1 : decode cX9_of 1 = .ok (.iload_n 1, 1) := by decide +kernel
theorem dX9_of_2 : decode cX9_of 2 = .ok (.invokevirtual 137, 3) := by decide +kernel
theorem dX9_of_5 : decode cX9_of 5 = .ok (.ifCond .eq 14, 3) := by decide +kernel
theorem dX9_of_8 : decode cX9_of 8 = .ok (.aload_n 0, 1) := by decide +kernel
theorem dX9_of_9 : decode cX9_of 9 = .ok (.iload_n 2, 1) := by decide +kernel
theorem dX9_of_10 : decode cX9_of 10 = .ok (.iconst 0, 1) := by decide +kernel
theorem dX9_of_11 : decode cX9_of 11 = .ok (.bipush 7, 2) := by decide +kernel
theorem dX9_of_13 : decode cX9_of 13 = .ok (.invokevirtual 133, 3) := by decide +kernel
theorem dX9_of_16 : decode cX9_of 16 = .ok (.ifCond .ne 5, 3) := by decide +kernel
theorem dX9_of_19 : decode cX9_of 19 = .ok (.iconst (-1), 1) := by decide +kernel
theorem dX9_of_20 : decode cX9_of 20 = .ok (.ireturn, 1) := by decide +kernel
theorem dX9_of_21 : decode cX9_of 21 = .ok (.iload_n 2, 1) := by decide +kernel
theorem dX9_of_22 : decode cX9_of 22 = .ok (.tableswitch 58 0 3 #[30, 37, 44, 51], 30) := by decide +kernel
theorem dX9_of_52 : decode cX9_of 52 = .ok (.aload_n 0, 1) := by decide +kernel
theorem dX9_of_53 : decode cX9_of 53 = .ok (.getfield 23, 3) := by decide +kernel
theorem dX9_of_56 : decode cX9_of 56 = .ok (.iload_n 1, 1) := by decide +kernel
theorem dX9_of_57 : decode cX9_of 57 = .ok (.iaload, 1) := by decide +kernel
theorem dX9_of_58 : decode cX9_of 58 = .ok (.ireturn, 1) := by decide +kernel
theorem dX9_of_59 : decode cX9_of 59 = .ok (.aload_n 0, 1) := by decide +kernel
theorem dX9_of_60 : decode cX9_of 60 = .ok (.getfield 26, 3) := by decide +kernel
theorem dX9_of_63 : decode cX9_of 63 = .ok (.iload_n 1, 1) := by decide +kernel
theorem dX9_of_64 : decode cX9_of 64 = .ok (.iaload, 1) := by decide +kernel
theorem dX9_of_65 : decode cX9_of 65 = .ok (.ireturn, 1) := by decide +kernel
theorem dX9_of_66 : decode cX9_of 66 = .ok (.aload_n 0, 1) := by decide +kernel
theorem dX9_of_67 : decode cX9_of 67 = .ok (.getfield 29, 3) := by decide +kernel
theorem dX9_of_70 : decode cX9_of 70 = .ok (.iload_n 1, 1) := by decide +kernel
theorem dX9_of_71 : decode cX9_of 71 = .ok (.iaload, 1) := by decide +kernel
theorem dX9_of_72 : decode cX9_of 72 = .ok (.ireturn, 1) := by decide +kernel
theorem dX9_of_73 : decode cX9_of 73 = .ok (.aload_n 0, 1) := by decide +kernel
theorem dX9_of_74 : decode cX9_of 74 = .ok (.getfield 32, 3) := by decide +kernel
theorem dX9_of_77 : decode cX9_of 77 = .ok (.iload_n 1, 1) := by decide +kernel
theorem dX9_of_78 : decode cX9_of 78 = .ok (.iaload, 1) := by decide +kernel
theorem dX9_of_79 : decode cX9_of 79 = .ok (.ireturn, 1) := by decide +kernel
theorem dX9_of_80 : decode cX9_of 80 = .ok (.iload_n 2, 1) := by decide +kernel
theorem dX9_of_81 : decode cX9_of 81 = .ok (.iconst 4, 1) := by decide +kernel
theorem dX9_of_82 : decode cX9_of 82 = .ok (.isub, 1) := by decide +kernel
theorem dX9_of_83 : decode cX9_of 83 = .ok (.aload_n 0, 1) := by decide +kernel
theorem dX9_of_84 : decode cX9_of 84 = .ok (.getfield 32, 3) := by decide +kernel
theorem dX9_of_87 : decode cX9_of 87 = .ok (.iload_n 1, 1) := by decide +kernel
theorem dX9_of_88 : decode cX9_of 88 = .ok (.iaload, 1) := by decide +kernel
theorem dX9_of_89 : decode cX9_of 89 = .ok (.if_icmp .ge 18, 3) := by decide +kernel
theorem dX9_of_92 : decode cX9_of 92 = .ok (.aload_n 0, 1) := by decide +kernel
theorem dX9_of_93 : decode cX9_of 93 = .ok (.getfield 35, 3) := by decide +kernel
theorem dX9_of_96 : decode cX9_of 96 = .ok (.iconst 4, 1) := by decide +kernel
theorem dX9_of_97 : decode cX9_of 97 = .ok (.iload_n 1, 1) := by decide +kernel
theorem dX9_of_98 : decode cX9_of 98 = .ok (.imul, 1) := by decide +kernel
theorem dX9_of_99 : decode cX9_of 99 = .ok (.iload_n 2, 1) := by decide +kernel
theorem dX9_of_100 : decode cX9_of 100 = .ok (.iadd, 1) := by decide +kernel
theorem dX9_of_101 : decode cX9_of 101 = .ok (.iconst 4, 1) := by decide +kernel
theorem dX9_of_102 : decode cX9_of 102 = .ok (.isub, 1) := by decide +kernel
theorem dX9_of_103 : decode cX9_of 103 = .ok (.iaload, 1) := by decide +kernel
theorem dX9_of_104 : decode cX9_of 104 = .ok (.goto 5, 3) := by decide +kernel
theorem dX9_of_107 : decode cX9_of 107 = .ok (.bipush (-5), 2) := by decide +kernel
theorem dX9_of_109 : decode cX9_of 109 = .ok (.ireturn, 1) := by decide +kernel
set_option maxRecDepth 20000 in
theorem ggX9_show_X9_in : GoodIn wsX9_show wsX9_in := goodIn_r _ [6] (by decide +kernel) (by decide +kernel)
set_option maxRecDepth 20000 in
theorem gX9_show_X9_in : GoodIn wsX9_show (wsV RX9 133 RX9 yX9_in wsX9_in) := goodIn_app (goodIn_of _ (by decide +kernel)) ggX9_show_X9_in
theorem dX9_show_0 : decode cX9_show 0 = .ok (.aload_n 0, 1) := by decide +kernel
theorem dX9_show_1 : decode cX9_show 1 = .ok (.iload_n 1, 1) := by decide +kernel
theorem dX9_show_2 : decode cX9_show 2 = .ok (.iconst 0, 1) := by decide +kernel
theorem dX9_show_3 : decode cX9_show 3 = .ok (.sipush 1023, 3) := by decide +kernel
theorem dX9_show_6 : decode cX9_show 6 = .ok (.invokevirtual 133, 3) := by decide +kernel
theorem dX9_show_9 : decode cX9_show 9 = .ok (.ifCond .ne 6, 3) := by decide +kernel
theorem dX9_show_12 : decode cX9_show 12 = .ok (.bipush (-2), 2) := by decide +kernel
theorem dX9_show_14 : decode cX9_show 14 = .ok (.ireturn, 1) := by decide +kernel
theorem dX9_show_15 : decode cX9_show 15 = .ok (.aload_n 0, 1) := by decide +kernel
theorem dX9_show_16 : decode cX9_show 16 = .ok (.getfield 13, 3) := by decide +kernel
theorem dX9_show_19 : decode cX9_show 19 = .ok (.istore_n 2, 1) := by decide +kernel
theorem dX9_show_20 : decode cX9_show 20 = .ok (.aload_n 0, 1) := by decide +kernel
theorem dX9_show_21 : decode cX9_show 21 = .ok (.iload_n 1, 1) := by decide +kernel
theorem dX9_show_22 : decode cX9_show 22 = .ok (.putfield 13, 3) := by decide +kernel
theorem dX9_show_25 : decode cX9_show 25 = .ok (.iload_n 2, 1) := by decide +kernel
theorem dX9_show_26 : decode cX9_show 26 = .ok (.ireturn, 1) := by decide +kernel
set_option maxRecDepth 20000 in
theorem ggX9_isRule_X9_in : GoodIn wsX9_isRule wsX9_in := goodIn_r _ [6] (by decide +kernel) (by decide +kernel)
set_option maxRecDepth 20000 in
theorem gX9_isRule_X9_in : GoodIn wsX9_isRule (wsV RX9 133 RX9 yX9_in wsX9_in) := goodIn_app (goodIn_of _ (by decide +kernel)) ggX9_isRule_X9_in
theorem dX9_isRule_0 : decode cX9_isRule 0 = .ok (.aload_n 0, 1) := by decide +kernel
theorem dX9_isRule_1 : decode cX9_isRule 1 = .ok (.iload_n 1, 1) := by decide +kernel
theorem dX9_isRule_2 : decode cX9_isRule 2 = .ok (.iconst 0, 1) := by decide +kernel
theorem dX9_isRule_3 : decode cX9_isRule 3 = .ok (.aload_n 0, 1) := by decide +kernel
theorem dX9_isRule_4 : decode cX9_isRule 4 = .ok (.getfield 38, 3) := by decide +kernel
theorem dX9_isRule_7 : decode cX9_isRule 7 = .ok (.iconst 1, 1) := by decide +kernel
theorem dX9_isRule_8 : decode cX9_isRule 8 = .ok (.isub, 1) := by decide +kernel
theorem dX9_isRule_9 : decode cX9_isRule 9 = .ok (.invokevirtual 133, 3) := by decide +kernel
theorem dX9_isRule_12 : decode cX9_isRule 12 = .ok (.ireturn, 1) := by decide +kernel
set_option maxRecDepth 20000 in
theorem ggX9_feed_X9_in : GoodIn wsX9_feed wsX9_in := goodIn_r _ [7] (by decide +kernel) (by decide +kernel)
set_option maxRecDepth 20000 in
theorem gX9_feed_X9_in : GoodIn wsX9_feed (wsV RX9 133 RX9 yX9_in wsX9_in) := goodIn_app (goodIn_of _ (by decide +kernel)) ggX9_feed_X9_in
theorem dX9_feed_0 : decode cX9_feed 0 = .ok (.aload_n 0, 1) := by decide +kernel
theorem dX9_feed_1 : decode cX9_feed 1 = .ok (.iload_n 2, 1) := by decide +kernel
theorem dX9_feed_2 : decode cX9_feed 2 = .ok (.iconst 0, 1) := by decide +kernel
theorem dX9_feed_3 : decode cX9_feed 3 = .ok (.iconst 4, 1) := by decide +kernel
theorem dX9_feed_4 : decode cX9_feed 4 = .ok (.invokevirtual 133, 3) := by decide +kernel
theorem dX9_feed_7 : decode cX9_feed 7 = .ok (.ifCond .ne 6, 3) := by decide +kernel
theorem dX9_feed_10 : decode cX9_feed 10 = .ok (.bipush (-2), 2) := by decide +kernel
theorem dX9_feed_12 : decode cX9_feed 12 = .ok (.ireturn, 1) := by decide +kernel
theorem dX9_feed_13 : decode cX9_feed 13 = .ok (.aload_n 0, 1) := by decide +kernel
theorem dX9_feed_14 : decode cX9_feed 14 = .ok (.getfield 41, 3) := by decide +kernel
theorem dX9_feed_17 : decode cX9_feed 17 = .ok (.iload_n 2, 1) := by decide +kernel
theorem dX9_feed_18 : decode cX9_feed 18 = .ok (.iadd, 1) := by decide +kernel
theorem dX9_feed_19 : decode cX9_feed 19 = .ok (.bipush 100, 2) := by decide +kernel
theorem dX9_feed_21 : decode cX9_feed 21 = .ok (.if_icmp .le 6, 3) := by decide +kernel
theorem dX9_feed_24 : decode cX9_feed 24 = .ok (.bipush (-4), 2) := by decide +kernel
theorem dX9_feed_26 : decode cX9_feed 26 = .ok (.ireturn, 1) := by decide +kernel
theorem dX9_feed_27 : decode cX9_feed 27 = .ok (.iload_n 2, 1) := by decide +kernel
theorem dX9_feed_28 : decode cX9_feed 28 = .ok (.iconst 1, 1) := by decide +kernel
theorem dX9_feed_29 : decode cX9_feed 29 = .ok (.isub, 1) := by decide +kernel
theorem dX9_feed_30 : decode cX9_feed 30 = .ok (.istore_n 3, 1) := by decide +kernel
theorem dX9_feed_31 : decode cX9_feed 31 = .ok (.iload_n 3, 1) := by decide +kernel
theorem dX9_feed_32 : decode cX9_feed 32 = .ok (.ifCond .lt 35, 3) := by decide +kernel
theorem dX9_feed_35 : decode cX9_feed 35 = .ok (.aload_n 0, 1) := by decide +kernel
theorem dX9_feed_36 : decode cX9_feed 36 = .ok (.getfield 47, 3) := by decide +kernel
theorem dX9_feed_39 : decode cX9_feed 39 = .ok (.aload_n 0, 1) := by decide +kernel
theorem dX9_feed_40 : decode cX9_feed 40 = .ok (.getfield 41, 3) := by decide +kernel
theorem dX9_feed_43 : decode cX9_feed 43 = .ok (.iload_n 1, 1) := by decide +kernel
theorem dX9_feed_44 : decode cX9_feed 44 = .ok (.bipush 8, 2) := by decide +kernel
theorem dX9_feed_46 : decode cX9_feed 46 = .ok (.iload_n 3, 1) := by decide +kernel
theorem dX9_feed_47 : decode cX9_feed 47 = .ok (.imul, 1) := by decide +kernel
theorem dX9_feed_48 : decode cX9_feed 48 = .ok (.ishr, 1) := by decide +kernel
theorem dX9_feed_49 : decode cX9_feed 49 = .ok (.i2b, 1) := by decide +kernel
theorem dX9_feed_50 : decode cX9_feed 50 = .ok (.iastore, 1) := by decide +kernel
theorem dX9_feed_51 : decode cX9_feed 51 = .ok (.aload_n 0, 1) := by decide +kernel
theorem dX9_feed_52 : decode cX9_feed 52 = .ok (.dup, 1) := by decide +kernel
theorem dX9_feed_53 : decode cX9_feed 53 = .ok (.getfield 41, 3) := by decide +kernel
theorem dX9_feed_56 : decode cX9_feed 56 = .ok (.iconst 1, 1) := by decide +kernel
theorem dX9_feed_57 : decode cX9_feed 57 = .ok (.iadd, 1) := by decide +kernel
theorem dX9_feed_58 : decode cX9_feed 58 = .ok (.putfield 41, 3) := by decide +kernel
theorem dX9_feed_61 : decode cX9_feed 61 = .ok (.iinc 3 (-1), 3) := by decide +kernel
theorem dX9_feed_64 : decode cX9_feed 64 = .ok (.goto (-33), 3) := by decide +kernel
theorem dX9_feed_67 : decode cX9_feed 67 = .ok (.aload_n 0, 1) := by decide +kernel
theorem dX9_feed_68 : decode cX9_feed 68 = .ok (.getfield 41, 3) := by decide +kernel
theorem dX9_feed_71 : decode cX9_feed 71 = .ok (.ireturn, 1) := by decide +kernel
theorem dX9_next_0 : decode cX9_next 0 = .ok (.aload_n 0, 1) := by decide +kernel
theorem dX9_next_1 : decode cX9_next 1 = .ok (.getfield 44, 3) := by decide +kernel
theorem dX9_next_4 : decode cX9_next 4 = .ok (.aload_n 0, 1) := by decide +kernel
theorem dX9_next_5 : decode cX9_next 5 = .ok (.getfield 41, 3) := by decide +kernel
theorem dX9_next_8 : decode cX9_next 8 = .ok (.if_icmp .ge 15, 3) := by decide +kernel
theorem dX9_next_11 : decode cX9_next 11 = .ok (.aload_n 0, 1) := by decide +kernel
theorem dX9_next_12 : decode cX9_next 12 = .ok (.getfield 47, 3) := by decide +kernel
theorem dX9_next_15 : decode cX9_next 15 = .ok (.aload_n 0, 1) := by decide +kernel
theorem dX9_next_16 : decode cX9_next 16 = .ok (.getfield 44, 3) := by decide +kernel
theorem dX9_next_19 : decode cX9_next 19 = .ok (.iaload, 1) := by decide +kernel
theorem dX9_next_20 : decode cX9_next 20 = .ok (.goto 4, 3) := by decide +kernel
theorem dX9_next_23 : decode cX9_next 23 = .ok (.iconst (-1), 1) := by decide +kernel
theorem dX9_next_24 : decode cX9_next 24 = .ok (.ireturn, 1) := by decide +kernel
set_option maxRecDepth 20000 in
theorem ggX9_takes_X9_next : GoodIn wsX9_takes wsX9_next := goodIn_r _ [6, 1, 7, 8, 9, 10, 11, 12, 13, 14, 15, 16, 17, 18, 19, 20, 21, 22, 23, 24, 25, 26, 27, 28, 29, 30, 31, 32, 33, 34, 35, 36, 37, 38, 39, 40, 41, 42, 43, 44, 45, 46, 47, 48] (by decide +kernel) (by decide +kernel)
set_option maxRecDepth 20000 in
theorem gX9_takes_X9_next : GoodIn wsX9_takes (wsV RX9 145 RX9 yX9_next wsX9_next) := goodIn_app (goodIn_of _ (by decide +kernel)) ggX9_takes_X9_next
theorem dX9_takes_0 : decode cX9_takes 0 = .ok (.aload_n 0, 1) := by decide +kernel
theorem dX9_takes_1 : decode cX9_takes 1 = .ok (.invokevirtual 145, 3) := by decide +kernel
theorem dX9_takes_4 : decode cX9_takes 4 = .ok (.iload_n 1, 1) := by decide +kernel
theorem dX9_takes_5 : decode cX9_takes 5 = .ok (.if_icmp .eq 5, 3) := by decide +kernel
theorem dX9_takes_8 : decode cX9_takes 8 = .ok (.iconst 0, 1) := by decide +kernel
theorem dX9_takes_9 : decode cX9_takes 9 = .ok (.ireturn, 1) := by decide +kernel
theorem dX9_takes_10 : decode cX9_takes 10 = .ok (.aload_n 0, 1) := by decide +kernel
theorem dX9_takes_11 : decode cX9_takes 11 = .ok (.dup, 1) := by decide +kernel
theorem dX9_takes_12 : decode cX9_takes 12 = .ok (.getfield 44, 3) := by decide +kernel
theorem dX9_takes_15 : decode cX9_takes 15 = .ok (.iconst 1, 1) := by decide +kernel
theorem dX9_takes_16 : decode cX9_takes 16 = .ok (.iadd, 1) := by decide +kernel
theorem dX9_takes_17 : decode cX9_takes 17 = .ok (.putfield 44, 3) := by decide +kernel
theorem dX9_takes_20 : decode cX9_takes 20 = .ok (.iconst 1, 1) := by decide +kernel
theorem dX9_takes_21 : decode cX9_takes 21 = .ok (.ireturn, 1) := by decide +kernel
set_option maxRecDepth 20000 in
theorem ggX9_takesWord_X9_takes : GoodIn wsX9_takesWord wsX9_takes := goodIn_r _ [5, 6, 7, 8, 9, 4, 10, 11, 12, 13, 14, 15, 16, 17, 18, 19, 20, 21, 22, 23, 24, 25, 26, 27, 28, 29, 30, 31, 32, 33, 34, 35, 36, 37, 38, 39, 40, 41, 42, 43, 44, 45, 46, 47, 48, 49, 50, 51, 52] (by decide +kernel) (by decide +kernel)
set_option maxRecDepth 20000 in
theorem gX9_takesWord_X9_takes : GoodIn wsX9_takesWord (wsV RX9 149 RX9 yX9_takes wsX9_takes) := goodIn_app (goodIn_of _ (by decide +kernel)) ggX9_takesWord_X9_takes
theorem dX9_takesWord_0 : decode cX9_takesWord 0 = .ok (.iload_n 2, 1) := by decide +kernel
theorem dX9_takesWord_1 : decode cX9_takesWord 1 = .ok (.iconst 1, 1) := by decide +kernel
theorem dX9_takesWord_2 : decode cX9_takesWord 2 = .ok (.isub, 1) := by decide +kernel
theorem dX9_takesWord_3 : decode cX9_takesWord 3 = .ok (.istore_n 3, 1) := by decide +kernel
theorem dX9_takesWord_4 : decode cX9_takesWord 4 = .ok (.iload_n 3, 1) := by decide +kernel
theorem dX9_takesWord_5 : decode cX9_takesWord 5 = .ok (.ifCond .lt 29, 3) := by decide +kernel
theorem dX9_takesWord_8 : decode cX9_takesWord 8 = .ok (.aload_n 0, 1) := by decide +kernel
theorem dX9_takesWord_9 : decode cX9_takesWord 9 = .ok (.bipush 96, 2) := by decide +kernel
theorem dX9_takesWord_11 : decode cX9_takesWord 11 = .ok (.iload_n 1, 1) := by decide +kernel
theorem dX9_takesWord_12 : decode cX9_takesWord 12 = .ok (.iconst 5, 1) := by decide +kernel
theorem dX9_takesWord_13 : decode cX9_takesWord 13 = .ok (.iload_n 3, 1) := by decide +kernel
theorem dX9_takesWord_14 : decode cX9_takesWord 14 = .ok (.imul, 1) := by decide +kernel
theorem dX9_takesWord_15 : decode cX9_takesWord 15 = .ok (.ishr, 1) := by decide +kernel
theorem dX9_takesWord_16 : decode cX9_takesWord 16 = .ok (.bipush 31, 2) := by decide +kernel
theorem dX9_takesWord_18 : decode cX9_takesWord 18 = .ok (.iand, 1) := by decide +kernel
theorem dX9_takesWord_19 : decode cX9_takesWord 19 = .ok (.iadd, 1) := by decide +kernel
theorem dX9_takesWord_20 : decode cX9_takesWord 20 = .ok (.invokevirtual 149, 3) := by decide +kernel
theorem dX9_takesWord_23 : decode cX9_takesWord 23 = .ok (.ifCond .ne 5, 3) := by decide +kernel
theorem dX9_takesWord_26 : decode cX9_takesWord 26 = .ok (.iconst 0, 1) := by decide +kernel
theorem dX9_takesWord_27 : decode cX9_takesWord 27 = .ok (.ireturn, 1) := by decide +kernel
theorem dX9_takesWord_28 : decode cX9_takesWord 28 = .ok (.iinc 3 (-1), 3) := by decide +kernel
theorem dX9_takesWord_31 : decode cX9_takesWord 31 = .ok (.goto (-27), 3) := by decide +kernel
theorem dX9_takesWord_34 : decode cX9_takesWord 34 = .ok (.aload_n 0, 1) := by decide +kernel
theorem dX9_takesWord_35 : decode cX9_takesWord 35 = .ok (.bipush 32, 2) := by decide +kernel
theorem dX9_takesWord_37 : decode cX9_takesWord 37 = .ok (.invokevirtual 149, 3) := by decide +kernel
theorem dX9_takesWord_40 : decode cX9_takesWord 40 = .ok (.ireturn, 1) := by decide +kernel
theorem dX9_put_0 : decode cX9_put 0 = .ok (.aload_n 0, 1) := by decide +kernel
theorem dX9_put_1 : decode cX9_put 1 = .ok (.getfield 68, 3) := by decide +kernel
theorem dX9_put_4 : decode cX9_put 4 = .ok (.aload_n 0, 1) := by decide +kernel
theorem dX9_put_5 : decode cX9_put 5 = .ok (.getfield 71, 3) := by decide +kernel
theorem dX9_put_8 : decode cX9_put 8 = .ok (.iload_n 1, 1) := by decide +kernel
theorem dX9_put_9 : decode cX9_put 9 = .ok (.iastore, 1) := by decide +kernel
theorem dX9_put_10 : decode cX9_put 10 = .ok (.aload_n 0, 1) := by decide +kernel
theorem dX9_put_11 : decode cX9_put 11 = .ok (.dup, 1) := by decide +kernel
theorem dX9_put_12 : decode cX9_put 12 = .ok (.getfield 71, 3) := by decide +kernel
theorem dX9_put_15 : decode cX9_put 15 = .ok (.iconst 1, 1) := by decide +kernel
theorem dX9_put_16 : decode cX9_put 16 = .ok (.iadd, 1) := by decide +kernel
theorem dX9_put_17 : decode cX9_put 17 = .ok (.putfield 71, 3) := by decide +kernel
theorem dX9_put_20 : decode cX9_put 20 = .ok (.return_, 1) := by decide +kernel
set_option maxRecDepth 20000 in
theorem ggX9_whole_X9_put : GoodIn wsX9_whole wsX9_put := goodIn_r _ [8, 9, 10, 11, 12, 13, 14, 15, 16, 17, 18, 19, 20, 21, 22, 23, 24, 25, 26, 27, 28, 29, 30, 31, 32, 33, 34, 35, 36, 37, 38, 39, 40, 41, 42, 43, 44, 45, 46, 47, 48, 49, 50] (by decide +kernel) (by decide +kernel)
set_option maxRecDepth 20000 in
theorem gX9_whole_X9_put : GoodIn wsX9_whole (wsV RX9 152 RX9 yX9_put wsX9_put) := goodIn_app (goodIn_of _ (by decide +kernel)) ggX9_whole_X9_put
theorem dX9_whole_0 : decode cX9_whole 0 = .ok (.aload_n 0, 1) := by decide +kernel
theorem dX9_whole_1 : decode cX9_whole 1 = .ok (.getfield 77, 3) := by decide +kernel
theorem dX9_whole_4 : decode cX9_whole 4 = .ok (.ifCond .le 48, 3) := by decide +kernel
theorem dX9_whole_7 : decode cX9_whole 7 = .ok (.aload_n 0, 1) := by decide +kernel
theorem dX9_whole_8 : decode cX9_whole 8 = .ok (.getfield 74, 3) := by decide +kernel
theorem dX9_whole_11 : decode cX9_whole 11 = .ok (.aload_n 0, 1) := by decide +kernel
theorem dX9_whole_12 : decode cX9_whole 12 = .ok (.getfield 77, 3) := by decide +kernel
theorem dX9_whole_15 : decode cX9_whole 15 = .ok (.iconst 1, 1) := by decide +kernel
theorem dX9_whole_16 : decode cX9_whole 16 = .ok (.isub, 1) := by decide +kernel
theorem dX9_whole_17 : decode cX9_whole 17 = .ok (.iaload, 1) := by decide +kernel
theorem dX9_whole_18 : decode cX9_whole 18 = .ok (.bipush 33, 2) := by decide +kernel
theorem dX9_whole_20 : decode cX9_whole 20 = .ok (.if_icmp .ne 32, 3) := by decide +kernel
theorem dX9_whole_23 : decode cX9_whole 23 = .ok (.aload_n 0, 1) := by decide +kernel
theorem dX9_whole_24 : decode cX9_whole 24 = .ok (.bipush 33, 2) := by decide +kernel
theorem dX9_whole_26 : decode cX9_whole 26 = .ok (.invokevirtual 152, 3) := by decide +kernel
theorem dX9_whole_29 : decode cX9_whole 29 = .ok (.aload_n 0, 1) := by decide +kernel
theorem dX9_whole_30 : decode cX9_whole 30 = .ok (.dup, 1) := by decide +kernel
theorem dX9_whole_31 : decode cX9_whole 31 = .ok (.getfield 77, 3) := by decide +kernel
theorem dX9_whole_34 : decode cX9_whole 34 = .ok (.iconst 1, 1) := by decide +kernel
theorem dX9_whole_35 : decode cX9_whole 35 = .ok (.isub, 1) := by decide +kernel
theorem dX9_whole_36 : decode cX9_whole 36 = .ok (.putfield 77, 3) := by decide +kernel
theorem dX9_whole_39 : decode cX9_whole 39 = .ok (.aload_n 0, 1) := by decide +kernel
theorem dX9_whole_40 : decode cX9_whole 40 = .ok (.dup, 1) := by decide +kernel
theorem dX9_whole_41 : decode cX9_whole 41 = .ok (.getfield 80, 3) := by decide +kernel
theorem dX9_whole_44 : decode cX9_whole 44 = .ok (.iconst 1, 1) := by decide +kernel
theorem dX9_whole_45 : decode cX9_whole 45 = .ok (.isub, 1) := by decide +kernel
theorem dX9_whole_46 : decode cX9_whole 46 = .ok (.putfield 80, 3) := by decide +kernel
theorem dX9_whole_49 : decode cX9_whole 49 = .ok (.goto (-49), 3) := by decide +kernel
theorem dX9_whole_52 : decode cX9_whole 52 = .ok (.return_, 1) := by decide +kernel
set_option maxRecDepth 20000 in
theorem ggX9_settle_X9_put : GoodIn wsX9_settle wsX9_put := goodIn_r _ [7, 8, 9, 10, 11, 12, 13, 14, 15, 16, 17, 18, 19, 20, 21, 22, 23, 24, 25, 26, 27, 28, 29, 30, 31, 32, 33, 34, 35, 36, 37, 38, 39, 40, 41, 42, 43, 44, 45, 46, 47, 48, 49] (by decide +kernel) (by decide +kernel)
set_option maxRecDepth 20000 in
theorem gX9_settle_X9_put : GoodIn wsX9_settle (wsV RX9 152 RX9 yX9_put wsX9_put) := goodIn_app (goodIn_of _ (by decide +kernel)) ggX9_settle_X9_put
theorem dX9_settle_0 : decode cX9_settle 0 = .ok (.aload_n 0, 1) := by decide +kernel
theorem dX9_settle_1 : decode cX9_settle 1 = .ok (.getfield 77, 3) := by decide +kernel
theorem dX9_settle_4 : decode cX9_settle 4 = .ok (.ifCond .le 67, 3) := by decide +kernel
theorem dX9_settle_7 : decode cX9_settle 7 = .ok (.aload_n 0, 1) := by decide +kernel
theorem dX9_settle_8 : decode cX9_settle 8 = .ok (.getfield 74, 3) := by decide +kernel
theorem dX9_settle_11 : decode cX9_settle 11 = .ok (.aload_n 0, 1) := by decide +kernel
theorem dX9_settle_12 : decode cX9_settle 12 = .ok (.getfield 77, 3) := by decide +kernel
theorem dX9_settle_15 : decode cX9_settle 15 = .ok (.iconst 1, 1) := by decide +kernel
theorem dX9_settle_16 : decode cX9_settle 16 = .ok (.isub, 1) := by decide +kernel
theorem dX9_settle_17 : decode cX9_settle 17 = .ok (.iaload, 1) := by decide +kernel
theorem dX9_settle_18 : decode cX9_settle 18 = .ok (.bipush 38, 2) := by decide +kernel
theorem dX9_settle_20 : decode cX9_settle 20 = .ok (.if_icmp .eq 25, 3) := by decide +kernel
theorem dX9_settle_23 : decode cX9_settle 23 = .ok (.aload_n 0, 1) := by decide +kernel
theorem dX9_settle_24 : decode cX9_settle 24 = .ok (.getfield 74, 3) := by decide +kernel
theorem dX9_settle_27 : decode cX9_settle 27 = .ok (.aload_n 0, 1) := by decide +kernel
theorem dX9_settle_28 : decode cX9_settle 28 = .ok (.getfield 77, 3) := by decide +kernel
theorem dX9_settle_31 : decode cX9_settle 31 = .ok (.iconst 1, 1) := by decide +kernel
theorem dX9_settle_32 : decode cX9_settle 32 = .ok (.isub, 1) := by decide +kernel
theorem dX9_settle_33 : decode cX9_settle 33 = .ok (.iaload, 1) := by decide +kernel
theorem dX9_settle_34 : decode cX9_settle 34 = .ok (.bipush 124, 2) := by decide +kernel
theorem dX9_settle_36 : decode cX9_settle 36 = .ok (.if_icmp .ne 35, 3) := by decide +kernel
theorem dX9_settle_39 : decode cX9_settle 39 = .ok (.iload_n 1, 1) := by decide +kernel
theorem dX9_settle_40 : decode cX9_settle 40 = .ok (.bipush 38, 2) := by decide +kernel
theorem dX9_settle_42 : decode cX9_settle 42 = .ok (.if_icmp .eq 29, 3) := by decide +kernel
theorem dX9_settle_45 : decode cX9_settle 45 = .ok (.aload_n 0, 1) := by decide +kernel
theorem dX9_settle_46 : decode cX9_settle 46 = .ok (.dup, 1) := by decide +kernel
theorem dX9_settle_47 : decode cX9_settle 47 = .ok (.getfield 77, 3) := by decide +kernel
theorem dX9_settle_50 : decode cX9_settle 50 = .ok (.iconst 1, 1) := by decide +kernel
theorem dX9_settle_51 : decode cX9_settle 51 = .ok (.isub, 1) := by decide +kernel
theorem dX9_settle_52 : decode cX9_settle 52 = .ok (.putfield 77, 3) := by decide +kernel
theorem dX9_settle_55 : decode cX9_settle 55 = .ok (.aload_n 0, 1) := by decide +kernel
theorem dX9_settle_56 : decode cX9_settle 56 = .ok (.aload_n 0, 1) := by decide +kernel
theorem dX9_settle_57 : decode cX9_settle 57 = .ok (.getfield 74, 3) := by decide +kernel
theorem dX9_settle_60 : decode cX9_settle 60 = .ok (.aload_n 0, 1) := by decide +kernel
theorem dX9_settle_61 : decode cX9_settle 61 = .ok (.getfield 77, 3) := by decide +kernel
theorem dX9_settle_64 : decode cX9_settle 64 = .ok (.iaload, 1) := by decide +kernel
theorem dX9_settle_65 : decode cX9_settle 65 = .ok (.invokevirtual 152, 3) := by decide +kernel
theorem dX9_settle_68 : decode cX9_settle 68 = .ok (.goto (-68), 3) := by decide +kernel
theorem dX9_settle_71 : decode cX9_settle 71 = .ok (.return_, 1) := by decide +kernel
set_option maxRecDepth 20000 in
theorem ggX9_takesTest_X9_next : GoodIn wsX9_takesTest wsX9_next := goodIn_r _ [6, 1, 7, 8, 26, 27, 28, 29, 30, 31, 32, 33, 34, 35, 36, 37, 38, 39, 40, 41, 42, 43, 44, 45, 46, 47, 48, 49, 50, 51, 52, 53, 54, 55, 56, 57, 58, 59, 60, 61, 62, 63, 64, 65] (by decide +kernel) (by decide +kernel)
set_option maxRecDepth 20000 in
theorem gX9_takesTest_X9_next : GoodIn wsX9_takesTest (wsV RX9 145 RX9 yX9_next wsX9_next) := goodIn_app (goodIn_of _ (by decide +kernel)) ggX9_takesTest_X9_next
set_option maxRecDepth 20000 in
theorem ggX9_takesTest_X9_in : GoodIn wsX9_takesTest wsX9_in := goodIn_r _ [12] (by decide +kernel) (by decide +kernel)
set_option maxRecDepth 20000 in
theorem gX9_takesTest_X9_in : GoodIn wsX9_takesTest (wsV RX9 133 RX9 yX9_in wsX9_in) := goodIn_app (goodIn_of _ (by decide +kernel)) ggX9_takesTest_X9_in
set_option maxRecDepth 20000 in
theorem ggX9_takesTest_X9_put : GoodIn wsX9_takesTest wsX9_put := goodIn_r _ [16, 17, 18, 26, 27, 28, 29, 30, 31, 32, 33, 34, 35, 36, 37, 38, 39, 40, 41, 42, 43, 44, 45, 46, 47, 48, 49, 50, 51, 52, 53, 54, 55, 56, 57, 58, 59, 60, 61, 62, 63, 64, 65] (by decide +kernel) (by decide +kernel)
set_option maxRecDepth 20000 in
theorem gX9_takesTest_X9_put : GoodIn wsX9_takesTest (wsV RX9 152 RX9 yX9_put wsX9_put) := goodIn_app (goodIn_of _ (by decide +kernel)) ggX9_takesTest_X9_put
set_option maxRecDepth 20000 in
theorem ggX9_takesTest_X9_whole : GoodIn wsX9_takesTest wsX9_whole := goodIn_r _ [22, 23, 24, 25, 13, 14, 15, 5, 16, 17, 18, 26, 27, 28, 29, 30, 31, 32, 33, 34, 35, 36, 37, 38, 39, 40, 41, 42, 43, 44, 45, 46, 47, 48, 49, 50, 51, 52, 53, 54, 55, 56, 57, 58, 59, 60, 61, 62, 63, 64, 65] (by decide +kernel) (by decide +kernel)
set_option maxRecDepth 20000 in
theorem gX9_takesTest_X9_whole : GoodIn wsX9_takesTest (wsV RX9 156 RX9 yX9_whole wsX9_whole) := goodIn_app (goodIn_of _ (by decide +kernel)) ggX9_takesTest_X9_whole
theorem dX9_takesTest_0 : decode cX9_takesTest 0 = .ok (.aload_n 0, 1) := by decide +kernel
theorem dX9_takesTest_1 : decode cX9_takesTest 1 = .ok (.invokevirtual 145, 3) := by decide +kernel
theorem dX9_takesTest_4 : decode cX9_takesTest 4 = .ok (.istore_n 1, 1) := by decide +kernel
theorem dX9_takesTest_5 : decode cX9_takesTest 5 = .ok (.iload_n 1, 1) := by decide +kernel
theorem dX9_takesTest_6 : decode cX9_takesTest 6 = .ok (.bipush 107, 2) := by decide +kernel
theorem dX9_takesTest_8 : decode cX9_takesTest 8 = .ok (.if_icmp .eq 9, 3) := by decide +kernel
theorem dX9_takesTest_11 : decode cX9_takesTest 11 = .ok (.iload_n 1, 1) := by decide +kernel
theorem dX9_takesTest_12 : decode cX9_takesTest 12 = .ok (.bipush 104, 2) := by decide +kernel
theorem dX9_takesTest_14 : decode cX9_takesTest 14 = .ok (.if_icmp .ne 7, 3) := by decide +kernel
theorem dX9_takesTest_17 : decode cX9_takesTest 17 = .ok (.iconst 1, 1) := by decide +kernel
theorem dX9_takesTest_18 : decode cX9_takesTest 18 = .ok (.goto 4, 3) := by decide +kernel
theorem dX9_takesTest_21 : decode cX9_takesTest 21 = .ok (.iconst 0, 1) := by decide +kernel
theorem dX9_takesTest_22 : decode cX9_takesTest 22 = .ok (.istore_n 2, 1) := by decide +kernel
theorem dX9_takesTest_23 : decode cX9_takesTest 23 = .ok (.iload_n 2, 1) := by decide +kernel
theorem dX9_takesTest_24 : decode cX9_takesTest 24 = .ok (.ifCond .ne 35, 3) := by decide +kernel
theorem dX9_takesTest_27 : decode cX9_takesTest 27 = .ok (.iload_n 1, 1) := by decide +kernel
theorem dX9_takesTest_28 : decode cX9_takesTest 28 = .ok (.bipush 117, 2) := by decide +kernel
theorem dX9_takesTest_30 : decode cX9_takesTest 30 = .ok (.if_icmp .eq 29, 3) := by decide +kernel
theorem dX9_takesTest_33 : decode cX9_takesTest 33 = .ok (.iload_n 1, 1) := by decide +kernel
theorem dX9_takesTest_34 : decode cX9_takesTest 34 = .ok (.bipush 98, 2) := by decide +kernel
theorem dX9_takesTest_36 : decode cX9_takesTest 36 = .ok (.if_icmp .eq 23, 3) := by decide +kernel
theorem dX9_takesTest_39 : decode cX9_takesTest 39 = .ok (.iload_n 1, 1) := by decide +kernel
theorem dX9_takesTest_40 : decode cX9_takesTest 40 = .ok (.bipush 99, 2) := by decide +kernel
theorem dX9_takesTest_42 : decode cX9_takesTest 42 = .ok (.if_icmp .eq 17, 3) := by decide +kernel
theorem dX9_takesTest_45 : decode cX9_takesTest 45 = .ok (.iload_n 1, 1) := by decide +kernel
theorem dX9_takesTest_46 : decode cX9_takesTest 46 = .ok (.bipush 101, 2) := by decide +kernel
theorem dX9_takesTest_48 : decode cX9_takesTest 48 = .ok (.if_icmp .eq 11, 3) := by decide +kernel
theorem dX9_takesTest_51 : decode cX9_takesTest 51 = .ok (.iload_n 1, 1) := by decide +kernel
theorem dX9_takesTest_52 : decode cX9_takesTest 52 = .ok (.bipush 115, 2) := by decide +kernel
theorem dX9_takesTest_54 : decode cX9_takesTest 54 = .ok (.if_icmp .eq 5, 3) := by decide +kernel
theorem dX9_takesTest_57 : decode cX9_takesTest 57 = .ok (.iconst 0, 1) := by decide +kernel
theorem dX9_takesTest_58 : decode cX9_takesTest 58 = .ok (.ireturn, 1) := by decide +kernel
theorem dX9_takesTest_59 : decode cX9_takesTest 59 = .ok (.aload_n 0, 1) := by decide +kernel
theorem dX9_takesTest_60 : decode cX9_takesTest 60 = .ok (.dup, 1) := by decide +kernel
theorem dX9_takesTest_61 : decode cX9_takesTest 61 = .ok (.getfield 44, 3) := by decide +kernel
theorem dX9_takesTest_64 : decode cX9_takesTest 64 = .ok (.iconst 1, 1) := by decide +kernel
theorem dX9_takesTest_65 : decode cX9_takesTest 65 = .ok (.iadd, 1) := by decide +kernel
theorem dX9_takesTest_66 : decode cX9_takesTest 66 = .ok (.putfield 44, 3) := by decide +kernel
theorem dX9_takesTest_69 : decode cX9_takesTest 69 = .ok (.aload_n 0, 1) := by decide +kernel
theorem dX9_takesTest_70 : decode cX9_takesTest 70 = .ok (.invokevirtual 145, 3) := by decide +kernel
theorem dX9_takesTest_73 : decode cX9_takesTest 73 = .ok (.istore_n 3, 1) := by decide +kernel
theorem dX9_takesTest_74 : decode cX9_takesTest 74 = .ok (.iload_n 3, 1) := by decide +kernel
theorem dX9_takesTest_75 : decode cX9_takesTest 75 = .ok (.bipush 61, 2) := by decide +kernel
theorem dX9_takesTest_77 : decode cX9_takesTest 77 = .ok (.if_icmp .eq 21, 3) := by decide +kernel
theorem dX9_takesTest_80 : decode cX9_takesTest 80 = .ok (.iload_n 2, 1) := by decide +kernel
theorem dX9_takesTest_81 : decode cX9_takesTest 81 = .ok (.ifCond .eq 15, 3) := by decide +kernel
theorem dX9_takesTest_84 : decode cX9_takesTest 84 = .ok (.iload_n 3, 1) := by decide +kernel
theorem dX9_takesTest_85 : decode cX9_takesTest 85 = .ok (.bipush 60, 2) := by decide +kernel
theorem dX9_takesTest_87 : decode cX9_takesTest 87 = .ok (.if_icmp .eq 11, 3) := by decide +kernel
theorem dX9_takesTest_90 : decode cX9_takesTest 90 = .ok (.iload_n 3, 1) := by decide +kernel
theorem dX9_takesTest_91 : decode cX9_takesTest 91 = .ok (.bipush 62, 2) := by decide +kernel
theorem dX9_takesTest_93 : decode cX9_takesTest 93 = .ok (.if_icmp .eq 5, 3) := by decide +kernel
theorem dX9_takesTest_96 : decode cX9_takesTest 96 = .ok (.iconst 0, 1) := by decide +kernel
theorem dX9_takesTest_97 : decode cX9_takesTest 97 = .ok (.ireturn, 1) := by decide +kernel
theorem dX9_takesTest_98 : decode cX9_takesTest 98 = .ok (.aload_n 0, 1) := by decide +kernel
theorem dX9_takesTest_99 : decode cX9_takesTest 99 = .ok (.dup, 1) := by decide +kernel
theorem dX9_takesTest_100 : decode cX9_takesTest 100 = .ok (.getfield 44, 3) := by decide +kernel
theorem dX9_takesTest_103 : decode cX9_takesTest 103 = .ok (.iconst 1, 1) := by decide +kernel
theorem dX9_takesTest_104 : decode cX9_takesTest 104 = .ok (.iadd, 1) := by decide +kernel
theorem dX9_takesTest_105 : decode cX9_takesTest 105 = .ok (.putfield 44, 3) := by decide +kernel
theorem dX9_takesTest_108 : decode cX9_takesTest 108 = .ok (.aload_n 0, 1) := by decide +kernel
theorem dX9_takesTest_109 : decode cX9_takesTest 109 = .ok (.invokevirtual 145, 3) := by decide +kernel
theorem dX9_takesTest_112 : decode cX9_takesTest 112 = .ok (.bipush 48, 2) := by decide +kernel
theorem dX9_takesTest_114 : decode cX9_takesTest 114 = .ok (.isub, 1) := by decide +kernel
theorem dX9_takesTest_115 : decode cX9_takesTest 115 = .ok (.istore 4, 2) := by decide +kernel
theorem dX9_takesTest_117 : decode cX9_takesTest 117 = .ok (.aload_n 0, 1) := by decide +kernel
theorem dX9_takesTest_118 : decode cX9_takesTest 118 = .ok (.iload 4, 2) := by decide +kernel
theorem dX9_takesTest_120 : decode cX9_takesTest 120 = .ok (.iconst 0, 1) := by decide +kernel
theorem dX9_takesTest_121 : decode cX9_takesTest 121 = .ok (.bipush 9, 2) := by decide +kernel
theorem dX9_takesTest_123 : decode cX9_takesTest 123 = .ok (.invokevirtual 133, 3) := by decide +kernel
theorem dX9_takesTest_126 : decode cX9_takesTest 126 = .ok (.ifCond .ne 5, 3) := by decide +kernel
theorem dX9_takesTest_129 : decode cX9_takesTest 129 = .ok (.iconst 0, 1) := by decide +kernel
theorem dX9_takesTest_130 : decode cX9_takesTest 130 = .ok (.ireturn, 1) := by decide +kernel
theorem dX9_takesTest_131 : decode cX9_takesTest 131 = .ok (.aload_n 0, 1) := by decide +kernel
theorem dX9_takesTest_132 : decode cX9_takesTest 132 = .ok (.dup, 1) := by decide +kernel
theorem dX9_takesTest_133 : decode cX9_takesTest 133 = .ok (.getfield 44, 3) := by decide +kernel
theorem dX9_takesTest_136 : decode cX9_takesTest 136 = .ok (.iconst 1, 1) := by decide +kernel
theorem dX9_takesTest_137 : decode cX9_takesTest 137 = .ok (.iadd, 1) := by decide +kernel
theorem dX9_takesTest_138 : decode cX9_takesTest 138 = .ok (.putfield 44, 3) := by decide +kernel
theorem dX9_takesTest_141 : decode cX9_takesTest 141 = .ok (.aload_n 0, 1) := by decide +kernel
theorem dX9_takesTest_142 : decode cX9_takesTest 142 = .ok (.sipush 1000, 3) := by decide +kernel
theorem dX9_takesTest_145 : decode cX9_takesTest 145 = .ok (.iload_n 1, 1) := by decide +kernel
theorem dX9_takesTest_146 : decode cX9_takesTest 146 = .ok (.imul, 1) := by decide +kernel
theorem dX9_takesTest_147 : decode cX9_takesTest 147 = .ok (.bipush 10, 2) := by decide +kernel
theorem dX9_takesTest_149 : decode cX9_takesTest 149 = .ok (.iload_n 3, 1) := by decide +kernel
theorem dX9_takesTest_150 : decode cX9_takesTest 150 = .ok (.imul, 1) := by decide +kernel
theorem dX9_takesTest_151 : decode cX9_takesTest 151 = .ok (.iadd, 1) := by decide +kernel
theorem dX9_takesTest_152 : decode cX9_takesTest 152 = .ok (.iload 4, 2) := by decide +kernel
theorem dX9_takesTest_154 : decode cX9_takesTest 154 = .ok (.iadd, 1) := by decide +kernel
theorem dX9_takesTest_155 : decode cX9_takesTest 155 = .ok (.invokevirtual 152, 3) := by decide +kernel
theorem dX9_takesTest_158 : decode cX9_takesTest 158 = .ok (.aload_n 0, 1) := by decide +kernel
theorem dX9_takesTest_159 : decode cX9_takesTest 159 = .ok (.invokevirtual 156, 3) := by decide +kernel
theorem dX9_takesTest_162 : decode cX9_takesTest 162 = .ok (.iconst 1, 1) := by decide +kernel
theorem dX9_takesTest_163 : decode cX9_takesTest 163 = .ok (.ireturn, 1) := by decide +kernel
set_option maxRecDepth 20000 in
theorem ggX9_takesE_X9_next : GoodIn wsX9_takesE wsX9_next := goodIn_r _ [9, 4, 10, 11, 34, 35, 36, 37, 38, 39, 40, 41, 42, 43, 44, 45, 46, 47, 48, 49, 50, 51, 52, 53, 54, 55, 56, 57, 58, 59, 60, 61, 62, 63, 64, 65, 66, 67, 68, 69, 70, 71, 72, 73] (by decide +kernel) (by decide +kernel)
set_option maxRecDepth 20000 in
theorem gX9_takesE_X9_next : GoodIn wsX9_takesE (wsV RX9 145 RX9 yX9_next wsX9_next) := goodIn_app (goodIn_of _ (by decide +kernel)) ggX9_takesE_X9_next
set_option maxRecDepth 20000 in
theorem ggX9_takesE_X9_takesTest : GoodIn wsX9_takesE wsX9_takesTest := goodIn_r _ [15, 4, 5, 6, 7, 8, 9, 10, 11, 16, 17, 18, 19, 20, 21, 22, 23, 24, 25, 26, 27, 28, 29, 1, 3, 2, 34, 35, 36, 37, 38, 39, 40, 41, 42, 43, 44, 45, 46, 47, 48, 49, 50, 51, 52, 53, 54, 55, 56, 57, 58, 59, 60, 61, 62, 63, 64, 65, 66, 67, 68, 69, 70, 71, 72, 73] (by decide +kernel) (by decide +kernel)
set_option maxRecDepth 20000 in
theorem gX9_takesE_X9_takesTest : GoodIn wsX9_takesE (wsV RX9 159 RX9 yX9_takesTest wsX9_takesTest) := goodIn_app (goodIn_of _ (by decide +kernel)) ggX9_takesE_X9_takesTest
set_option maxRecDepth 20000 in
theorem ggX9_takesE_X9_settle : GoodIn wsX9_takesE wsX9_settle := goodIn_r _ [33, 1, 3, 20, 21, 22, 8, 23, 24, 25, 34, 35, 36, 37, 38, 39, 40, 41, 42, 43, 44, 45, 46, 47, 48, 49, 50, 51, 52, 53, 54, 55, 56, 57, 58, 59, 60, 61, 62, 63, 64, 65, 66, 67, 68, 69, 70, 71, 72, 73] (by decide +kernel) (by decide +kernel)
set_option maxRecDepth 20000 in
theorem gX9_takesE_X9_settle : GoodIn wsX9_takesE (wsV RX9 163 RX9 yX9_settle wsX9_settle) := goodIn_app (goodIn_of _ (by decide +kernel)) ggX9_takesE_X9_settle
set_option maxRecDepth 20000 in
theorem ggX9_takesE_X9_whole : GoodIn wsX9_takesE wsX9_whole := goodIn_r _ [29, 1, 3, 2, 20, 21, 22, 8, 23, 24, 25, 34, 35, 36, 37, 38, 39, 40, 41, 42, 43, 44, 45, 46, 47, 48, 49, 50, 51, 52, 53, 54, 55, 56, 57, 58, 59, 60, 61, 62, 63, 64, 65, 66, 67, 68, 69, 70, 71, 72, 73] (by decide +kernel) (by decide +kernel)
set_option maxRecDepth 20000 in
theorem gX9_takesE_X9_whole : GoodIn wsX9_takesE (wsV RX9 156 RX9 yX9_whole wsX9_whole) := goodIn_app (goodIn_of _ (by decide +kernel)) ggX9_takesE_X9_whole
theorem dX9_takesE_0 : decode cX9_takesE 0 = .ok (.aload_n 0, 1) := by decide +kernel
theorem dX9_takesE_1 : decode cX9_takesE 1 = .ok (.iconst 0, 1) := by decide +kernel
theorem dX9_takesE_2 : decode cX9_takesE 2 = .ok (.putfield 77, 3) := by decide +kernel
theorem dX9_takesE_5 : decode cX9_takesE 5 = .ok (.aload_n 0, 1) := by decide +kernel
theorem dX9_takesE_6 : decode cX9_takesE 6 = .ok (.iconst 0, 1) := by decide +kernel
theorem dX9_takesE_7 : decode cX9_takesE 7 = .ok (.putfield 80, 3) := by decide +kernel
theorem dX9_takesE_10 : decode cX9_takesE 10 = .ok (.iconst 1, 1) := by decide +kernel
theorem dX9_takesE_11 : decode cX9_takesE 11 = .ok (.istore_n 1, 1) := by decide +kernel
theorem dX9_takesE_12 : decode cX9_takesE 12 = .ok (.aload_n 0, 1) := by decide +kernel
theorem dX9_takesE_13 : decode cX9_takesE 13 = .ok (.invokevirtual 145, 3) := by decide +kernel
theorem dX9_takesE_16 : decode cX9_takesE 16 = .ok (.istore_n 2, 1) := by decide +kernel
theorem dX9_takesE_17 : decode cX9_takesE 17 = .ok (.iload_n 1, 1) := by decide +kernel
theorem dX9_takesE_18 : decode cX9_takesE 18 = .ok (.ifCond .eq 82, 3) := by decide +kernel
theorem dX9_takesE_21 : decode cX9_takesE 21 = .ok (.iload_n 2, 1) := by decide +kernel
theorem dX9_takesE_22 : decode cX9_takesE 22 = .ok (.bipush 33, 2) := by decide +kernel
theorem dX9_takesE_24 : decode cX9_takesE 24 = .ok (.if_icmp .eq 9, 3) := by decide +kernel
theorem dX9_takesE_27 : decode cX9_takesE 27 = .ok (.iload_n 2, 1) := by decide +kernel
theorem dX9_takesE_28 : decode cX9_takesE 28 = .ok (.bipush 40, 2) := by decide +kernel
theorem dX9_takesE_30 : decode cX9_takesE 30 = .ok (.if_icmp .ne 56, 3) := by decide +kernel
theorem dX9_takesE_33 : decode cX9_takesE 33 = .ok (.aload_n 0, 1) := by decide +kernel
theorem dX9_takesE_34 : decode cX9_takesE 34 = .ok (.getfield 80, 3) := by decide +kernel
theorem dX9_takesE_37 : decode cX9_takesE 37 = .ok (.iconst 4, 1) := by decide +kernel
theorem dX9_takesE_38 : decode cX9_takesE 38 = .ok (.if_icmp .ne 5, 3) := by decide +kernel
theorem dX9_takesE_41 : decode cX9_takesE 41 = .ok (.iconst 0, 1) := by decide +kernel
