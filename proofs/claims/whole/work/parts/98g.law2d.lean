-- the law, case by case
section LWC
variable {p : Program} {l : Launch} {e : Env} {s : State} {m : MethodId} {below : List Frame} {meth : Method} {c : Code} {H : Heap} {locs : List Loc} {cells slots : Nat} {Q : State → Prop} {ls : Array Slot}
variable {D : va_G} {cs : Nat → ClassId} {t0 : TS} {A : Nat → Prop} {P : PS} {ty : Option FieldType} {adm : Nat → Nat} {S : MS} {da : DD} {Aa : AA} {b L i : Nat} {xs : Nat → Int32}
set_option maxHeartbeats 4000000 in
set_option maxRecDepth 100000 in
theorem lk_24 (cx : mCx p s m #[Value.ref b] meth c RL code (Cond.classLink RL 7 RX8 :: wsL_law) 4 ty) (hX : va_X b L xs s s.heap) (hbl : b < s.heap.size) (hbA : ¬ A b) (hi : 6 * i + 6 ≤ L) (hL : L ≤ 384) (hf1 : cells + 1513 ≤ 600000) (hf2 : slots + 96832 ≤ 7302250) (hl : lv_has ls 4 [(0, .ref b), (1, .ref (da 0)), (2, .ref (adm 100)), (3, .int (nI (6 * i)))]) (w : cWd D cs t0 A s P H locs) (hm : mX D cs adm A S P H) (hc : CC t0 da Aa P) (hM : MM Aa S) (hW : WF Aa) (next : LNx p l e s m b below meth c cells slots Q ls D cs t0 A adm da) : W p l e room_1 s m #[Value.ref b] below meth c H locs cells slots Q (F0 m 1038 ls []) := by
  obtain ⟨hx, hb, hr, hts, hown, hlocks, hml⟩ := id cx
  obtain ⟨P1, e1, h1⟩ := cu_act hW hc (xs (6 * i + 1)) (xs (6 * i + 2)) (xs (6 * i + 3))
  have hda : da 0 = da 0 := rfl
  refine lv_aload_n hx hb dL_law_1038 rfl (lv_at hl 1 rfl) ?_
  refine lw_arg (j := 1) cx hX hbl hbA w.2.2.2.2.1 (by omega) hL hl rfl dL_law_1039 dL_law_1040 dL_law_1041 dL_law_1042 dL_law_1043 ?_
  refine lw_arg (j := 2) cx hX hbl hbA w.2.2.2.2.1 (by omega) hL hl rfl dL_law_1044 dL_law_1045 dL_law_1046 dL_law_1047 dL_law_1048 ?_
  refine lw_arg (j := 3) cx hX hbl hbA w.2.2.2.2.1 (by omega) hL hl rfl dL_law_1049 dL_law_1050 dL_law_1051 dL_law_1052 dL_law_1053 ?_
  refine lc_i (cr_V (As := [.int (xs (6 * i + 1)), .int (xs (6 * i + 2)), .int (xs (6 * i + 3))]) (rest := []) cx (hcc_X8_act l D cs t0 P P1 (da 0) (xs (6 * i + 1)) (xs (6 * i + 2)) (xs (6 * i + 3)) _ e1) kT9 hc.k0 (cwV 3 hts (uG uw_X8_act ul_RL_115 ui_X8_act us_RX8_X8_act un_RX8) rfl rfl rfl ud_X8_act ⟨Nat.le_of_ble_eq_true rfl, Nat.le_of_ble_eq_true rfl⟩) w rfl hl.1 rfl (Nat.le_of_ble_eq_true rfl) dL_law_1054 ⟨by show cells + 0 ≤ 600000; omega, by show slots + 0 ≤ 7302250; omega⟩) hm (fun H1 locs1 w hm => ?_)
  refine lv_aload_n hx hb dL_law_1057 rfl (lv_at hl 2 rfl) ?_
  refine lw_arg (j := 1) cx hX hbl hbA w.2.2.2.2.1 (by omega) hL hl rfl dL_law_1058 dL_law_1059 dL_law_1060 dL_law_1061 dL_law_1062 ?_
  refine lw_arg (j := 2) cx hX hbl hbA w.2.2.2.2.1 (by omega) hL hl rfl dL_law_1063 dL_law_1064 dL_law_1065 dL_law_1066 dL_law_1067 ?_
  refine lw_arg (j := 3) cx hX hbl hbA w.2.2.2.2.1 (by omega) hL hl rfl dL_law_1068 dL_law_1069 dL_law_1070 dL_law_1071 dL_law_1072 ?_
  obtain ⟨S1, e2, g2, hW2⟩ := mu_act hW hM (xs (6 * i + 1)) (xs (6 * i + 2)) (xs (6 * i + 3))
  refine lm_i (As := [.int (xs (6 * i + 1)), .int (xs (6 * i + 2)), .int (xs (6 * i + 3))]) (rest := [.int (sAct Aa (xs (6 * i + 1)) (xs (6 * i + 2)) (xs (6 * i + 3))).1]) cx (cc_act l D cs adm S S1 (xs (6 * i + 1)) (xs (6 * i + 2)) (xs (6 * i + 3)) _ e2) (cwV 3 hts (uG uw_X9_act ul_RL_118 ui_X9_act us_RX9_X9_act un_RX9) rfl rfl rfl ud_X9_act ⟨Nat.le_of_ble_eq_true rfl, Nat.le_of_ble_eq_true rfl⟩) w hm rfl hl.1 rfl (Nat.le_of_ble_eq_true rfl) dL_law_1073 ⟨by show cells + 0 + 0 ≤ 600000; omega, by show slots + 0 + 0 ≤ 7302250; omega⟩ (fun H2 locs2 w hm hz2 => ?_)
  refine lv_icmp_eq (tgt := 1373) hx hb dL_law_1076 (by decide) (fun q => ?_) (fun q => ?_)
  · exact W.widen (k := cells + 1513) (n := slots + 96832) (by omega) (by omega) (next ((sAct Aa (xs (6 * i + 1)) (xs (6 * i + 2)) (xs (6 * i + 3))).2) _ _ _ _ _ hda w hm (h1.setZ hz2) g2 hW2)
  · exact absurd rfl q
set_option maxHeartbeats 4000000 in
set_option maxRecDepth 100000 in
theorem lk_25 (cx : mCx p s m #[Value.ref b] meth c RL code (Cond.classLink RL 7 RX8 :: wsL_law) 4 ty) (hX : va_X b L xs s s.heap) (hbl : b < s.heap.size) (hbA : ¬ A b) (hi : 6 * i + 6 ≤ L) (hL : L ≤ 384) (hf1 : cells + 1513 ≤ 600000) (hf2 : slots + 96832 ≤ 7302250) (hl : lv_has ls 4 [(0, .ref b), (1, .ref (da 0)), (2, .ref (adm 100)), (3, .int (nI (6 * i)))]) (w : cWd D cs t0 A s P H locs) (hm : mX D cs adm A S P H) (hc : CC t0 da Aa P) (hM : MM Aa S) (hW : WF Aa) (next : LNx p l e s m b below meth c cells slots Q ls D cs t0 A adm da) : W p l e room_1 s m #[Value.ref b] below meth c H locs cells slots Q (F0 m 1081 ls []) := by
  obtain ⟨hx, hb, hr, hts, hown, hlocks, hml⟩ := id cx
  have e1 := cq_trace hW hc (xs (6 * i + 1))
  have h1 := hc
  have hda : da 0 = da 0 := rfl
  refine lv_aload_n hx hb dL_law_1081 rfl (lv_at hl 1 rfl) ?_
  refine lw_arg (j := 1) cx hX hbl hbA w.2.2.2.2.1 (by omega) hL hl rfl dL_law_1082 dL_law_1083 dL_law_1084 dL_law_1085 dL_law_1086 ?_
  refine lc_i (cr_V (As := [.int (xs (6 * i + 1))]) (rest := []) cx (hcc_X8_trace l D cs t0 P P (da 0) (xs (6 * i + 1)) _ e1) kT9 hc.k0 (cwV 1 hts (uG uw_X8_trace ul_RL_119 ui_X8_trace us_RX8_X8_trace un_RX8) rfl rfl rfl ud_X8_trace ⟨Nat.le_of_ble_eq_true rfl, Nat.le_of_ble_eq_true rfl⟩) w rfl hl.1 rfl (Nat.le_of_ble_eq_true rfl) dL_law_1087 ⟨by show cells + 0 ≤ 600000; omega, by show slots + 0 ≤ 7302250; omega⟩) hm (fun H1 locs1 w hm => ?_)
  refine lv_aload_n hx hb dL_law_1090 rfl (lv_at hl 2 rfl) ?_
  refine lw_arg (j := 1) cx hX hbl hbA w.2.2.2.2.1 (by omega) hL hl rfl dL_law_1091 dL_law_1092 dL_law_1093 dL_law_1094 dL_law_1095 ?_
  have e2 := mq_trace hW hM (xs (6 * i + 1))
  have g2 := hM
  have hW2 := hW
  refine lm_i (As := [.int (xs (6 * i + 1))]) (rest := [.int (sTrace Aa (xs (6 * i + 1)))]) cx (cc_trace l D cs adm S S (xs (6 * i + 1)) _ e2) (cwV 1 hts (uG uw_X9_trace ul_RL_122 ui_X9_trace us_RX9_X9_trace un_RX9) rfl rfl rfl ud_X9_trace ⟨Nat.le_of_ble_eq_true rfl, Nat.le_of_ble_eq_true rfl⟩) w hm rfl hl.1 rfl (Nat.le_of_ble_eq_true rfl) dL_law_1096 ⟨by show cells + 0 + 0 ≤ 600000; omega, by show slots + 0 + 0 ≤ 7302250; omega⟩ (fun H2 locs2 w hm hz2 => ?_)
  refine lv_icmp_eq (tgt := 1373) hx hb dL_law_1099 (by decide) (fun q => ?_) (fun q => ?_)
  · exact W.widen (k := cells + 1513) (n := slots + 96832) (by omega) (by omega) (next (Aa) _ _ _ _ _ hda w hm (h1.setZ hz2) g2 hW2)
  · exact absurd rfl q
set_option maxHeartbeats 4000000 in
set_option maxRecDepth 100000 in
theorem lk_26 (cx : mCx p s m #[Value.ref b] meth c RL code (Cond.classLink RL 7 RX8 :: wsL_law) 4 ty) (hX : va_X b L xs s s.heap) (hbl : b < s.heap.size) (hbA : ¬ A b) (hi : 6 * i + 6 ≤ L) (hL : L ≤ 384) (hf1 : cells + 1513 ≤ 600000) (hf2 : slots + 96832 ≤ 7302250) (hl : lv_has ls 4 [(0, .ref b), (1, .ref (da 0)), (2, .ref (adm 100)), (3, .int (nI (6 * i)))]) (w : cWd D cs t0 A s P H locs) (hm : mX D cs adm A S P H) (hc : CC t0 da Aa P) (hM : MM Aa S) (hW : WF Aa) (next : LNx p l e s m b below meth c cells slots Q ls D cs t0 A adm da) : W p l e room_1 s m #[Value.ref b] below meth c H locs cells slots Q (F0 m 1104 ls []) := by
  obtain ⟨hx, hb, hr, hts, hown, hlocks, hml⟩ := id cx
  have e1 := cq_taken hW hc (xs (6 * i + 1)) (xs (6 * i + 2))
  have h1 := hc
  have hda : da 0 = da 0 := rfl
  refine lv_aload_n hx hb dL_law_1104 rfl (lv_at hl 1 rfl) ?_
  refine lw_arg (j := 1) cx hX hbl hbA w.2.2.2.2.1 (by omega) hL hl rfl dL_law_1105 dL_law_1106 dL_law_1107 dL_law_1108 dL_law_1109 ?_
  refine lw_arg (j := 2) cx hX hbl hbA w.2.2.2.2.1 (by omega) hL hl rfl dL_law_1110 dL_law_1111 dL_law_1112 dL_law_1113 dL_law_1114 ?_
  refine lc_i (cr_V (As := [.int (xs (6 * i + 1)), .int (xs (6 * i + 2))]) (rest := []) cx (hcc_X8_taken l D cs t0 P P (da 0) (xs (6 * i + 1)) (xs (6 * i + 2)) _ e1) kT9 hc.k0 (cwV 2 hts (uG uw_X8_taken ul_RL_123 ui_X8_taken us_RX8_X8_taken un_RX8) rfl rfl rfl ud_X8_taken ⟨Nat.le_of_ble_eq_true rfl, Nat.le_of_ble_eq_true rfl⟩) w rfl hl.1 rfl (Nat.le_of_ble_eq_true rfl) dL_law_1115 ⟨by show cells + 0 ≤ 600000; omega, by show slots + 0 ≤ 7302250; omega⟩) hm (fun H1 locs1 w hm => ?_)
  refine lv_aload_n hx hb dL_law_1118 rfl (lv_at hl 2 rfl) ?_
  refine lw_arg (j := 1) cx hX hbl hbA w.2.2.2.2.1 (by omega) hL hl rfl dL_law_1119 dL_law_1120 dL_law_1121 dL_law_1122 dL_law_1123 ?_
  refine lw_arg (j := 2) cx hX hbl hbA w.2.2.2.2.1 (by omega) hL hl rfl dL_law_1124 dL_law_1125 dL_law_1126 dL_law_1127 dL_law_1128 ?_
  have e2 := mq_taken hW hM (xs (6 * i + 1)) (xs (6 * i + 2))
  have g2 := hM
  have hW2 := hW
  refine lm_i (As := [.int (xs (6 * i + 1)), .int (xs (6 * i + 2))]) (rest := [.int (sTaken Aa (xs (6 * i + 1)) (xs (6 * i + 2)))]) cx (cc_taken l D cs adm S S (xs (6 * i + 1)) (xs (6 * i + 2)) _ e2) (cwV 2 hts (uG uw_X9_taken ul_RL_126 ui_X9_taken us_RX9_X9_taken un_RX9) rfl rfl rfl ud_X9_taken ⟨Nat.le_of_ble_eq_true rfl, Nat.le_of_ble_eq_true rfl⟩) w hm rfl hl.1 rfl (Nat.le_of_ble_eq_true rfl) dL_law_1129 ⟨by show cells + 0 + 0 ≤ 600000; omega, by show slots + 0 + 0 ≤ 7302250; omega⟩ (fun H2 locs2 w hm hz2 => ?_)
  refine lv_icmp_eq (tgt := 1373) hx hb dL_law_1132 (by decide) (fun q => ?_) (fun q => ?_)
  · exact W.widen (k := cells + 1513) (n := slots + 96832) (by omega) (by omega) (next (Aa) _ _ _ _ _ hda w hm (h1.setZ hz2) g2 hW2)
  · exact absurd rfl q
set_option maxHeartbeats 4000000 in
set_option maxRecDepth 100000 in
theorem lk_27 (cx : mCx p s m #[Value.ref b] meth c RL code (Cond.classLink RL 7 RX8 :: wsL_law) 4 ty) (hX : va_X b L xs s s.heap) (hbl : b < s.heap.size) (hbA : ¬ A b) (hi : 6 * i + 6 ≤ L) (hL : L ≤ 384) (hf1 : cells + 1513 ≤ 600000) (hf2 : slots + 96832 ≤ 7302250) (hl : lv_has ls 4 [(0, .ref b), (1, .ref (da 0)), (2, .ref (adm 100)), (3, .int (nI (6 * i)))]) (w : cWd D cs t0 A s P H locs) (hm : mX D cs adm A S P H) (hc : CC t0 da Aa P) (hM : MM Aa S) (hW : WF Aa) (next : LNx p l e s m b below meth c cells slots Q ls D cs t0 A adm da) : W p l e room_1 s m #[Value.ref b] below meth c H locs cells slots Q (F0 m 1137 ls []) := by
  obtain ⟨hx, hb, hr, hts, hown, hlocks, hml⟩ := id cx
  have e1 := cq_count hW hc (xs (6 * i + 1))
  have h1 := hc
  have hda : da 0 = da 0 := rfl
  refine lv_aload_n hx hb dL_law_1137 rfl (lv_at hl 1 rfl) ?_
  refine lw_arg (j := 1) cx hX hbl hbA w.2.2.2.2.1 (by omega) hL hl rfl dL_law_1138 dL_law_1139 dL_law_1140 dL_law_1141 dL_law_1142 ?_
  refine lc_i (cr_V (As := [.int (xs (6 * i + 1))]) (rest := []) cx (hcc_X8_count l D cs t0 P P (da 0) (xs (6 * i + 1)) _ e1) kT9 hc.k0 (cwV 1 hts (uG uw_X8_count ul_RL_127 ui_X8_count us_RX8_X8_count un_RX8) rfl rfl rfl ud_X8_count ⟨Nat.le_of_ble_eq_true rfl, Nat.le_of_ble_eq_true rfl⟩) w rfl hl.1 rfl (Nat.le_of_ble_eq_true rfl) dL_law_1143 ⟨by show cells + 0 ≤ 600000; omega, by show slots + 0 ≤ 7302250; omega⟩) hm (fun H1 locs1 w hm => ?_)
  refine lv_aload_n hx hb dL_law_1146 rfl (lv_at hl 2 rfl) ?_
  refine lw_arg (j := 1) cx hX hbl hbA w.2.2.2.2.1 (by omega) hL hl rfl dL_law_1147 dL_law_1148 dL_law_1149 dL_law_1150 dL_law_1151 ?_
  have e2 := mq_count hW hM (xs (6 * i + 1))
  have g2 := hM
  have hW2 := hW
  refine lm_i (As := [.int (xs (6 * i + 1))]) (rest := [.int (sCount Aa (xs (6 * i + 1)))]) cx (cc_count l D cs adm S S (xs (6 * i + 1)) _ e2) (cwV 1 hts (uG uw_X9_count ul_RL_130 ui_X9_count us_RX9_X9_count un_RX9) rfl rfl rfl ud_X9_count ⟨Nat.le_of_ble_eq_true rfl, Nat.le_of_ble_eq_true rfl⟩) w hm rfl hl.1 rfl (Nat.le_of_ble_eq_true rfl) dL_law_1152 ⟨by show cells + 0 + 0 ≤ 600000; omega, by show slots + 0 + 0 ≤ 7302250; omega⟩ (fun H2 locs2 w hm hz2 => ?_)
  refine lv_icmp_eq (tgt := 1373) hx hb dL_law_1155 (by decide) (fun q => ?_) (fun q => ?_)
  · exact W.widen (k := cells + 1513) (n := slots + 96832) (by omega) (by omega) (next (Aa) _ _ _ _ _ hda w hm (h1.setZ hz2) g2 hW2)
  · exact absurd rfl q
set_option maxHeartbeats 4000000 in
set_option maxRecDepth 100000 in
theorem lk_28 (cx : mCx p s m #[Value.ref b] meth c RL code (Cond.classLink RL 7 RX8 :: wsL_law) 4 ty) (hX : va_X b L xs s s.heap) (hbl : b < s.heap.size) (hbA : ¬ A b) (hi : 6 * i + 6 ≤ L) (hL : L ≤ 384) (hf1 : cells + 1513 ≤ 600000) (hf2 : slots + 96832 ≤ 7302250) (hl : lv_has ls 4 [(0, .ref b), (1, .ref (da 0)), (2, .ref (adm 100)), (3, .int (nI (6 * i)))]) (w : cWd D cs t0 A s P H locs) (hm : mX D cs adm A S P H) (hc : CC t0 da Aa P) (hM : MM Aa S) (hW : WF Aa) (next : LNx p l e s m b below meth c cells slots Q ls D cs t0 A adm da) : W p l e room_1 s m #[Value.ref b] below meth c H locs cells slots Q (F0 m 1160 ls []) := by
  obtain ⟨hx, hb, hr, hts, hown, hlocks, hml⟩ := id cx
  obtain ⟨P1, e1, h1⟩ := cu_tape hW hc (xs (6 * i + 1)) (xs (6 * i + 2)) (xs (6 * i + 3))
  have hda : da 0 = da 0 := rfl
  refine lv_aload_n hx hb dL_law_1160 rfl (lv_at hl 1 rfl) ?_
  refine lw_arg (j := 1) cx hX hbl hbA w.2.2.2.2.1 (by omega) hL hl rfl dL_law_1161 dL_law_1162 dL_law_1163 dL_law_1164 dL_law_1165 ?_
  refine lw_arg (j := 2) cx hX hbl hbA w.2.2.2.2.1 (by omega) hL hl rfl dL_law_1166 dL_law_1167 dL_law_1168 dL_law_1169 dL_law_1170 ?_
  refine lw_arg (j := 3) cx hX hbl hbA w.2.2.2.2.1 (by omega) hL hl rfl dL_law_1171 dL_law_1172 dL_law_1173 dL_law_1174 dL_law_1175 ?_
  refine lc_i (cr_V (As := [.int (xs (6 * i + 1)), .int (xs (6 * i + 2)), .int (xs (6 * i + 3))]) (rest := []) cx (hcc_X8_tape l D cs t0 P P1 (da 0) (xs (6 * i + 1)) (xs (6 * i + 2)) (xs (6 * i + 3)) _ e1) kT9 hc.k0 (cwV 3 hts (uG uw_X8_tape ul_RL_131 ui_X8_tape us_RX8_X8_tape un_RX8) rfl rfl rfl ud_X8_tape ⟨Nat.le_of_ble_eq_true rfl, Nat.le_of_ble_eq_true rfl⟩) w rfl hl.1 rfl (Nat.le_of_ble_eq_true rfl) dL_law_1176 ⟨by show cells + 0 ≤ 600000; omega, by show slots + 0 ≤ 7302250; omega⟩) hm (fun H1 locs1 w hm => ?_)
  refine lv_aload_n hx hb dL_law_1179 rfl (lv_at hl 2 rfl) ?_
  refine lw_arg (j := 1) cx hX hbl hbA w.2.2.2.2.1 (by omega) hL hl rfl dL_law_1180 dL_law_1181 dL_law_1182 dL_law_1183 dL_law_1184 ?_
  refine lw_arg (j := 2) cx hX hbl hbA w.2.2.2.2.1 (by omega) hL hl rfl dL_law_1185 dL_law_1186 dL_law_1187 dL_law_1188 dL_law_1189 ?_
  refine lw_arg (j := 3) cx hX hbl hbA w.2.2.2.2.1 (by omega) hL hl rfl dL_law_1190 dL_law_1191 dL_law_1192 dL_law_1193 dL_law_1194 ?_
  obtain ⟨S1, e2, g2, hW2⟩ := mu_tape hW hM (xs (6 * i + 1)) (xs (6 * i + 2)) (xs (6 * i + 3))
  refine lm_i (As := [.int (xs (6 * i + 1)), .int (xs (6 * i + 2)), .int (xs (6 * i + 3))]) (rest := [.int (sTape Aa (xs (6 * i + 1)) (xs (6 * i + 2)) (xs (6 * i + 3))).1]) cx (cc_tape l D cs adm S S1 (xs (6 * i + 1)) (xs (6 * i + 2)) (xs (6 * i + 3)) _ e2) (cwV 3 hts (uG uw_X9_tape ul_RL_134 ui_X9_tape us_RX9_X9_tape un_RX9) rfl rfl rfl ud_X9_tape ⟨Nat.le_of_ble_eq_true rfl, Nat.le_of_ble_eq_true rfl⟩) w hm rfl hl.1 rfl (Nat.le_of_ble_eq_true rfl) dL_law_1195 ⟨by show cells + 0 + 0 ≤ 600000; omega, by show slots + 0 + 0 ≤ 7302250; omega⟩ (fun H2 locs2 w hm hz2 => ?_)
  refine lv_icmp_eq (tgt := 1373) hx hb dL_law_1198 (by decide) (fun q => ?_) (fun q => ?_)
  · exact W.widen (k := cells + 1513) (n := slots + 96832) (by omega) (by omega) (next ((sTape Aa (xs (6 * i + 1)) (xs (6 * i + 2)) (xs (6 * i + 3))).2) _ _ _ _ _ hda w hm (h1.setZ hz2) g2 hW2)
  · exact absurd rfl q
set_option maxHeartbeats 4000000 in
set_option maxRecDepth 100000 in
theorem lk_29 (cx : mCx p s m #[Value.ref b] meth c RL code (Cond.classLink RL 7 RX8 :: wsL_law) 4 ty) (hX : va_X b L xs s s.heap) (hbl : b < s.heap.size) (hbA : ¬ A b) (hi : 6 * i + 6 ≤ L) (hL : L ≤ 384) (hf1 : cells + 1513 ≤ 600000) (hf2 : slots + 96832 ≤ 7302250) (hl : lv_has ls 4 [(0, .ref b), (1, .ref (da 0)), (2, .ref (adm 100)), (3, .int (nI (6 * i)))]) (w : cWd D cs t0 A s P H locs) (hm : mX D cs adm A S P H) (hc : CC t0 da Aa P) (hM : MM Aa S) (hW : WF Aa) (next : LNx p l e s m b below meth c cells slots Q ls D cs t0 A adm da) : W p l e room_1 s m #[Value.ref b] below meth c H locs cells slots Q (F0 m 1203 ls []) := by
  obtain ⟨hx, hb, hr, hts, hown, hlocks, hml⟩ := id cx
  obtain ⟨P1, e1, h1⟩ := cu_item hW hc (xs (6 * i + 1)) (xs (6 * i + 2)) ((((xs (6 * i + 3)).toInt64 <<< ((32 : Int32).toInt64 &&& 63)) ||| ((xs (6 * i + 4)).toInt64 &&& (4294967295 : Int64))))
  have hda : da 0 = da 0 := rfl
  refine lv_aload_n hx hb dL_law_1203 rfl (lv_at hl 1 rfl) ?_
  refine lw_arg (j := 1) cx hX hbl hbA w.2.2.2.2.1 (by omega) hL hl rfl dL_law_1204 dL_law_1205 dL_law_1206 dL_law_1207 dL_law_1208 ?_
  refine lw_arg (j := 2) cx hX hbl hbA w.2.2.2.2.1 (by omega) hL hl rfl dL_law_1209 dL_law_1210 dL_law_1211 dL_law_1212 dL_law_1213 ?_
  refine lw_arg (j := 3) cx hX hbl hbA w.2.2.2.2.1 (by omega) hL hl rfl dL_law_1214 dL_law_1215 dL_law_1216 dL_law_1217 dL_law_1218 ?_
  refine lv_i2l hx hb dL_law_1219 rfl ?_
  refine lv_bipush (v := (32 : Int32)) hx hb dL_law_1220 (by decide) ?_
  refine lv_lshl hx hb dL_law_1222 rfl ?_
  refine lw_arg (j := 4) cx hX hbl hbA w.2.2.2.2.1 (by omega) hL hl rfl dL_law_1223 dL_law_1224 dL_law_1225 dL_law_1226 dL_law_1227 ?_
  refine lv_i2l hx hb dL_law_1228 rfl ?_
  refine lv_ldc2 (v := (4294967295 : Int64)) hx hb hown (hts _ (List.mem_cons_of_mem _ uc_RL_135)) dL_law_1229 ?_
  refine lv_land hx hb dL_law_1232 ?_
  refine lv_lor hx hb dL_law_1233 ?_
  refine lc_i (cr_V (As := [.int (xs (6 * i + 1)), .int (xs (6 * i + 2)), .long ((((xs (6 * i + 3)).toInt64 <<< ((32 : Int32).toInt64 &&& 63)) ||| ((xs (6 * i + 4)).toInt64 &&& (4294967295 : Int64))))]) (rest := []) cx (hcc_X8_item l D cs t0 P P1 (da 0) (xs (6 * i + 1)) (xs (6 * i + 2)) ((((xs (6 * i + 3)).toInt64 <<< ((32 : Int32).toInt64 &&& 63)) ||| ((xs (6 * i + 4)).toInt64 &&& (4294967295 : Int64)))) _ e1) kT9 hc.k0 (cwV 3 hts (uG uw_X8_item ul_RL_137 ui_X8_item us_RX8_X8_item un_RX8) rfl rfl rfl ud_X8_item ⟨Nat.le_of_ble_eq_true rfl, Nat.le_of_ble_eq_true rfl⟩) w rfl hl.1 rfl (Nat.le_of_ble_eq_true rfl) dL_law_1234 ⟨by show cells + 0 ≤ 600000; omega, by show slots + 0 ≤ 7302250; omega⟩) hm (fun H1 locs1 w hm => ?_)
  refine lv_aload_n hx hb dL_law_1237 rfl (lv_at hl 2 rfl) ?_
  refine lw_arg (j := 1) cx hX hbl hbA w.2.2.2.2.1 (by omega) hL hl rfl dL_law_1238 dL_law_1239 dL_law_1240 dL_law_1241 dL_law_1242 ?_
  refine lw_arg (j := 2) cx hX hbl hbA w.2.2.2.2.1 (by omega) hL hl rfl dL_law_1243 dL_law_1244 dL_law_1245 dL_law_1246 dL_law_1247 ?_
  refine lw_arg (j := 3) cx hX hbl hbA w.2.2.2.2.1 (by omega) hL hl rfl dL_law_1248 dL_law_1249 dL_law_1250 dL_law_1251 dL_law_1252 ?_
  refine lv_i2l hx hb dL_law_1253 rfl ?_
  refine lv_bipush (v := (32 : Int32)) hx hb dL_law_1254 (by decide) ?_
  refine lv_lshl hx hb dL_law_1256 rfl ?_
  refine lw_arg (j := 4) cx hX hbl hbA w.2.2.2.2.1 (by omega) hL hl rfl dL_law_1257 dL_law_1258 dL_law_1259 dL_law_1260 dL_law_1261 ?_
  refine lv_i2l hx hb dL_law_1262 rfl ?_
  refine lv_ldc2 (v := (4294967295 : Int64)) hx hb hown (hts _ (List.mem_cons_of_mem _ uc_RL_135)) dL_law_1263 ?_
  refine lv_land hx hb dL_law_1266 ?_
  refine lv_lor hx hb dL_law_1267 ?_
  obtain ⟨S1, e2, g2, hW2⟩ := mu_item hW hM (xs (6 * i + 1)) (xs (6 * i + 2)) ((((xs (6 * i + 3)).toInt64 <<< ((32 : Int32).toInt64 &&& 63)) ||| ((xs (6 * i + 4)).toInt64 &&& (4294967295 : Int64))))
  refine lm_i (As := [.int (xs (6 * i + 1)), .int (xs (6 * i + 2)), .long ((((xs (6 * i + 3)).toInt64 <<< ((32 : Int32).toInt64 &&& 63)) ||| ((xs (6 * i + 4)).toInt64 &&& (4294967295 : Int64))))]) (rest := [.int (sItem Aa (xs (6 * i + 1)) (xs (6 * i + 2)) ((((xs (6 * i + 3)).toInt64 <<< ((32 : Int32).toInt64 &&& 63)) ||| ((xs (6 * i + 4)).toInt64 &&& (4294967295 : Int64))))).1]) cx (cc_item l D cs adm S S1 (xs (6 * i + 1)) (xs (6 * i + 2)) ((((xs (6 * i + 3)).toInt64 <<< ((32 : Int32).toInt64 &&& 63)) ||| ((xs (6 * i + 4)).toInt64 &&& (4294967295 : Int64)))) _ e2) (cwV 3 hts (uG uw_X9_item ul_RL_141 ui_X9_item us_RX9_X9_item un_RX9) rfl rfl rfl ud_X9_item ⟨Nat.le_of_ble_eq_true rfl, Nat.le_of_ble_eq_true rfl⟩) w hm rfl hl.1 rfl (Nat.le_of_ble_eq_true rfl) dL_law_1268 ⟨by show cells + 0 + 0 ≤ 600000; omega, by show slots + 0 + 0 ≤ 7302250; omega⟩ (fun H2 locs2 w hm hz2 => ?_)
  refine lv_icmp_eq (tgt := 1373) hx hb dL_law_1271 (by decide) (fun q => ?_) (fun q => ?_)
  · exact W.widen (k := cells + 1513) (n := slots + 96832) (by omega) (by omega) (next ((sItem Aa (xs (6 * i + 1)) (xs (6 * i + 2)) ((((xs (6 * i + 3)).toInt64 <<< ((32 : Int32).toInt64 &&& 63)) ||| ((xs (6 * i + 4)).toInt64 &&& (4294967295 : Int64))))).2) _ _ _ _ _ hda w hm (h1.setZ hz2) g2 hW2)
  · exact absurd rfl q
set_option maxHeartbeats 4000000 in
set_option maxRecDepth 100000 in
theorem lk_30 (cx : mCx p s m #[Value.ref b] meth c RL code (Cond.classLink RL 7 RX8 :: wsL_law) 4 ty) (hX : va_X b L xs s s.heap) (hbl : b < s.heap.size) (hbA : ¬ A b) (hi : 6 * i + 6 ≤ L) (hL : L ≤ 384) (hf1 : cells + 1513 ≤ 600000) (hf2 : slots + 96832 ≤ 7302250) (hl : lv_has ls 4 [(0, .ref b), (1, .ref (da 0)), (2, .ref (adm 100)), (3, .int (nI (6 * i)))]) (w : cWd D cs t0 A s P H locs) (hm : mX D cs adm A S P H) (hc : CC t0 da Aa P) (hM : MM Aa S) (hW : WF Aa) (next : LNx p l e s m b below meth c cells slots Q ls D cs t0 A adm da) : W p l e room_1 s m #[Value.ref b] below meth c H locs cells slots Q (F0 m 1276 ls []) := by
  obtain ⟨hx, hb, hr, hts, hown, hlocks, hml⟩ := id cx
  have e1 := cq_read hW hc (xs (6 * i + 1)) (xs (6 * i + 2))
  have h1 := hc
  have hda : da 0 = da 0 := rfl
  refine lv_aload_n hx hb dL_law_1276 rfl (lv_at hl 1 rfl) ?_
  refine lw_arg (j := 1) cx hX hbl hbA w.2.2.2.2.1 (by omega) hL hl rfl dL_law_1277 dL_law_1278 dL_law_1279 dL_law_1280 dL_law_1281 ?_
  refine lw_arg (j := 2) cx hX hbl hbA w.2.2.2.2.1 (by omega) hL hl rfl dL_law_1282 dL_law_1283 dL_law_1284 dL_law_1285 dL_law_1286 ?_
  refine lc_l (cr_V (As := [.int (xs (6 * i + 1)), .int (xs (6 * i + 2))]) (rest := []) cx (hcc_X8_read l D cs t0 P P (da 0) (xs (6 * i + 1)) (xs (6 * i + 2)) _ e1) kT9 hc.k0 (cwV 2 hts (uG uw_X8_read ul_RL_142 ui_X8_read us_RX8_X8_read un_RX8) rfl rfl rfl ud_X8_read ⟨Nat.le_of_ble_eq_true rfl, Nat.le_of_ble_eq_true rfl⟩) w rfl hl.1 rfl (Nat.le_of_ble_eq_true rfl) dL_law_1287 ⟨by show cells + 0 ≤ 600000; omega, by show slots + 0 ≤ 7302250; omega⟩) hm (fun H1 locs1 w hm => ?_)
  refine lv_aload_n hx hb dL_law_1290 rfl (lv_at hl 2 rfl) ?_
  refine lw_arg (j := 1) cx hX hbl hbA w.2.2.2.2.1 (by omega) hL hl rfl dL_law_1291 dL_law_1292 dL_law_1293 dL_law_1294 dL_law_1295 ?_
  refine lw_arg (j := 2) cx hX hbl hbA w.2.2.2.2.1 (by omega) hL hl rfl dL_law_1296 dL_law_1297 dL_law_1298 dL_law_1299 dL_law_1300 ?_
  have e2 := mq_read hW hM (xs (6 * i + 1)) (xs (6 * i + 2))
  have g2 := hM
  have hW2 := hW
  refine lm_l (As := [.int (xs (6 * i + 1)), .int (xs (6 * i + 2))]) (rest := [.long (sRead Aa (xs (6 * i + 1)) (xs (6 * i + 2)))]) cx (cc_read l D cs adm S S (xs (6 * i + 1)) (xs (6 * i + 2)) _ e2) (cwV 2 hts (uG uw_X9_read ul_RL_146 ui_X9_read us_RX9_X9_read un_RX9) rfl rfl rfl ud_X9_read ⟨Nat.le_of_ble_eq_true rfl, Nat.le_of_ble_eq_true rfl⟩) w hm rfl hl.1 rfl (Nat.le_of_ble_eq_true rfl) dL_law_1301 ⟨by show cells + 0 + 0 ≤ 600000; omega, by show slots + 0 + 0 ≤ 7302250; omega⟩ (fun H2 locs2 w hm hz2 => ?_)
  refine W.lcmp hx hb dL_law_1304 ?_
  refine lv_if_eq (tgt := 1373) hx hb dL_law_1305 (by decide) (fun q => ?_) (fun q => ?_)
  · exact W.widen (k := cells + 1513) (n := slots + 96832) (by omega) (by omega) (next (Aa) _ _ _ _ _ hda w hm (h1.setZ hz2) g2 hW2)
  · exact absurd (show (lg_cmp (sRead Aa (xs (6 * i + 1)) (xs (6 * i + 2))) (sRead Aa (xs (6 * i + 1)) (xs (6 * i + 2)))) = 0 from by rw [cmp_0]) q
set_option maxHeartbeats 4000000 in
set_option maxRecDepth 100000 in
theorem lk_31 (cx : mCx p s m #[Value.ref b] meth c RL code (Cond.classLink RL 7 RX8 :: wsL_law) 4 ty) (hX : va_X b L xs s s.heap) (hbl : b < s.heap.size) (hbA : ¬ A b) (hi : 6 * i + 6 ≤ L) (hL : L ≤ 384) (hf1 : cells + 1513 ≤ 600000) (hf2 : slots + 96832 ≤ 7302250) (hl : lv_has ls 4 [(0, .ref b), (1, .ref (da 0)), (2, .ref (adm 100)), (3, .int (nI (6 * i)))]) (w : cWd D cs t0 A s P H locs) (hm : mX D cs adm A S P H) (hc : CC t0 da Aa P) (hM : MM Aa S) (hW : WF Aa) (next : LNx p l e s m b below meth c cells slots Q ls D cs t0 A adm da) : W p l e room_1 s m #[Value.ref b] below meth c H locs cells slots Q (F0 m 1310 ls []) := by
  obtain ⟨hx, hb, hr, hts, hown, hlocks, hml⟩ := id cx
  obtain ⟨P1, e1, h1⟩ := cu_shift hW hc (xs (6 * i + 1)) (xs (6 * i + 2)) (xs (6 * i + 3)) (xs (6 * i + 4)) (xs (6 * i + 5))
  have hda : da 0 = da 0 := rfl
  refine lv_aload_n hx hb dL_law_1310 rfl (lv_at hl 1 rfl) ?_
  refine lw_arg (j := 1) cx hX hbl hbA w.2.2.2.2.1 (by omega) hL hl rfl dL_law_1311 dL_law_1312 dL_law_1313 dL_law_1314 dL_law_1315 ?_
  refine lw_arg (j := 2) cx hX hbl hbA w.2.2.2.2.1 (by omega) hL hl rfl dL_law_1316 dL_law_1317 dL_law_1318 dL_law_1319 dL_law_1320 ?_
  refine lw_arg (j := 3) cx hX hbl hbA w.2.2.2.2.1 (by omega) hL hl rfl dL_law_1321 dL_law_1322 dL_law_1323 dL_law_1324 dL_law_1325 ?_
  refine lw_arg (j := 4) cx hX hbl hbA w.2.2.2.2.1 (by omega) hL hl rfl dL_law_1326 dL_law_1327 dL_law_1328 dL_law_1329 dL_law_1330 ?_
  refine lw_arg (j := 5) cx hX hbl hbA w.2.2.2.2.1 (by omega) hL hl rfl dL_law_1331 dL_law_1332 dL_law_1333 dL_law_1334 dL_law_1335 ?_
  refine lc_i (cr_V (As := [.int (xs (6 * i + 1)), .int (xs (6 * i + 2)), .int (xs (6 * i + 3)), .int (xs (6 * i + 4)), .int (xs (6 * i + 5))]) (rest := []) cx (hcc_X8_shift l D cs t0 P P1 (da 0) (xs (6 * i + 1)) (xs (6 * i + 2)) (xs (6 * i + 3)) (xs (6 * i + 4)) (xs (6 * i + 5)) _ e1) kT9 hc.k0 (cwV 5 hts (uG uw_X8_shift ul_RL_147 ui_X8_shift us_RX8_X8_shift un_RX8) rfl rfl rfl ud_X8_shift ⟨Nat.le_of_ble_eq_true rfl, Nat.le_of_ble_eq_true rfl⟩) w rfl hl.1 rfl (Nat.le_of_ble_eq_true rfl) dL_law_1336 ⟨by show cells + 0 ≤ 600000; omega, by show slots + 0 ≤ 7302250; omega⟩) hm (fun H1 locs1 w hm => ?_)
  refine lv_aload_n hx hb dL_law_1339 rfl (lv_at hl 2 rfl) ?_
  refine lw_arg (j := 1) cx hX hbl hbA w.2.2.2.2.1 (by omega) hL hl rfl dL_law_1340 dL_law_1341 dL_law_1342 dL_law_1343 dL_law_1344 ?_
  refine lw_arg (j := 2) cx hX hbl hbA w.2.2.2.2.1 (by omega) hL hl rfl dL_law_1345 dL_law_1346 dL_law_1347 dL_law_1348 dL_law_1349 ?_
  refine lw_arg (j := 3) cx hX hbl hbA w.2.2.2.2.1 (by omega) hL hl rfl dL_law_1350 dL_law_1351 dL_law_1352 dL_law_1353 dL_law_1354 ?_
  refine lw_arg (j := 4) cx hX hbl hbA w.2.2.2.2.1 (by omega) hL hl rfl dL_law_1355 dL_law_1356 dL_law_1357 dL_law_1358 dL_law_1359 ?_
  refine lw_arg (j := 5) cx hX hbl hbA w.2.2.2.2.1 (by omega) hL hl rfl dL_law_1360 dL_law_1361 dL_law_1362 dL_law_1363 dL_law_1364 ?_
  obtain ⟨S1, e2, g2, hW2⟩ := mu_shift hW hM (xs (6 * i + 1)) (xs (6 * i + 2)) (xs (6 * i + 3)) (xs (6 * i + 4)) (xs (6 * i + 5))
  refine lm_i (As := [.int (xs (6 * i + 1)), .int (xs (6 * i + 2)), .int (xs (6 * i + 3)), .int (xs (6 * i + 4)), .int (xs (6 * i + 5))]) (rest := [.int (sShift Aa (xs (6 * i + 1)) (xs (6 * i + 2)) (xs (6 * i + 3)) (xs (6 * i + 4)) (xs (6 * i + 5))).1]) cx (cc_shift l D cs adm S S1 (xs (6 * i + 1)) (xs (6 * i + 2)) (xs (6 * i + 3)) (xs (6 * i + 4)) (xs (6 * i + 5)) _ e2) (cwV 5 hts (uG uw_X9_shift ul_RL_150 ui_X9_shift us_RX9_X9_shift un_RX9) rfl rfl rfl ud_X9_shift ⟨Nat.le_of_ble_eq_true rfl, Nat.le_of_ble_eq_true rfl⟩) w hm rfl hl.1 rfl (Nat.le_of_ble_eq_true rfl) dL_law_1365 ⟨by show cells + 0 + 0 ≤ 600000; omega, by show slots + 0 + 0 ≤ 7302250; omega⟩ (fun H2 locs2 w hm hz2 => ?_)
  refine lv_icmp_eq (tgt := 1373) hx hb dL_law_1368 (by decide) (fun q => ?_) (fun q => ?_)
  · exact W.widen (k := cells + 1513) (n := slots + 96832) (by omega) (by omega) (next ((sShift Aa (xs (6 * i + 1)) (xs (6 * i + 2)) (xs (6 * i + 3)) (xs (6 * i + 4)) (xs (6 * i + 5))).2) _ _ _ _ _ hda w hm (h1.setZ hz2) g2 hW2)
  · exact absurd rfl q
end LWC
