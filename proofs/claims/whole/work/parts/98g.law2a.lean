-- the law, case by case
section LWC
variable {p : Program} {l : Launch} {e : Env} {s : State} {m : MethodId} {below : List Frame} {meth : Method} {c : Code} {H : Heap} {locs : List Loc} {cells slots : Nat} {Q : State → Prop} {ls : Array Slot}
variable {D : va_G} {cs : Nat → ClassId} {t0 : TS} {A : Nat → Prop} {P : PS} {ty : Option FieldType} {adm : Nat → Nat} {S : MS} {da : DD} {Aa : AA} {b L i : Nat} {xs : Nat → Int32}
def LNx (p : Program) (l : Launch) (e : Env) (s : State) (m : MethodId) (b : Nat) (below : List Frame) (meth : Method) (c : Code) (cells slots : Nat) (Q : State → Prop) (ls : Array Slot) (D : va_G) (cs : Nat → ClassId) (t0 : TS) (A : Nat → Prop) (adm : Nat → Nat) (da : DD) : Prop := ∀ (A' : AA) (da' : DD) (P' : PS) (S' : MS) (H' : Heap) (locs' : List Loc), da' 0 = da 0 → cWd D cs t0 A s P' H' locs' → mX D cs adm A S' P' H' → CC t0 da' A' P' → MM A' S' → WF A' → W p l e room_1 s m #[Value.ref b] below meth c H' locs' (cells + 1513) (slots + 96832) Q (F0 m 1373 ls [])
set_option maxHeartbeats 4000000 in
set_option maxRecDepth 100000 in
theorem lk_0 (cx : mCx p s m #[Value.ref b] meth c RL code (Cond.classLink RL 7 RX8 :: wsL_law) 4 ty) (hX : va_X b L xs s s.heap) (hbl : b < s.heap.size) (hbA : ¬ A b) (hi : 6 * i + 6 ≤ L) (hL : L ≤ 384) (hf1 : cells + 1513 ≤ 600000) (hf2 : slots + 96832 ≤ 7302250) (hl : lv_has ls 4 [(0, .ref b), (1, .ref (da 0)), (2, .ref (adm 100)), (3, .int (nI (6 * i)))]) (w : cWd D cs t0 A s P H locs) (hm : mX D cs adm A S P H) (hc : CC t0 da Aa P) (hM : MM Aa S) (hW : WF Aa) (next : LNx p l e s m b below meth c cells slots Q ls D cs t0 A adm da) : W p l e room_1 s m #[Value.ref b] below meth c H locs cells slots Q (F0 m 176 ls []) := by
  obtain ⟨hx, hb, hr, hts, hown, hlocks, hml⟩ := id cx
  obtain ⟨P1, e1, h1⟩ := cu_known hW hc (xs (6 * i + 1)) (xs (6 * i + 2))
  have hda : da 0 = da 0 := rfl
  refine lv_aload_n hx hb dL_law_176 rfl (lv_at hl 1 rfl) ?_
  refine lw_arg (j := 1) cx hX hbl hbA w.2.2.2.2.1 (by omega) hL hl rfl dL_law_177 dL_law_178 dL_law_179 dL_law_180 dL_law_181 ?_
  refine lw_arg (j := 2) cx hX hbl hbA w.2.2.2.2.1 (by omega) hL hl rfl dL_law_182 dL_law_183 dL_law_184 dL_law_185 dL_law_186 ?_
  refine lc_i (cr_V (As := [.int (xs (6 * i + 1)), .int (xs (6 * i + 2))]) (rest := []) cx (hcc_X8_known l D cs t0 P P1 (da 0) (xs (6 * i + 1)) (xs (6 * i + 2)) _ e1) kT9 hc.k0 (cwV 2 hts (uG uw_X8_known ul_RL_13 ui_X8_known us_RX8_X8_known un_RX8) rfl rfl rfl ud_X8_known ⟨Nat.le_of_ble_eq_true rfl, Nat.le_of_ble_eq_true rfl⟩) w rfl hl.1 rfl (Nat.le_of_ble_eq_true rfl) dL_law_187 ⟨by show cells + 0 ≤ 600000; omega, by show slots + 0 ≤ 7302250; omega⟩) hm (fun H1 locs1 w hm => ?_)
  refine lv_aload_n hx hb dL_law_190 rfl (lv_at hl 2 rfl) ?_
  refine lw_arg (j := 1) cx hX hbl hbA w.2.2.2.2.1 (by omega) hL hl rfl dL_law_191 dL_law_192 dL_law_193 dL_law_194 dL_law_195 ?_
  refine lw_arg (j := 2) cx hX hbl hbA w.2.2.2.2.1 (by omega) hL hl rfl dL_law_196 dL_law_197 dL_law_198 dL_law_199 dL_law_200 ?_
  obtain ⟨S1, e2, g2, hW2⟩ := mu_known hW hM (xs (6 * i + 1)) (xs (6 * i + 2))
  refine lm_i (As := [.int (xs (6 * i + 1)), .int (xs (6 * i + 2))]) (rest := [.int (sKnown Aa (xs (6 * i + 1)) (xs (6 * i + 2))).1]) cx (cc_known l D cs adm S S1 (xs (6 * i + 1)) (xs (6 * i + 2)) _ e2) (cwV 2 hts (uG uw_X9_known ul_RL_17 ui_X9_known us_RX9_X9_known un_RX9) rfl rfl rfl ud_X9_known ⟨Nat.le_of_ble_eq_true rfl, Nat.le_of_ble_eq_true rfl⟩) w hm rfl hl.1 rfl (Nat.le_of_ble_eq_true rfl) dL_law_201 ⟨by show cells + 0 + 0 ≤ 600000; omega, by show slots + 0 + 0 ≤ 7302250; omega⟩ (fun H2 locs2 w hm hz2 => ?_)
  refine lv_icmp_eq (tgt := 1373) hx hb dL_law_204 (by decide) (fun q => ?_) (fun q => ?_)
  · exact W.widen (k := cells + 1513) (n := slots + 96832) (by omega) (by omega) (next ((sKnown Aa (xs (6 * i + 1)) (xs (6 * i + 2))).2) _ _ _ _ _ hda w hm (h1.setZ hz2) g2 hW2)
  · exact absurd rfl q
set_option maxHeartbeats 4000000 in
set_option maxRecDepth 100000 in
theorem lk_1 (cx : mCx p s m #[Value.ref b] meth c RL code (Cond.classLink RL 7 RX8 :: wsL_law) 4 ty) (hX : va_X b L xs s s.heap) (hbl : b < s.heap.size) (hbA : ¬ A b) (hi : 6 * i + 6 ≤ L) (hL : L ≤ 384) (hf1 : cells + 1513 ≤ 600000) (hf2 : slots + 96832 ≤ 7302250) (hl : lv_has ls 4 [(0, .ref b), (1, .ref (da 0)), (2, .ref (adm 100)), (3, .int (nI (6 * i)))]) (w : cWd D cs t0 A s P H locs) (hm : mX D cs adm A S P H) (hc : CC t0 da Aa P) (hM : MM Aa S) (hW : WF Aa) (next : LNx p l e s m b below meth c cells slots Q ls D cs t0 A adm da) : W p l e room_1 s m #[Value.ref b] below meth c H locs cells slots Q (F0 m 209 ls []) := by
  obtain ⟨hx, hb, hr, hts, hown, hlocks, hml⟩ := id cx
  obtain ⟨da1, P1, e1, h1, hda⟩ := cu_word hW hc (xs (6 * i + 1)) (xs (6 * i + 2)) (xs (6 * i + 3))
  refine lv_aload_n hx hb dL_law_209 rfl (lv_at hl 1 rfl) ?_
  refine lw_arg (j := 1) cx hX hbl hbA w.2.2.2.2.1 (by omega) hL hl rfl dL_law_210 dL_law_211 dL_law_212 dL_law_213 dL_law_214 ?_
  refine lw_arg (j := 2) cx hX hbl hbA w.2.2.2.2.1 (by omega) hL hl rfl dL_law_215 dL_law_216 dL_law_217 dL_law_218 dL_law_219 ?_
  refine lw_arg (j := 3) cx hX hbl hbA w.2.2.2.2.1 (by omega) hL hl rfl dL_law_220 dL_law_221 dL_law_222 dL_law_223 dL_law_224 ?_
  refine lc_i (cr_V (As := [.int (xs (6 * i + 1)), .int (xs (6 * i + 2)), .int (xs (6 * i + 3))]) (rest := []) cx (hcc_X8_word l D cs t0 P P1 (da 0) (xs (6 * i + 1)) (xs (6 * i + 2)) (xs (6 * i + 3)) _ e1) kT9 hc.k0 (cwV 3 hts (uG uw_X8_word ul_RL_18 ui_X8_word us_RX8_X8_word un_RX8) rfl rfl rfl ud_X8_word ⟨Nat.le_of_ble_eq_true rfl, Nat.le_of_ble_eq_true rfl⟩) w rfl hl.1 rfl (Nat.le_of_ble_eq_true rfl) dL_law_225 ⟨by show cells + 3 ≤ 600000; omega, by show slots + 74 ≤ 7302250; omega⟩) hm (fun H1 locs1 w hm => ?_)
  refine lv_aload_n hx hb dL_law_228 rfl (lv_at hl 2 rfl) ?_
  refine lw_arg (j := 1) cx hX hbl hbA w.2.2.2.2.1 (by omega) hL hl rfl dL_law_229 dL_law_230 dL_law_231 dL_law_232 dL_law_233 ?_
  refine lw_arg (j := 2) cx hX hbl hbA w.2.2.2.2.1 (by omega) hL hl rfl dL_law_234 dL_law_235 dL_law_236 dL_law_237 dL_law_238 ?_
  refine lw_arg (j := 3) cx hX hbl hbA w.2.2.2.2.1 (by omega) hL hl rfl dL_law_239 dL_law_240 dL_law_241 dL_law_242 dL_law_243 ?_
  obtain ⟨S1, e2, g2, hW2⟩ := mu_word hW hM (xs (6 * i + 1)) (xs (6 * i + 2)) (xs (6 * i + 3))
  refine lm_i (As := [.int (xs (6 * i + 1)), .int (xs (6 * i + 2)), .int (xs (6 * i + 3))]) (rest := [.int (sWord Aa (xs (6 * i + 1)) (xs (6 * i + 2)) (xs (6 * i + 3))).1]) cx (cc_word l D cs adm S S1 (xs (6 * i + 1)) (xs (6 * i + 2)) (xs (6 * i + 3)) _ e2) (cwV 3 hts (uG uw_X9_word ul_RL_22 ui_X9_word us_RX9_X9_word un_RX9) rfl rfl rfl ud_X9_word ⟨Nat.le_of_ble_eq_true rfl, Nat.le_of_ble_eq_true rfl⟩) w hm rfl hl.1 rfl (Nat.le_of_ble_eq_true rfl) dL_law_244 ⟨by show cells + 3 + 0 ≤ 600000; omega, by show slots + 74 + 0 ≤ 7302250; omega⟩ (fun H2 locs2 w hm hz2 => ?_)
  refine lv_icmp_eq (tgt := 1373) hx hb dL_law_247 (by decide) (fun q => ?_) (fun q => ?_)
  · exact W.widen (k := cells + 1513) (n := slots + 96832) (by omega) (by omega) (next ((sWord Aa (xs (6 * i + 1)) (xs (6 * i + 2)) (xs (6 * i + 3))).2) _ _ _ _ _ hda w hm (h1.setZ hz2) g2 hW2)
  · exact absurd rfl q
set_option maxHeartbeats 4000000 in
set_option maxRecDepth 100000 in
theorem lk_2 (cx : mCx p s m #[Value.ref b] meth c RL code (Cond.classLink RL 7 RX8 :: wsL_law) 4 ty) (hX : va_X b L xs s s.heap) (hbl : b < s.heap.size) (hbA : ¬ A b) (hi : 6 * i + 6 ≤ L) (hL : L ≤ 384) (hf1 : cells + 1513 ≤ 600000) (hf2 : slots + 96832 ≤ 7302250) (hl : lv_has ls 4 [(0, .ref b), (1, .ref (da 0)), (2, .ref (adm 100)), (3, .int (nI (6 * i)))]) (w : cWd D cs t0 A s P H locs) (hm : mX D cs adm A S P H) (hc : CC t0 da Aa P) (hM : MM Aa S) (hW : WF Aa) (next : LNx p l e s m b below meth c cells slots Q ls D cs t0 A adm da) : W p l e room_1 s m #[Value.ref b] below meth c H locs cells slots Q (F0 m 252 ls []) := by
  obtain ⟨hx, hb, hr, hts, hown, hlocks, hml⟩ := id cx
  obtain ⟨da1, P1, e1, h1, hda⟩ := cu_hold hW hc (xs (6 * i + 1)) (xs (6 * i + 2))
  refine lv_aload_n hx hb dL_law_252 rfl (lv_at hl 1 rfl) ?_
  refine lw_arg (j := 1) cx hX hbl hbA w.2.2.2.2.1 (by omega) hL hl rfl dL_law_253 dL_law_254 dL_law_255 dL_law_256 dL_law_257 ?_
  refine lw_arg (j := 2) cx hX hbl hbA w.2.2.2.2.1 (by omega) hL hl rfl dL_law_258 dL_law_259 dL_law_260 dL_law_261 dL_law_262 ?_
  refine lc_i (cr_V (As := [.int (xs (6 * i + 1)), .int (xs (6 * i + 2))]) (rest := []) cx (hcc_X8_hold l D cs t0 P P1 (da 0) (xs (6 * i + 1)) (xs (6 * i + 2)) _ e1) kT9 hc.k0 (cwV 2 hts (uG uw_X8_hold ul_RL_23 ui_X8_hold us_RX8_X8_hold un_RX8) rfl rfl rfl ud_X8_hold ⟨Nat.le_of_ble_eq_true rfl, Nat.le_of_ble_eq_true rfl⟩) w rfl hl.1 rfl (Nat.le_of_ble_eq_true rfl) dL_law_263 ⟨by show cells + 1 ≤ 600000; omega, by show slots + 64 ≤ 7302250; omega⟩) hm (fun H1 locs1 w hm => ?_)
  refine lv_aload_n hx hb dL_law_266 rfl (lv_at hl 2 rfl) ?_
  refine lw_arg (j := 1) cx hX hbl hbA w.2.2.2.2.1 (by omega) hL hl rfl dL_law_267 dL_law_268 dL_law_269 dL_law_270 dL_law_271 ?_
  refine lw_arg (j := 2) cx hX hbl hbA w.2.2.2.2.1 (by omega) hL hl rfl dL_law_272 dL_law_273 dL_law_274 dL_law_275 dL_law_276 ?_
  obtain ⟨S1, e2, g2, hW2⟩ := mu_hold hW hM (xs (6 * i + 1)) (xs (6 * i + 2))
  refine lm_i (As := [.int (xs (6 * i + 1)), .int (xs (6 * i + 2))]) (rest := [.int (sHold Aa (xs (6 * i + 1)) (xs (6 * i + 2))).1]) cx (cc_hold l D cs adm S S1 (xs (6 * i + 1)) (xs (6 * i + 2)) _ e2) (cwV 2 hts (uG uw_X9_hold ul_RL_26 ui_X9_hold us_RX9_X9_hold un_RX9) rfl rfl rfl ud_X9_hold ⟨Nat.le_of_ble_eq_true rfl, Nat.le_of_ble_eq_true rfl⟩) w hm rfl hl.1 rfl (Nat.le_of_ble_eq_true rfl) dL_law_277 ⟨by show cells + 1 + 0 ≤ 600000; omega, by show slots + 64 + 0 ≤ 7302250; omega⟩ (fun H2 locs2 w hm hz2 => ?_)
  refine lv_icmp_eq (tgt := 1373) hx hb dL_law_280 (by decide) (fun q => ?_) (fun q => ?_)
  · exact W.widen (k := cells + 1513) (n := slots + 96832) (by omega) (by omega) (next ((sHold Aa (xs (6 * i + 1)) (xs (6 * i + 2))).2) _ _ _ _ _ hda w hm (h1.setZ hz2) g2 hW2)
  · exact absurd rfl q
set_option maxHeartbeats 4000000 in
set_option maxRecDepth 100000 in
theorem lk_3 (cx : mCx p s m #[Value.ref b] meth c RL code (Cond.classLink RL 7 RX8 :: wsL_law) 4 ty) (hX : va_X b L xs s s.heap) (hbl : b < s.heap.size) (hbA : ¬ A b) (hi : 6 * i + 6 ≤ L) (hL : L ≤ 384) (hf1 : cells + 1513 ≤ 600000) (hf2 : slots + 96832 ≤ 7302250) (hl : lv_has ls 4 [(0, .ref b), (1, .ref (da 0)), (2, .ref (adm 100)), (3, .int (nI (6 * i)))]) (w : cWd D cs t0 A s P H locs) (hm : mX D cs adm A S P H) (hc : CC t0 da Aa P) (hM : MM Aa S) (hW : WF Aa) (next : LNx p l e s m b below meth c cells slots Q ls D cs t0 A adm da) : W p l e room_1 s m #[Value.ref b] below meth c H locs cells slots Q (F0 m 285 ls []) := by
  obtain ⟨hx, hb, hr, hts, hown, hlocks, hml⟩ := id cx
  have e1 := cq_of hW hc (xs (6 * i + 1)) (xs (6 * i + 2))
  have h1 := hc
  have hda : da 0 = da 0 := rfl
  refine lv_aload_n hx hb dL_law_285 rfl (lv_at hl 1 rfl) ?_
  refine lw_arg (j := 1) cx hX hbl hbA w.2.2.2.2.1 (by omega) hL hl rfl dL_law_286 dL_law_287 dL_law_288 dL_law_289 dL_law_290 ?_
  refine lw_arg (j := 2) cx hX hbl hbA w.2.2.2.2.1 (by omega) hL hl rfl dL_law_291 dL_law_292 dL_law_293 dL_law_294 dL_law_295 ?_
  refine lc_i (cr_V (As := [.int (xs (6 * i + 1)), .int (xs (6 * i + 2))]) (rest := []) cx (hcc_X8_of l D cs t0 P P (da 0) (xs (6 * i + 1)) (xs (6 * i + 2)) _ e1) kT9 hc.k0 (cwV 2 hts (uG uw_X8_of ul_RL_27 ui_X8_of us_RX8_X8_of un_RX8) rfl rfl rfl ud_X8_of ⟨Nat.le_of_ble_eq_true rfl, Nat.le_of_ble_eq_true rfl⟩) w rfl hl.1 rfl (Nat.le_of_ble_eq_true rfl) dL_law_296 ⟨by show cells + 0 ≤ 600000; omega, by show slots + 0 ≤ 7302250; omega⟩) hm (fun H1 locs1 w hm => ?_)
  refine lv_aload_n hx hb dL_law_299 rfl (lv_at hl 2 rfl) ?_
  refine lw_arg (j := 1) cx hX hbl hbA w.2.2.2.2.1 (by omega) hL hl rfl dL_law_300 dL_law_301 dL_law_302 dL_law_303 dL_law_304 ?_
  refine lw_arg (j := 2) cx hX hbl hbA w.2.2.2.2.1 (by omega) hL hl rfl dL_law_305 dL_law_306 dL_law_307 dL_law_308 dL_law_309 ?_
  have e2 := mq_of hW hM (xs (6 * i + 1)) (xs (6 * i + 2))
  have g2 := hM
  have hW2 := hW
  refine lm_i (As := [.int (xs (6 * i + 1)), .int (xs (6 * i + 2))]) (rest := [.int (sOf Aa (xs (6 * i + 1)) (xs (6 * i + 2)))]) cx (cc_of l D cs adm S S (xs (6 * i + 1)) (xs (6 * i + 2)) _ e2) (cwV 2 hts (uG uw_X9_of ul_RL_30 ui_X9_of us_RX9_X9_of un_RX9) rfl rfl rfl ud_X9_of ⟨Nat.le_of_ble_eq_true rfl, Nat.le_of_ble_eq_true rfl⟩) w hm rfl hl.1 rfl (Nat.le_of_ble_eq_true rfl) dL_law_310 ⟨by show cells + 0 + 0 ≤ 600000; omega, by show slots + 0 + 0 ≤ 7302250; omega⟩ (fun H2 locs2 w hm hz2 => ?_)
  refine lv_icmp_eq (tgt := 1373) hx hb dL_law_313 (by decide) (fun q => ?_) (fun q => ?_)
  · exact W.widen (k := cells + 1513) (n := slots + 96832) (by omega) (by omega) (next (Aa) _ _ _ _ _ hda w hm (h1.setZ hz2) g2 hW2)
  · exact absurd rfl q
set_option maxHeartbeats 4000000 in
set_option maxRecDepth 100000 in
theorem lk_4 (cx : mCx p s m #[Value.ref b] meth c RL code (Cond.classLink RL 7 RX8 :: wsL_law) 4 ty) (hX : va_X b L xs s s.heap) (hbl : b < s.heap.size) (hbA : ¬ A b) (hi : 6 * i + 6 ≤ L) (hL : L ≤ 384) (hf1 : cells + 1513 ≤ 600000) (hf2 : slots + 96832 ≤ 7302250) (hl : lv_has ls 4 [(0, .ref b), (1, .ref (da 0)), (2, .ref (adm 100)), (3, .int (nI (6 * i)))]) (w : cWd D cs t0 A s P H locs) (hm : mX D cs adm A S P H) (hc : CC t0 da Aa P) (hM : MM Aa S) (hW : WF Aa) (next : LNx p l e s m b below meth c cells slots Q ls D cs t0 A adm da) : W p l e room_1 s m #[Value.ref b] below meth c H locs cells slots Q (F0 m 318 ls []) := by
  obtain ⟨hx, hb, hr, hts, hown, hlocks, hml⟩ := id cx
  obtain ⟨P1, e1, h1⟩ := cu_show hW hc (xs (6 * i + 1))
  have hda : da 0 = da 0 := rfl
  refine lv_aload_n hx hb dL_law_318 rfl (lv_at hl 1 rfl) ?_
  refine lw_arg (j := 1) cx hX hbl hbA w.2.2.2.2.1 (by omega) hL hl rfl dL_law_319 dL_law_320 dL_law_321 dL_law_322 dL_law_323 ?_
  refine lc_i (cr_V (As := [.int (xs (6 * i + 1))]) (rest := []) cx (hcc_X8_show l D cs t0 P P1 (da 0) (xs (6 * i + 1)) _ e1) kT9 hc.k0 (cwV 1 hts (uG uw_X8_show ul_RL_31 ui_X8_show us_RX8_X8_show un_RX8) rfl rfl rfl ud_X8_show ⟨Nat.le_of_ble_eq_true rfl, Nat.le_of_ble_eq_true rfl⟩) w rfl hl.1 rfl (Nat.le_of_ble_eq_true rfl) dL_law_324 ⟨by show cells + 0 ≤ 600000; omega, by show slots + 0 ≤ 7302250; omega⟩) hm (fun H1 locs1 w hm => ?_)
  refine lv_aload_n hx hb dL_law_327 rfl (lv_at hl 2 rfl) ?_
  refine lw_arg (j := 1) cx hX hbl hbA w.2.2.2.2.1 (by omega) hL hl rfl dL_law_328 dL_law_329 dL_law_330 dL_law_331 dL_law_332 ?_
  obtain ⟨S1, e2, g2, hW2⟩ := mu_show hW hM (xs (6 * i + 1))
  refine lm_i (As := [.int (xs (6 * i + 1))]) (rest := [.int (sShow Aa (xs (6 * i + 1))).1]) cx (cc_show l D cs adm S S1 (xs (6 * i + 1)) _ e2) (cwV 1 hts (uG uw_X9_show ul_RL_35 ui_X9_show us_RX9_X9_show un_RX9) rfl rfl rfl ud_X9_show ⟨Nat.le_of_ble_eq_true rfl, Nat.le_of_ble_eq_true rfl⟩) w hm rfl hl.1 rfl (Nat.le_of_ble_eq_true rfl) dL_law_333 ⟨by show cells + 0 + 0 ≤ 600000; omega, by show slots + 0 + 0 ≤ 7302250; omega⟩ (fun H2 locs2 w hm hz2 => ?_)
  refine lv_icmp_eq (tgt := 1373) hx hb dL_law_336 (by decide) (fun q => ?_) (fun q => ?_)
  · exact W.widen (k := cells + 1513) (n := slots + 96832) (by omega) (by omega) (next ((sShow Aa (xs (6 * i + 1))).2) _ _ _ _ _ hda w hm (h1.setZ hz2) g2 hW2)
  · exact absurd rfl q
set_option maxHeartbeats 4000000 in
set_option maxRecDepth 100000 in
theorem lk_5 (cx : mCx p s m #[Value.ref b] meth c RL code (Cond.classLink RL 7 RX8 :: wsL_law) 4 ty) (hX : va_X b L xs s s.heap) (hbl : b < s.heap.size) (hbA : ¬ A b) (hi : 6 * i + 6 ≤ L) (hL : L ≤ 384) (hf1 : cells + 1513 ≤ 600000) (hf2 : slots + 96832 ≤ 7302250) (hl : lv_has ls 4 [(0, .ref b), (1, .ref (da 0)), (2, .ref (adm 100)), (3, .int (nI (6 * i)))]) (w : cWd D cs t0 A s P H locs) (hm : mX D cs adm A S P H) (hc : CC t0 da Aa P) (hM : MM Aa S) (hW : WF Aa) (next : LNx p l e s m b below meth c cells slots Q ls D cs t0 A adm da) : W p l e room_1 s m #[Value.ref b] below meth c H locs cells slots Q (F0 m 341 ls []) := by
  obtain ⟨hx, hb, hr, hts, hown, hlocks, hml⟩ := id cx
  obtain ⟨P1, e1, h1⟩ := cu_feed hW hc (xs (6 * i + 1)) (xs (6 * i + 2))
  have hda : da 0 = da 0 := rfl
  refine lv_aload_n hx hb dL_law_341 rfl (lv_at hl 1 rfl) ?_
  refine lw_arg (j := 1) cx hX hbl hbA w.2.2.2.2.1 (by omega) hL hl rfl dL_law_342 dL_law_343 dL_law_344 dL_law_345 dL_law_346 ?_
  refine lw_arg (j := 2) cx hX hbl hbA w.2.2.2.2.1 (by omega) hL hl rfl dL_law_347 dL_law_348 dL_law_349 dL_law_350 dL_law_351 ?_
  refine lc_i (cr_V (As := [.int (xs (6 * i + 1)), .int (xs (6 * i + 2))]) (rest := []) cx (hcc_X8_feed l D cs t0 P P1 (da 0) (xs (6 * i + 1)) (xs (6 * i + 2)) _ e1) kT9 hc.k0 (cwV 2 hts (uG uw_X8_feed ul_RL_36 ui_X8_feed us_RX8_X8_feed un_RX8) rfl rfl rfl ud_X8_feed ⟨Nat.le_of_ble_eq_true rfl, Nat.le_of_ble_eq_true rfl⟩) w rfl hl.1 rfl (Nat.le_of_ble_eq_true rfl) dL_law_352 ⟨by show cells + 0 ≤ 600000; omega, by show slots + 0 ≤ 7302250; omega⟩) hm (fun H1 locs1 w hm => ?_)
  refine lv_aload_n hx hb dL_law_355 rfl (lv_at hl 2 rfl) ?_
  refine lw_arg (j := 1) cx hX hbl hbA w.2.2.2.2.1 (by omega) hL hl rfl dL_law_356 dL_law_357 dL_law_358 dL_law_359 dL_law_360 ?_
  refine lw_arg (j := 2) cx hX hbl hbA w.2.2.2.2.1 (by omega) hL hl rfl dL_law_361 dL_law_362 dL_law_363 dL_law_364 dL_law_365 ?_
  obtain ⟨S1, e2, g2, hW2⟩ := mu_feed hW hM (xs (6 * i + 1)) (xs (6 * i + 2))
  refine lm_i (As := [.int (xs (6 * i + 1)), .int (xs (6 * i + 2))]) (rest := [.int (sFeed Aa (xs (6 * i + 1)) (xs (6 * i + 2))).1]) cx (cc_feed l D cs adm S S1 (xs (6 * i + 1)) (xs (6 * i + 2)) _ e2) (cwV 2 hts (uG uw_X9_feed ul_RL_39 ui_X9_feed us_RX9_X9_feed un_RX9) rfl rfl rfl ud_X9_feed ⟨Nat.le_of_ble_eq_true rfl, Nat.le_of_ble_eq_true rfl⟩) w hm rfl hl.1 rfl (Nat.le_of_ble_eq_true rfl) dL_law_366 ⟨by show cells + 0 + 0 ≤ 600000; omega, by show slots + 0 + 0 ≤ 7302250; omega⟩ (fun H2 locs2 w hm hz2 => ?_)
  refine lv_icmp_eq (tgt := 1373) hx hb dL_law_369 (by decide) (fun q => ?_) (fun q => ?_)
  · exact W.widen (k := cells + 1513) (n := slots + 96832) (by omega) (by omega) (next ((sFeed Aa (xs (6 * i + 1)) (xs (6 * i + 2))).2) _ _ _ _ _ hda w hm (h1.setZ hz2) g2 hW2)
  · exact absurd rfl q
set_option maxHeartbeats 4000000 in
set_option maxRecDepth 100000 in
theorem lk_6 (cx : mCx p s m #[Value.ref b] meth c RL code (Cond.classLink RL 7 RX8 :: wsL_law) 4 ty) (hX : va_X b L xs s s.heap) (hbl : b < s.heap.size) (hbA : ¬ A b) (hi : 6 * i + 6 ≤ L) (hL : L ≤ 384) (hf1 : cells + 1513 ≤ 600000) (hf2 : slots + 96832 ≤ 7302250) (hl : lv_has ls 4 [(0, .ref b), (1, .ref (da 0)), (2, .ref (adm 100)), (3, .int (nI (6 * i)))]) (w : cWd D cs t0 A s P H locs) (hm : mX D cs adm A S P H) (hc : CC t0 da Aa P) (hM : MM Aa S) (hW : WF Aa) (next : LNx p l e s m b below meth c cells slots Q ls D cs t0 A adm da) : W p l e room_1 s m #[Value.ref b] below meth c H locs cells slots Q (F0 m 374 ls []) := by
  obtain ⟨hx, hb, hr, hts, hown, hlocks, hml⟩ := id cx
  obtain ⟨da1, P1, e1, h1, hda⟩ := cu_rule hW hc (xs (6 * i + 1))
  refine lv_aload_n hx hb dL_law_374 rfl (lv_at hl 1 rfl) ?_
  refine lw_arg (j := 1) cx hX hbl hbA w.2.2.2.2.1 (by omega) hL hl rfl dL_law_375 dL_law_376 dL_law_377 dL_law_378 dL_law_379 ?_
  refine lc_i (cr_V (As := [.int (xs (6 * i + 1))]) (rest := []) cx (hcc_X8_rule l D cs t0 P P1 (da 0) (xs (6 * i + 1)) _ e1) kT9 hc.k0 (cwV 1 hts (uG uw_X8_rule ul_RL_40 ui_X8_rule us_RX8_X8_rule un_RX8) rfl rfl rfl ud_X8_rule ⟨Nat.le_of_ble_eq_true rfl, Nat.le_of_ble_eq_true rfl⟩) w rfl hl.1 rfl (Nat.le_of_ble_eq_true rfl) dL_law_380 ⟨by show cells + 51 ≤ 600000; omega, by show slots + 2746 ≤ 7302250; omega⟩) hm (fun H1 locs1 w hm => ?_)
  refine lv_aload_n hx hb dL_law_383 rfl (lv_at hl 2 rfl) ?_
  refine lw_arg (j := 1) cx hX hbl hbA w.2.2.2.2.1 (by omega) hL hl rfl dL_law_384 dL_law_385 dL_law_386 dL_law_387 dL_law_388 ?_
  obtain ⟨S1, e2, g2, hW2⟩ := mu_rule hW hM (xs (6 * i + 1))
  refine lm_i (As := [.int (xs (6 * i + 1))]) (rest := [.int (sRule Aa (xs (6 * i + 1))).1]) cx (cc_rule l D cs adm S S1 (xs (6 * i + 1)) _ e2) (cwV 1 hts (uG uw_X9_rule ul_RL_43 ui_X9_rule us_RX9_X9_rule un_RX9) rfl rfl rfl ud_X9_rule ⟨Nat.le_of_ble_eq_true rfl, Nat.le_of_ble_eq_true rfl⟩) w hm rfl hl.1 rfl (Nat.le_of_ble_eq_true rfl) dL_law_389 ⟨by show cells + 51 + 0 ≤ 600000; omega, by show slots + 2746 + 0 ≤ 7302250; omega⟩ (fun H2 locs2 w hm hz2 => ?_)
  refine lv_icmp_eq (tgt := 1373) hx hb dL_law_392 (by decide) (fun q => ?_) (fun q => ?_)
  · exact W.widen (k := cells + 1513) (n := slots + 96832) (by omega) (by omega) (next ((sRule Aa (xs (6 * i + 1))).2) _ _ _ _ _ hda w hm (h1.setZ hz2) g2 hW2)
  · exact absurd rfl q
set_option maxHeartbeats 4000000 in
set_option maxRecDepth 100000 in
theorem lk_7 (cx : mCx p s m #[Value.ref b] meth c RL code (Cond.classLink RL 7 RX8 :: wsL_law) 4 ty) (hX : va_X b L xs s s.heap) (hbl : b < s.heap.size) (hbA : ¬ A b) (hi : 6 * i + 6 ≤ L) (hL : L ≤ 384) (hf1 : cells + 1513 ≤ 600000) (hf2 : slots + 96832 ≤ 7302250) (hl : lv_has ls 4 [(0, .ref b), (1, .ref (da 0)), (2, .ref (adm 100)), (3, .int (nI (6 * i)))]) (w : cWd D cs t0 A s P H locs) (hm : mX D cs adm A S P H) (hc : CC t0 da Aa P) (hM : MM Aa S) (hW : WF Aa) (next : LNx p l e s m b below meth c cells slots Q ls D cs t0 A adm da) : W p l e room_1 s m #[Value.ref b] below meth c H locs cells slots Q (F0 m 397 ls []) := by
  obtain ⟨hx, hb, hr, hts, hown, hlocks, hml⟩ := id cx
  obtain ⟨P1, e1, h1⟩ := cu_judge hW hc (xs (6 * i + 1))
  have hda : da 0 = da 0 := rfl
  refine lv_aload_n hx hb dL_law_397 rfl (lv_at hl 1 rfl) ?_
  refine lw_arg (j := 1) cx hX hbl hbA w.2.2.2.2.1 (by omega) hL hl rfl dL_law_398 dL_law_399 dL_law_400 dL_law_401 dL_law_402 ?_
  refine lc_i (cr_V (As := [.int (xs (6 * i + 1))]) (rest := []) cx (hcc_X8_judge l D cs t0 P P1 (da 0) (xs (6 * i + 1)) _ e1) kT9 hc.k0 (cwV 1 hts (uG uw_X8_judge ul_RL_44 ui_X8_judge us_RX8_X8_judge un_RX8) rfl rfl rfl ud_X8_judge ⟨Nat.le_of_ble_eq_true rfl, Nat.le_of_ble_eq_true rfl⟩) w rfl hl.1 rfl (Nat.le_of_ble_eq_true rfl) dL_law_403 ⟨by show cells + 0 ≤ 600000; omega, by show slots + 0 ≤ 7302250; omega⟩) hm (fun H1 locs1 w hm => ?_)
  refine lv_aload_n hx hb dL_law_406 rfl (lv_at hl 2 rfl) ?_
  refine lw_arg (j := 1) cx hX hbl hbA w.2.2.2.2.1 (by omega) hL hl rfl dL_law_407 dL_law_408 dL_law_409 dL_law_410 dL_law_411 ?_
  obtain ⟨S1, e2, g2, hW2⟩ := mu_judge hW hM (xs (6 * i + 1))
  refine lm_i (As := [.int (xs (6 * i + 1))]) (rest := [.int (sJudge Aa (xs (6 * i + 1))).1]) cx (cc_judge l D cs adm S S1 (xs (6 * i + 1)) _ e2) (cwV 1 hts (uG uw_X9_judge ul_RL_47 ui_X9_judge us_RX9_X9_judge un_RX9) rfl rfl rfl ud_X9_judge ⟨Nat.le_of_ble_eq_true rfl, Nat.le_of_ble_eq_true rfl⟩) w hm rfl hl.1 rfl (Nat.le_of_ble_eq_true rfl) dL_law_412 ⟨by show cells + 0 + 0 ≤ 600000; omega, by show slots + 0 + 0 ≤ 7302250; omega⟩ (fun H2 locs2 w hm hz2 => ?_)
  refine lv_icmp_eq (tgt := 1373) hx hb dL_law_415 (by decide) (fun q => ?_) (fun q => ?_)
  · exact W.widen (k := cells + 1513) (n := slots + 96832) (by omega) (by omega) (next ((sJudge Aa (xs (6 * i + 1))).2) _ _ _ _ _ hda w hm (h1.setZ hz2) g2 hW2)
  · exact absurd rfl q
end LWC
