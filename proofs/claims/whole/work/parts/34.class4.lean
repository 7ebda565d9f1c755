def hm_X0_hears_120 (self : PS → Nat → Nat → Int32 → Int32 → Option (Int32 × PS)) (o0 : Nat) (o1 : Nat) (x2 : Int32) (x3 : Int32) (P : PS) : Option (Int32 × PS) := bd (hm_X8_kindAbove  P x2) (fun r_102 P_101 => bd (self P_101 o0 o1 r_102 x3) (fun r_105 P_104 => ck (kk P_101 o0 1) (some (r_105, P_104))))
def hmb_X0_hears (self : PS → Nat → Nat → Int32 → Int32 → Option (Int32 × PS)) (P : PS) (th : Nat) (a1 : Nat) (a2 : Int32) (a3 : Int32) : Option (Int32 × PS) := if a2 = (0 : Int32) then (bd (hm_X0_begin  P th (10 : Int32)) (fun _ P_209 => ck (kk P th 1) (ck (kk P_209 a1 8) (some ((a3 + (pI P_209 a1 0)), P_209))))) else (if a2 = (2 : Int32) then (bd (hm_X0_begin  P th (30 : Int32)) (fun _ P_215 => ck (kk P th 1) (bd (hm_X8_kindAbove  P_215 (2 : Int32)) (fun r_220 P_219 => bd (self P_219 th a1 r_220 (a3 * (3 : Int32))) (fun r_223 P_222 => ck (kk P_219 th 1) (some (r_223, P_222))))))) else (if a2 = (3 : Int32) then (bd (hm_X0_begin  P th (40 : Int32)) (fun _ P_227 => ck (kk P th 1) (bd (hm_X8_kindAbove  P_227 (3 : Int32)) (fun r_232 P_231 => bd (self P_231 th a1 r_232 a3) (fun r_235 P_234 => ck (kk P_231 th 1) (some ((-r_235), P_234))))))) else (if a2 = (6 : Int32) then (bd (hm_X0_begin  P th (71 : Int32)) (fun _ P_239 => ck (kk P th 1) (bd (hm_X8_kindAbove  P_239 (6 : Int32)) (fun r_244 P_243 => bd (self P_243 th a1 r_244 a3) (fun r_247 P_246 => ck (kk P_243 th 1) (ck (kk P_246 a1 8) (nn (pR P_246 a1 3) (fun b_251 => ck (kk P_246 b_251 3) (some ((r_247 ^^^ (pI P_246 b_251 0)), P_246)))))))))) else (hm_X0_hears_120 self  th a1 a2 a3 P))))
def hm_X0_hears : Nat → PS → Nat → Nat → Int32 → Int32 → Option (Int32 × PS)
  | 0 => fun _ _ _ _ _ => none
  | d + 1 => hmb_X0_hears (hm_X0_hears d)
abbrev wu_X0_hears : List Cond := .code yX0_hears cX0_hears 4 (some .int) :: wsL_law
theorem ud_X0_hears : yX0_hears.cls = RX0 ∧ yX0_hears.cls ≠ "java/lang/invoke/MethodHandle" ∧ yX0_hears.cls ≠ "java/lang/invoke/VarHandle" ∧ (parseMethodDescriptor yX0_hears.desc).map (fun d => d.parameters.length) = some 3 := by decide +kernel
def rmd_X0_hears (d : Nat) : Room := { frames := 1 + d, cells := 0, slots := 0, locals := 21 + d * 23 }
abbrev rmc_X0_hears : Room := rmd_X0_hears 8
theorem rm_X0_hears_X0_hears {d : Nat} : (rmd_X0_hears d).frames + 1 ≤ (rmd_X0_hears (d + 1)).frames := by unfold rmd_X0_hears; simp only; omega
theorem rl_X0_hears_X0_hears {d : Nat} : 8 + (4 + 11) + (rmd_X0_hears d).locals ≤ (rmd_X0_hears (d + 1)).locals := by unfold rmd_X0_hears; simp only; omega
set_option maxHeartbeats 4000000 in
set_option maxRecDepth 100000 in
theorem hcc_X0_hears (l : Launch) (D : va_G) (cs : Nat → ClassId) (t0 : TS) : ∀ (d : Nat) (P0 T : PS) (th : Nat) (a1 : Nat) (a2 : Int32) (a3 : Int32) (r0 : Int32) (h : hm_X0_hears d P0 th a1 a2 a3 = some (r0, T)), MetCI l yX0_hears wu_X0_hears (rmd_X0_hears d) D cs t0 [.ref th, .ref a1, .int a2, .int a3] P0 T r0 0 0 := by
  intro d
  induction d with
  | zero =>
    intro P0 T th a1 a2 a3 r0 h
    have h : none = some (r0, T) := h
    cases h
  | succ d hself =>
    intro P0 T th a1 a2 a3 r0 h
    have h : hmb_X0_hears (hm_X0_hears d) P0 th a1 a2 a3 = some (r0, T) := h
    generalize hm_X0_hears d = self at h hself
    refine co_start (own := RX0) (ty := (some .int)) (cc := cX0_hears) (maxL := 4) ⟨by decide, rfl⟩ rfl (Nat.le_of_ble_eq_true rfl) ?_
    intro p e s m args below meth c ls cx hnm hl w
    have hx := cx.1
    have hb := cx.2.1
    have hts := cx.2.2.2.1
    have hown := cx.2.2.2.2.1
    have hml := cx.2.2.2.2.2.2
    have hsub : ∀ w ∈ wsL_law, w ∈ wu_X0_hears := fun _ hq => List.mem_cons_of_mem _ hq
    have hl : lv_has ls 4 [(0, .ref th), (1, .ref a1), (2, .int a2), (3, .int a3)] := hl
    have J120 : ∀ (o0 : Nat) (o1 : Nat) (x2 : Int32) (x3 : Int32) (P : PS), hm_X0_hears_120 self  o0 o1 x2 x3 P = some (r0, T) → cGo p l e (rmd_X0_hears (d + 1)) s m args below meth c 4 D cs t0 (pA P0) (cQI below D cs P0 args s 0 0 r0 T) 0 0 120 [(0, .ref o0), (1, .ref o1), (2, .int x2), (3, .int x3)] [] P := by
      intro o0 o1 x2 x3 P h H locs ls hl w
      unfold hm_X0_hears_120 at h
      refine lv_aload_n hx hb dX0_hears_120 rfl (lv_at hl 0 rfl) ?_
      refine lv_aload_n hx hb dX0_hears_121 rfl (lv_at hl 1 rfl) ?_
      refine lv_iload_n hx hb dX0_hears_122 rfl (lv_at hl 2 rfl) ?_
      replace h := bd_e h
      obtain ⟨r_102, P_101, hc_103, h⟩ := h
      refine cc_i (cr_SN (As := [.int x2]) (rest := [.ref o1, .ref o0]) cx (hcc_X8_kindAbove l D cs t0  P P_101 x2 r_102 hc_103) ⟨va_cnB (host := "HeardWords") 1 hts (uGB uw_X8_kindAbove) rfl rfl rfl (w.2.2.2.2.2.2.1.2.1 ("HeardWords$Bodies", 25, yX8_kindAbove, "HeardWords") (by decide +kernel)) (hts _ (hsub _ un_RX8)) ud_X8_kindAbove.2 ⟨Nat.le_trans (Nat.le_of_ble_eq_true rfl) (Nat.le_add_right _ _), Nat.le_trans (Nat.le_of_ble_eq_true rfl) (Nat.le_add_right _ _)⟩, hts _ (hsub _ ut_X8_kindAbove), trivial⟩ w rfl hl.1 rfl (Nat.le_of_ble_eq_true rfl) dX0_hears_123 ⟨(Nat.le_of_ble_eq_true rfl), (Nat.le_of_ble_eq_true rfl)⟩) (fun H locs w => ?_)
      refine lv_iload_n hx hb dX0_hears_126 rfl (lv_at hl 3 rfl) ?_
      replace h := bd_e h
      obtain ⟨r_105, P_104, hc_106, h⟩ := h
      replace h := ck_e h
      obtain ⟨hk_107, h⟩ := h
      refine cc_i (cr_V (As := [.ref o1, .int r_102, .int x3]) (rest := []) cx (hself P_101 P_104 o0 o1 r_102 x3 r_105 hc_106) kT1 hk_107 (cwV 3 hts (uG uw_X0_hears ul_RX0_29 ui_X0_hears us_RX0_X0_hears un_RX0) rfl rfl rfl ud_X0_hears ⟨rm_X0_hears_X0_hears, rl_X0_hears_X0_hears⟩) w rfl hl.1 rfl (Nat.le_of_ble_eq_true rfl) dX0_hears_127 ⟨(Nat.le_of_ble_eq_true rfl), (Nat.le_of_ble_eq_true rfl)⟩) (fun H locs w => ?_)
      exact cw_iret cx (rt_e h) w dX0_hears_130
    have hP0 : P0 = P0 := rfl
    unfold hmb_X0_hears at h
    refine lv_iload_n hx hb dX0_hears_0 rfl (lv_at hl 2 rfl) ?_
    by_cases q_208 : a2 = (0 : Int32)
    · replace h := br_p q_208 h
      refine lv_tableIn (tgt := 44) hx hb dX0_hears_1 (by rw [q_208]; decide) (by rw [q_208]; decide) (by rw [q_208]; rfl) (by decide) ?_
      refine lv_aload_n hx hb dX0_hears_44 rfl (lv_at hl 0 rfl) ?_
      refine lv_bipush (v := (10 : Int32)) hx hb dX0_hears_45 (by decide) ?_
      replace h := bd_e h
      obtain ⟨r_210, P_209, hc_211, h⟩ := h
      replace h := ck_e h
      obtain ⟨hk_212, h⟩ := h
      refine cc_v (cr_V (As := [.int (10 : Int32)]) (rest := []) cx (hcc_X0_begin l D cs t0  P0 P_209 th (10 : Int32) r_210 hc_211) kT1 hk_212 (cwV 1 hts (uG uw_X0_begin ul_RX0_15 ui_X0_begin us_RX0_X0_begin un_RX0) rfl rfl rfl ud_X0_begin ⟨Nat.le_trans (Nat.le_of_ble_eq_true rfl) (Nat.le_add_right _ _), Nat.le_trans (Nat.le_of_ble_eq_true rfl) (Nat.le_add_right _ _)⟩) w rfl hl.1 rfl (Nat.le_of_ble_eq_true rfl) dX0_hears_47 ⟨(Nat.le_of_ble_eq_true rfl), (Nat.le_of_ble_eq_true rfl)⟩) (fun H locs w => ?_)
      refine lv_iload_n hx hb dX0_hears_50 rfl (lv_at hl 3 rfl) ?_
      refine lv_aload_n hx hb dX0_hears_51 rfl (lv_at hl 1 rfl) ?_
      replace h := ck_e h
      obtain ⟨hk_213, h⟩ := h
      refine cw_getI cx hsub w kT8 hk_213 0 (by decide) ⟨hsub _ uf_RX0_19, Or.inl rfl⟩ dX0_hears_52 ?_
      refine lv_iadd hx hb dX0_hears_55 ?_
      exact cw_iret cx (rt_e h) w dX0_hears_56
    replace h := br_n q_208 h
    by_cases q_214 : a2 = (2 : Int32)
    · replace h := br_p q_214 h
      refine lv_tableIn (tgt := 57) hx hb dX0_hears_1 (by rw [q_214]; decide) (by rw [q_214]; decide) (by rw [q_214]; rfl) (by decide) ?_
      refine lv_aload_n hx hb dX0_hears_57 rfl (lv_at hl 0 rfl) ?_
      refine lv_bipush (v := (30 : Int32)) hx hb dX0_hears_58 (by decide) ?_
      replace h := bd_e h
      obtain ⟨r_216, P_215, hc_217, h⟩ := h
      replace h := ck_e h
      obtain ⟨hk_218, h⟩ := h
      refine cc_v (cr_V (As := [.int (30 : Int32)]) (rest := []) cx (hcc_X0_begin l D cs t0  P0 P_215 th (30 : Int32) r_216 hc_217) kT1 hk_218 (cwV 1 hts (uG uw_X0_begin ul_RX0_15 ui_X0_begin us_RX0_X0_begin un_RX0) rfl rfl rfl ud_X0_begin ⟨Nat.le_trans (Nat.le_of_ble_eq_true rfl) (Nat.le_add_right _ _), Nat.le_trans (Nat.le_of_ble_eq_true rfl) (Nat.le_add_right _ _)⟩) w rfl hl.1 rfl (Nat.le_of_ble_eq_true rfl) dX0_hears_60 ⟨(Nat.le_of_ble_eq_true rfl), (Nat.le_of_ble_eq_true rfl)⟩) (fun H locs w => ?_)
      refine lv_aload_n hx hb dX0_hears_63 rfl (lv_at hl 0 rfl) ?_
      refine lv_aload_n hx hb dX0_hears_64 rfl (lv_at hl 1 rfl) ?_
      refine lv_iconst (v := (2 : Int32)) hx hb dX0_hears_65 (by decide) ?_
      replace h := bd_e h
      obtain ⟨r_220, P_219, hc_221, h⟩ := h
      refine cc_i (cr_SN (As := [.int (2 : Int32)]) (rest := [.ref a1, .ref th]) cx (hcc_X8_kindAbove l D cs t0  P_215 P_219 (2 : Int32) r_220 hc_221) ⟨va_cnB (host := "HeardWords") 1 hts (uGB uw_X8_kindAbove) rfl rfl rfl (w.2.2.2.2.2.2.1.2.1 ("HeardWords$Bodies", 25, yX8_kindAbove, "HeardWords") (by decide +kernel)) (hts _ (hsub _ un_RX8)) ud_X8_kindAbove.2 ⟨Nat.le_trans (Nat.le_of_ble_eq_true rfl) (Nat.le_add_right _ _), Nat.le_trans (Nat.le_of_ble_eq_true rfl) (Nat.le_add_right _ _)⟩, hts _ (hsub _ ut_X8_kindAbove), trivial⟩ w rfl hl.1 rfl (Nat.le_of_ble_eq_true rfl) dX0_hears_66 ⟨(Nat.le_of_ble_eq_true rfl), (Nat.le_of_ble_eq_true rfl)⟩) (fun H locs w => ?_)
      refine lv_iload_n hx hb dX0_hears_69 rfl (lv_at hl 3 rfl) ?_
      refine lv_iconst (v := (3 : Int32)) hx hb dX0_hears_70 (by decide) ?_
      refine lv_imul hx hb dX0_hears_71 ?_
      replace h := bd_e h
      obtain ⟨r_223, P_222, hc_224, h⟩ := h
      replace h := ck_e h
      obtain ⟨hk_225, h⟩ := h
      refine cc_i (cr_V (As := [.ref a1, .int r_220, .int (a3 * (3 : Int32))]) (rest := []) cx (hself P_219 P_222 th a1 r_220 (a3 * (3 : Int32)) r_223 hc_224) kT1 hk_225 (cwV 3 hts (uG uw_X0_hears ul_RX0_29 ui_X0_hears us_RX0_X0_hears un_RX0) rfl rfl rfl ud_X0_hears ⟨rm_X0_hears_X0_hears, rl_X0_hears_X0_hears⟩) w rfl hl.1 rfl (Nat.le_of_ble_eq_true rfl) dX0_hears_72 ⟨(Nat.le_of_ble_eq_true rfl), (Nat.le_of_ble_eq_true rfl)⟩) (fun H locs w => ?_)
      exact cw_iret cx (rt_e h) w dX0_hears_75
    replace h := br_n q_214 h
    by_cases q_226 : a2 = (3 : Int32)
    · replace h := br_p q_226 h
      refine lv_tableIn (tgt := 76) hx hb dX0_hears_1 (by rw [q_226]; decide) (by rw [q_226]; decide) (by rw [q_226]; rfl) (by decide) ?_
      refine lv_aload_n hx hb dX0_hears_76 rfl (lv_at hl 0 rfl) ?_
      refine lv_bipush (v := (40 : Int32)) hx hb dX0_hears_77 (by decide) ?_
      replace h := bd_e h
      obtain ⟨r_228, P_227, hc_229, h⟩ := h
      replace h := ck_e h
      obtain ⟨hk_230, h⟩ := h
      refine cc_v (cr_V (As := [.int (40 : Int32)]) (rest := []) cx (hcc_X0_begin l D cs t0  P0 P_227 th (40 : Int32) r_228 hc_229) kT1 hk_230 (cwV 1 hts (uG uw_X0_begin ul_RX0_15 ui_X0_begin us_RX0_X0_begin un_RX0) rfl rfl rfl ud_X0_begin ⟨Nat.le_trans (Nat.le_of_ble_eq_true rfl) (Nat.le_add_right _ _), Nat.le_trans (Nat.le_of_ble_eq_true rfl) (Nat.le_add_right _ _)⟩) w rfl hl.1 rfl (Nat.le_of_ble_eq_true rfl) dX0_hears_79 ⟨(Nat.le_of_ble_eq_true rfl), (Nat.le_of_ble_eq_true rfl)⟩) (fun H locs w => ?_)
      refine lv_aload_n hx hb dX0_hears_82 rfl (lv_at hl 0 rfl) ?_
      refine lv_aload_n hx hb dX0_hears_83 rfl (lv_at hl 1 rfl) ?_
      refine lv_iconst (v := (3 : Int32)) hx hb dX0_hears_84 (by decide) ?_
      replace h := bd_e h
      obtain ⟨r_232, P_231, hc_233, h⟩ := h
      refine cc_i (cr_SN (As := [.int (3 : Int32)]) (rest := [.ref a1, .ref th]) cx (hcc_X8_kindAbove l D cs t0  P_227 P_231 (3 : Int32) r_232 hc_233) ⟨va_cnB (host := "HeardWords") 1 hts (uGB uw_X8_kindAbove) rfl rfl rfl (w.2.2.2.2.2.2.1.2.1 ("HeardWords$Bodies", 25, yX8_kindAbove, "HeardWords") (by decide +kernel)) (hts _ (hsub _ un_RX8)) ud_X8_kindAbove.2 ⟨Nat.le_trans (Nat.le_of_ble_eq_true rfl) (Nat.le_add_right _ _), Nat.le_trans (Nat.le_of_ble_eq_true rfl) (Nat.le_add_right _ _)⟩, hts _ (hsub _ ut_X8_kindAbove), trivial⟩ w rfl hl.1 rfl (Nat.le_of_ble_eq_true rfl) dX0_hears_85 ⟨(Nat.le_of_ble_eq_true rfl), (Nat.le_of_ble_eq_true rfl)⟩) (fun H locs w => ?_)
      refine lv_iload_n hx hb dX0_hears_88 rfl (lv_at hl 3 rfl) ?_
      replace h := bd_e h
      obtain ⟨r_235, P_234, hc_236, h⟩ := h
      replace h := ck_e h
      obtain ⟨hk_237, h⟩ := h
      refine cc_i (cr_V (As := [.ref a1, .int r_232, .int a3]) (rest := []) cx (hself P_231 P_234 th a1 r_232 a3 r_235 hc_236) kT1 hk_237 (cwV 3 hts (uG uw_X0_hears ul_RX0_29 ui_X0_hears us_RX0_X0_hears un_RX0) rfl rfl rfl ud_X0_hears ⟨rm_X0_hears_X0_hears, rl_X0_hears_X0_hears⟩) w rfl hl.1 rfl (Nat.le_of_ble_eq_true rfl) dX0_hears_89 ⟨(Nat.le_of_ble_eq_true rfl), (Nat.le_of_ble_eq_true rfl)⟩) (fun H locs w => ?_)
      refine lv_ineg hx hb dX0_hears_92 ?_
      exact cw_iret cx (rt_e h) w dX0_hears_93
    replace h := br_n q_226 h
    by_cases q_238 : a2 = (6 : Int32)
    · replace h := br_p q_238 h
      refine lv_tableIn (tgt := 94) hx hb dX0_hears_1 (by rw [q_238]; decide) (by rw [q_238]; decide) (by rw [q_238]; rfl) (by decide) ?_
      refine lv_aload_n hx hb dX0_hears_94 rfl (lv_at hl 0 rfl) ?_
      refine lv_bipush (v := (71 : Int32)) hx hb dX0_hears_95 (by decide) ?_
      replace h := bd_e h
      obtain ⟨r_240, P_239, hc_241, h⟩ := h
      replace h := ck_e h
      obtain ⟨hk_242, h⟩ := h
      refine cc_v (cr_V (As := [.int (71 : Int32)]) (rest := []) cx (hcc_X0_begin l D cs t0  P0 P_239 th (71 : Int32) r_240 hc_241) kT1 hk_242 (cwV 1 hts (uG uw_X0_begin ul_RX0_15 ui_X0_begin us_RX0_X0_begin un_RX0) rfl rfl rfl ud_X0_begin ⟨Nat.le_trans (Nat.le_of_ble_eq_true rfl) (Nat.le_add_right _ _), Nat.le_trans (Nat.le_of_ble_eq_true rfl) (Nat.le_add_right _ _)⟩) w rfl hl.1 rfl (Nat.le_of_ble_eq_true rfl) dX0_hears_97 ⟨(Nat.le_of_ble_eq_true rfl), (Nat.le_of_ble_eq_true rfl)⟩) (fun H locs w => ?_)
      refine lv_aload_n hx hb dX0_hears_100 rfl (lv_at hl 0 rfl) ?_
      refine lv_aload_n hx hb dX0_hears_101 rfl (lv_at hl 1 rfl) ?_
      refine lv_bipush (v := (6 : Int32)) hx hb dX0_hears_102 (by decide) ?_
      replace h := bd_e h
      obtain ⟨r_244, P_243, hc_245, h⟩ := h
      refine cc_i (cr_SN (As := [.int (6 : Int32)]) (rest := [.ref a1, .ref th]) cx (hcc_X8_kindAbove l D cs t0  P_239 P_243 (6 : Int32) r_244 hc_245) ⟨va_cnB (host := "HeardWords") 1 hts (uGB uw_X8_kindAbove) rfl rfl rfl (w.2.2.2.2.2.2.1.2.1 ("HeardWords$Bodies", 25, yX8_kindAbove, "HeardWords") (by decide +kernel)) (hts _ (hsub _ un_RX8)) ud_X8_kindAbove.2 ⟨Nat.le_trans (Nat.le_of_ble_eq_true rfl) (Nat.le_add_right _ _), Nat.le_trans (Nat.le_of_ble_eq_true rfl) (Nat.le_add_right _ _)⟩, hts _ (hsub _ ut_X8_kindAbove), trivial⟩ w rfl hl.1 rfl (Nat.le_of_ble_eq_true rfl) dX0_hears_104 ⟨(Nat.le_of_ble_eq_true rfl), (Nat.le_of_ble_eq_true rfl)⟩) (fun H locs w => ?_)
      refine lv_iload_n hx hb dX0_hears_107 rfl (lv_at hl 3 rfl) ?_
      replace h := bd_e h
      obtain ⟨r_247, P_246, hc_248, h⟩ := h
      replace h := ck_e h
      obtain ⟨hk_249, h⟩ := h
      refine cc_i (cr_V (As := [.ref a1, .int r_244, .int a3]) (rest := []) cx (hself P_243 P_246 th a1 r_244 a3 r_247 hc_248) kT1 hk_249 (cwV 3 hts (uG uw_X0_hears ul_RX0_29 ui_X0_hears us_RX0_X0_hears un_RX0) rfl rfl rfl ud_X0_hears ⟨rm_X0_hears_X0_hears, rl_X0_hears_X0_hears⟩) w rfl hl.1 rfl (Nat.le_of_ble_eq_true rfl) dX0_hears_108 ⟨(Nat.le_of_ble_eq_true rfl), (Nat.le_of_ble_eq_true rfl)⟩) (fun H locs w => ?_)
      refine lv_aload_n hx hb dX0_hears_111 rfl (lv_at hl 1 rfl) ?_
      replace h := ck_e h
      obtain ⟨hk_250, h⟩ := h
      replace h := nn_e h
      obtain ⟨b_251, hbb_251, h⟩ := h
      refine cw_getS cx hsub w kT8 hk_250 3 (by decide) hbb_251 ⟨hsub _ uf_RX0_33, Or.inl rfl⟩ dX0_hears_112 ?_
      replace h := ck_e h
      obtain ⟨hk_252, h⟩ := h
      refine cw_getI cx hsub w kT3 hk_252 0 (by decide) ⟨hsub _ uf_RX0_37, Or.inl rfl⟩ dX0_hears_115 ?_
      refine lv_ixor hx hb dX0_hears_118 ?_
      exact cw_iret cx (rt_e h) w dX0_hears_119
    replace h := br_n q_238 h
    refine lv_tableH (tgt := 120) hx hb dX0_hears_1 (by by_cases q_253 : a2 = (1 : Int32); exact Or.inr ⟨by rw [q_253]; decide, by rw [q_253]; decide, by rw [q_253]; rfl⟩; by_cases q_254 : a2 = (4 : Int32); exact Or.inr ⟨by rw [q_254]; decide, by rw [q_254]; decide, by rw [q_254]; rfl⟩; by_cases q_255 : a2 = (5 : Int32); exact Or.inr ⟨by rw [q_255]; decide, by rw [q_255]; decide, by rw [q_255]; rfl⟩; exact Or.inl (by have := lv_neT q_208 (a := 0) (by decide); have := lv_neT q_214 (a := 2) (by decide); have := lv_neT q_226 (a := 3) (by decide); have := lv_neT q_238 (a := 6) (by decide); have := lv_neT q_253 (a := 1) (by decide); have := lv_neT q_254 (a := 4) (by decide); have := lv_neT q_255 (a := 5) (by decide); omega)) (by decide) ?_
    exact J120  th a1 a2 a3 P0 h _ _ _ (lv_sub hl [0, 1, 2, 3] rfl) w
def hmb_X0_keeps (self : PS → Nat → Nat → Int32 → Int32 → Option (Int32 × PS)) (P : PS) (th : Nat) (a1 : Nat) (a2 : Int32) (a3 : Int32) : Option (Int32 × PS) := if a2 = (0 : Int32) then (bd (hm_X0_begin  P th (11 : Int32)) (fun _ P_102 => ck (kk P th 1) (ck (kk P_102 a1 8) (bd (hm_X0_hears 8  P_102 th a1 (pI P_102 a1 1) a3) (fun r_108 P_107 => ck (kk P_102 th 1) (ck (kk P_107 a1 8) (nn (pR P_107 a1 3) (fun b_112 => ck (kk P_107 b_112 3) (some ((r_108 - (pI P_107 b_112 0)), P_107)))))))))) else (if a2 = (1 : Int32) then (bd (hm_X0_begin  P th (20 : Int32)) (fun _ P_115 => ck (kk P th 1) (bd (hm_X8_kindAbove  P_115 (1 : Int32)) (fun r_120 P_119 => bd (self P_119 th a1 r_120 a3) (fun r_123 P_122 => ck (kk P_119 th 1) (some ((r_123 ^^^ (5 : Int32)), P_122))))))) else (if a2 = (5 : Int32) then (bd (hm_X0_begin  P th (60 : Int32)) (fun _ P_127 => ck (kk P th 1) (bd (hm_X8_kindAbove  P_127 (5 : Int32)) (fun r_132 P_131 => bd (self P_131 th a1 r_132 a3) (fun r_135 P_134 => ck (kk P_131 th 1) (bd (hm_X8_kindAbove  P_134 (5 : Int32)) (fun r_139 P_138 => bd (hm_X0_hears 8  P_138 th a1 r_139 (2 : Int32)) (fun r_142 P_141 => ck (kk P_138 th 1) (some ((r_135 + r_142), P_141)))))))))) else (bd (hm_X8_kindAbove  P a2) (fun r_146 P_145 => bd (self P_145 th a1 r_146 a3) (fun r_149 P_148 => ck (kk P_145 th 1) (some (r_149, P_148)))))))
def hm_X0_keeps : Nat → PS → Nat → Nat → Int32 → Int32 → Option (Int32 × PS)
  | 0 => fun _ _ _ _ _ => none
  | d + 1 => hmb_X0_keeps (hm_X0_keeps d)
abbrev wu_X0_keeps : List Cond := .code yX0_keeps cX0_keeps 4 (some .int) :: wsL_law
theorem ud_X0_keeps : yX0_keeps.cls = RX0 ∧ yX0_keeps.cls ≠ "java/lang/invoke/MethodHandle" ∧ yX0_keeps.cls ≠ "java/lang/invoke/VarHandle" ∧ (parseMethodDescriptor yX0_keeps.desc).map (fun d => d.parameters.length) = some 3 := by decide +kernel
def rmd_X0_keeps (d : Nat) : Room := { frames := 10 + d, cells := 0, slots := 0, locals := 228 + d * 23 }
abbrev rmc_X0_keeps : Room := rmd_X0_keeps 8
theorem rm_X0_keeps_X0_keeps {d : Nat} : (rmd_X0_keeps d).frames + 1 ≤ (rmd_X0_keeps (d + 1)).frames := by unfold rmd_X0_keeps; simp only; omega
theorem rl_X0_keeps_X0_keeps {d : Nat} : 8 + (4 + 11) + (rmd_X0_keeps d).locals ≤ (rmd_X0_keeps (d + 1)).locals := by unfold rmd_X0_keeps; simp only; omega
set_option maxHeartbeats 4000000 in
set_option maxRecDepth 100000 in
theorem hcc_X0_keeps (l : Launch) (D : va_G) (cs : Nat → ClassId) (t0 : TS) : ∀ (d : Nat) (P0 T : PS) (th : Nat) (a1 : Nat) (a2 : Int32) (a3 : Int32) (r0 : Int32) (h : hm_X0_keeps d P0 th a1 a2 a3 = some (r0, T)), MetCI l yX0_keeps wu_X0_keeps (rmd_X0_keeps d) D cs t0 [.ref th, .ref a1, .int a2, .int a3] P0 T r0 0 0 := by
  intro d
  induction d with
  | zero =>
    intro P0 T th a1 a2 a3 r0 h
    have h : none = some (r0, T) := h
    cases h
  | succ d hself =>
    intro P0 T th a1 a2 a3 r0 h
    have h : hmb_X0_keeps (hm_X0_keeps d) P0 th a1 a2 a3 = some (r0, T) := h
    generalize hm_X0_keeps d = self at h hself
    refine co_start (own := RX0) (ty := (some .int)) (cc := cX0_keeps) (maxL := 4) ⟨by decide, rfl⟩ rfl (Nat.le_of_ble_eq_true rfl) ?_
    intro p e s m args below meth c ls cx hnm hl w
    have hx := cx.1
    have hb := cx.2.1
    have hts := cx.2.2.2.1
    have hown := cx.2.2.2.2.1
    have hml := cx.2.2.2.2.2.2
    have hsub : ∀ w ∈ wsL_law, w ∈ wu_X0_keeps := fun _ hq => List.mem_cons_of_mem _ hq
    have hl : lv_has ls 4 [(0, .ref th), (1, .ref a1), (2, .int a2), (3, .int a3)] := hl
    have hP0 : P0 = P0 := rfl
    unfold hmb_X0_keeps at h
    refine lv_iload_n hx hb dX0_keeps_0 rfl (lv_at hl 2 rfl) ?_
    by_cases q_101 : a2 = (0 : Int32)
    · replace h := br_p q_101 h
      refine lv_lookup (tgt := 36) (off := 35) hx hb dX0_keeps_1 (by decide) (by rw [q_101] <;> rfl) (by decide) ?_
      refine lv_aload_n hx hb dX0_keeps_36 rfl (lv_at hl 0 rfl) ?_
      refine lv_bipush (v := (11 : Int32)) hx hb dX0_keeps_37 (by decide) ?_
      replace h := bd_e h
      obtain ⟨r_103, P_102, hc_104, h⟩ := h
      replace h := ck_e h
      obtain ⟨hk_105, h⟩ := h
      refine cc_v (cr_V (As := [.int (11 : Int32)]) (rest := []) cx (hcc_X0_begin l D cs t0  P0 P_102 th (11 : Int32) r_103 hc_104) kT1 hk_105 (cwV 1 hts (uG uw_X0_begin ul_RX0_15 ui_X0_begin us_RX0_X0_begin un_RX0) rfl rfl rfl ud_X0_begin ⟨Nat.le_trans (Nat.le_of_ble_eq_true rfl) (Nat.le_add_right _ _), Nat.le_trans (Nat.le_of_ble_eq_true rfl) (Nat.le_add_right _ _)⟩) w rfl hl.1 rfl (Nat.le_of_ble_eq_true rfl) dX0_keeps_39 ⟨(Nat.le_of_ble_eq_true rfl), (Nat.le_of_ble_eq_true rfl)⟩) (fun H locs w => ?_)
      refine lv_aload_n hx hb dX0_keeps_42 rfl (lv_at hl 0 rfl) ?_
      refine lv_aload_n hx hb dX0_keeps_43 rfl (lv_at hl 1 rfl) ?_
      refine lv_aload_n hx hb dX0_keeps_44 rfl (lv_at hl 1 rfl) ?_
      replace h := ck_e h
      obtain ⟨hk_106, h⟩ := h
      refine cw_getI cx hsub w kT8 hk_106 1 (by decide) ⟨hsub _ uf_RX0_40, Or.inl rfl⟩ dX0_keeps_45 ?_
      refine lv_iload_n hx hb dX0_keeps_48 rfl (lv_at hl 3 rfl) ?_
      replace h := bd_e h
      obtain ⟨r_108, P_107, hc_109, h⟩ := h
      replace h := ck_e h
      obtain ⟨hk_110, h⟩ := h
      refine cc_i (cr_V (As := [.ref a1, .int (pI P_102 a1 1), .int a3]) (rest := []) cx (hcc_X0_hears l D cs t0 8  P_102 P_107 th a1 (pI P_102 a1 1) a3 r_108 hc_109) kT1 hk_110 (cwV 3 hts (uG uw_X0_hears ul_RX0_29 ui_X0_hears us_RX0_X0_hears un_RX0) rfl rfl rfl ud_X0_hears ⟨Nat.le_trans (Nat.le_of_ble_eq_true rfl) (Nat.le_add_right _ _), Nat.le_trans (Nat.le_of_ble_eq_true rfl) (Nat.le_add_right _ _)⟩) w rfl hl.1 rfl (Nat.le_of_ble_eq_true rfl) dX0_keeps_49 ⟨(Nat.le_of_ble_eq_true rfl), (Nat.le_of_ble_eq_true rfl)⟩) (fun H locs w => ?_)
      refine lv_aload_n hx hb dX0_keeps_52 rfl (lv_at hl 1 rfl) ?_
      replace h := ck_e h
      obtain ⟨hk_111, h⟩ := h
      replace h := nn_e h
      obtain ⟨b_112, hbb_112, h⟩ := h
      refine cw_getS cx hsub w kT8 hk_111 3 (by decide) hbb_112 ⟨hsub _ uf_RX0_33, Or.inl rfl⟩ dX0_keeps_53 ?_
      replace h := ck_e h
      obtain ⟨hk_113, h⟩ := h
      refine cw_getI cx hsub w kT3 hk_113 0 (by decide) ⟨hsub _ uf_RX0_37, Or.inl rfl⟩ dX0_keeps_56 ?_
      refine lv_isub hx hb dX0_keeps_59 ?_
      exact cw_iret cx (rt_e h) w dX0_keeps_60
    replace h := br_n q_101 h
    by_cases q_114 : a2 = (1 : Int32)
    · replace h := br_p q_114 h
      refine lv_lookup (tgt := 61) (off := 60) hx hb dX0_keeps_1 (by decide) (by rw [q_114] <;> rfl) (by decide) ?_
      refine lv_aload_n hx hb dX0_keeps_61 rfl (lv_at hl 0 rfl) ?_
      refine lv_bipush (v := (20 : Int32)) hx hb dX0_keeps_62 (by decide) ?_
      replace h := bd_e h
      obtain ⟨r_116, P_115, hc_117, h⟩ := h
      replace h := ck_e h
      obtain ⟨hk_118, h⟩ := h
      refine cc_v (cr_V (As := [.int (20 : Int32)]) (rest := []) cx (hcc_X0_begin l D cs t0  P0 P_115 th (20 : Int32) r_116 hc_117) kT1 hk_118 (cwV 1 hts (uG uw_X0_begin ul_RX0_15 ui_X0_begin us_RX0_X0_begin un_RX0) rfl rfl rfl ud_X0_begin ⟨Nat.le_trans (Nat.le_of_ble_eq_true rfl) (Nat.le_add_right _ _), Nat.le_trans (Nat.le_of_ble_eq_true rfl) (Nat.le_add_right _ _)⟩) w rfl hl.1 rfl (Nat.le_of_ble_eq_true rfl) dX0_keeps_64 ⟨(Nat.le_of_ble_eq_true rfl), (Nat.le_of_ble_eq_true rfl)⟩) (fun H locs w => ?_)
      refine lv_aload_n hx hb dX0_keeps_67 rfl (lv_at hl 0 rfl) ?_
      refine lv_aload_n hx hb dX0_keeps_68 rfl (lv_at hl 1 rfl) ?_
      refine lv_iconst (v := (1 : Int32)) hx hb dX0_keeps_69 (by decide) ?_
      replace h := bd_e h
      obtain ⟨r_120, P_119, hc_121, h⟩ := h
      refine cc_i (cr_SN (As := [.int (1 : Int32)]) (rest := [.ref a1, .ref th]) cx (hcc_X8_kindAbove l D cs t0  P_115 P_119 (1 : Int32) r_120 hc_121) ⟨va_cnB (host := "HeardWords") 1 hts (uGB uw_X8_kindAbove) rfl rfl rfl (w.2.2.2.2.2.2.1.2.1 ("HeardWords$Bodies", 25, yX8_kindAbove, "HeardWords") (by decide +kernel)) (hts _ (hsub _ un_RX8)) ud_X8_kindAbove.2 ⟨Nat.le_trans (Nat.le_of_ble_eq_true rfl) (Nat.le_add_right _ _), Nat.le_trans (Nat.le_of_ble_eq_true rfl) (Nat.le_add_right _ _)⟩, hts _ (hsub _ ut_X8_kindAbove), trivial⟩ w rfl hl.1 rfl (Nat.le_of_ble_eq_true rfl) dX0_keeps_70 ⟨(Nat.le_of_ble_eq_true rfl), (Nat.le_of_ble_eq_true rfl)⟩) (fun H locs w => ?_)
      refine lv_iload_n hx hb dX0_keeps_73 rfl (lv_at hl 3 rfl) ?_
      replace h := bd_e h
      obtain ⟨r_123, P_122, hc_124, h⟩ := h
      replace h := ck_e h
      obtain ⟨hk_125, h⟩ := h
      refine cc_i (cr_V (As := [.ref a1, .int r_120, .int a3]) (rest := []) cx (hself P_119 P_122 th a1 r_120 a3 r_123 hc_124) kT1 hk_125 (cwV 3 hts (uG uw_X0_keeps ul_RX0_43 ui_X0_keeps us_RX0_X0_keeps un_RX0) rfl rfl rfl ud_X0_keeps ⟨rm_X0_keeps_X0_keeps, rl_X0_keeps_X0_keeps⟩) w rfl hl.1 rfl (Nat.le_of_ble_eq_true rfl) dX0_keeps_74 ⟨(Nat.le_of_ble_eq_true rfl), (Nat.le_of_ble_eq_true rfl)⟩) (fun H locs w => ?_)
      refine lv_iconst (v := (5 : Int32)) hx hb dX0_keeps_77 (by decide) ?_
      refine lv_ixor hx hb dX0_keeps_78 ?_
      exact cw_iret cx (rt_e h) w dX0_keeps_79
    replace h := br_n q_114 h
    by_cases q_126 : a2 = (5 : Int32)
    · replace h := br_p q_126 h
      refine lv_lookup (tgt := 80) (off := 79) hx hb dX0_keeps_1 (by decide) (by rw [q_126] <;> rfl) (by decide) ?_
      refine lv_aload_n hx hb dX0_keeps_80 rfl (lv_at hl 0 rfl) ?_
      refine lv_bipush (v := (60 : Int32)) hx hb dX0_keeps_81 (by decide) ?_
      replace h := bd_e h
      obtain ⟨r_128, P_127, hc_129, h⟩ := h
      replace h := ck_e h
      obtain ⟨hk_130, h⟩ := h
      refine cc_v (cr_V (As := [.int (60 : Int32)]) (rest := []) cx (hcc_X0_begin l D cs t0  P0 P_127 th (60 : Int32) r_128 hc_129) kT1 hk_130 (cwV 1 hts (uG uw_X0_begin ul_RX0_15 ui_X0_begin us_RX0_X0_begin un_RX0) rfl rfl rfl ud_X0_begin ⟨Nat.le_trans (Nat.le_of_ble_eq_true rfl) (Nat.le_add_right _ _), Nat.le_trans (Nat.le_of_ble_eq_true rfl) (Nat.le_add_right _ _)⟩) w rfl hl.1 rfl (Nat.le_of_ble_eq_true rfl) dX0_keeps_83 ⟨(Nat.le_of_ble_eq_true rfl), (Nat.le_of_ble_eq_true rfl)⟩) (fun H locs w => ?_)
      refine lv_aload_n hx hb dX0_keeps_86 rfl (lv_at hl 0 rfl) ?_
      refine lv_aload_n hx hb dX0_keeps_87 rfl (lv_at hl 1 rfl) ?_
      refine lv_iconst (v := (5 : Int32)) hx hb dX0_keeps_88 (by decide) ?_
      replace h := bd_e h
      obtain ⟨r_132, P_131, hc_133, h⟩ := h
      refine cc_i (cr_SN (As := [.int (5 : Int32)]) (rest := [.ref a1, .ref th]) cx (hcc_X8_kindAbove l D cs t0  P_127 P_131 (5 : Int32) r_132 hc_133) ⟨va_cnB (host := "HeardWords") 1 hts (uGB uw_X8_kindAbove) rfl rfl rfl (w.2.2.2.2.2.2.1.2.1 ("HeardWords$Bodies", 25, yX8_kindAbove, "HeardWords") (by decide +kernel)) (hts _ (hsub _ un_RX8)) ud_X8_kindAbove.2 ⟨Nat.le_trans (Nat.le_of_ble_eq_true rfl) (Nat.le_add_right _ _), Nat.le_trans (Nat.le_of_ble_eq_true rfl) (Nat.le_add_right _ _)⟩, hts _ (hsub _ ut_X8_kindAbove), trivial⟩ w rfl hl.1 rfl (Nat.le_of_ble_eq_true rfl) dX0_keeps_89 ⟨(Nat.le_of_ble_eq_true rfl), (Nat.le_of_ble_eq_true rfl)⟩) (fun H locs w => ?_)
      refine lv_iload_n hx hb dX0_keeps_92 rfl (lv_at hl 3 rfl) ?_
      replace h := bd_e h
      obtain ⟨r_135, P_134, hc_136, h⟩ := h
      replace h := ck_e h
      obtain ⟨hk_137, h⟩ := h
      refine cc_i (cr_V (As := [.ref a1, .int r_132, .int a3]) (rest := []) cx (hself P_131 P_134 th a1 r_132 a3 r_135 hc_136) kT1 hk_137 (cwV 3 hts (uG uw_X0_keeps ul_RX0_43 ui_X0_keeps us_RX0_X0_keeps un_RX0) rfl rfl rfl ud_X0_keeps ⟨rm_X0_keeps_X0_keeps, rl_X0_keeps_X0_keeps⟩) w rfl hl.1 rfl (Nat.le_of_ble_eq_true rfl) dX0_keeps_93 ⟨(Nat.le_of_ble_eq_true rfl), (Nat.le_of_ble_eq_true rfl)⟩) (fun H locs w => ?_)
      refine lv_aload_n hx hb dX0_keeps_96 rfl (lv_at hl 0 rfl) ?_
      refine lv_aload_n hx hb dX0_keeps_97 rfl (lv_at hl 1 rfl) ?_
      refine lv_iconst (v := (5 : Int32)) hx hb dX0_keeps_98 (by decide) ?_
      replace h := bd_e h
      obtain ⟨r_139, P_138, hc_140, h⟩ := h
      refine cc_i (cr_SN (As := [.int (5 : Int32)]) (rest := [.ref a1, .ref th, .int r_135]) cx (hcc_X8_kindAbove l D cs t0  P_134 P_138 (5 : Int32) r_139 hc_140) ⟨va_cnB (host := "HeardWords") 1 hts (uGB uw_X8_kindAbove) rfl rfl rfl (w.2.2.2.2.2.2.1.2.1 ("HeardWords$Bodies", 25, yX8_kindAbove, "HeardWords") (by decide +kernel)) (hts _ (hsub _ un_RX8)) ud_X8_kindAbove.2 ⟨Nat.le_trans (Nat.le_of_ble_eq_true rfl) (Nat.le_add_right _ _), Nat.le_trans (Nat.le_of_ble_eq_true rfl) (Nat.le_add_right _ _)⟩, hts _ (hsub _ ut_X8_kindAbove), trivial⟩ w rfl hl.1 rfl (Nat.le_of_ble_eq_true rfl) dX0_keeps_99 ⟨(Nat.le_of_ble_eq_true rfl), (Nat.le_of_ble_eq_true rfl)⟩) (fun H locs w => ?_)
      refine lv_iconst (v := (2 : Int32)) hx hb dX0_keeps_102 (by decide) ?_
      replace h := bd_e h
      obtain ⟨r_142, P_141, hc_143, h⟩ := h
      replace h := ck_e h
      obtain ⟨hk_144, h⟩ := h
      refine cc_i (cr_V (As := [.ref a1, .int r_139, .int (2 : Int32)]) (rest := [.int r_135]) cx (hcc_X0_hears l D cs t0 8  P_138 P_141 th a1 r_139 (2 : Int32) r_142 hc_143) kT1 hk_144 (cwV 3 hts (uG uw_X0_hears ul_RX0_29 ui_X0_hears us_RX0_X0_hears un_RX0) rfl rfl rfl ud_X0_hears ⟨Nat.le_trans (Nat.le_of_ble_eq_true rfl) (Nat.le_add_right _ _), Nat.le_trans (Nat.le_of_ble_eq_true rfl) (Nat.le_add_right _ _)⟩) w rfl hl.1 rfl (Nat.le_of_ble_eq_true rfl) dX0_keeps_103 ⟨(Nat.le_of_ble_eq_true rfl), (Nat.le_of_ble_eq_true rfl)⟩) (fun H locs w => ?_)
      refine lv_iadd hx hb dX0_keeps_106 ?_
      exact cw_iret cx (rt_e h) w dX0_keeps_107
    replace h := br_n q_126 h
    refine lv_lookup (tgt := 108) (off := 107) hx hb dX0_keeps_1 (by decide) ((lv_osw q_101 (by decide)).trans ((lv_osw q_114 (by decide)).trans ((lv_osw q_126 (by decide)).trans rfl))) (by decide) ?_
    refine lv_aload_n hx hb dX0_keeps_108 rfl (lv_at hl 0 rfl) ?_
    refine lv_aload_n hx hb dX0_keeps_109 rfl (lv_at hl 1 rfl) ?_
    refine lv_iload_n hx hb dX0_keeps_110 rfl (lv_at hl 2 rfl) ?_
    replace h := bd_e h
    obtain ⟨r_146, P_145, hc_147, h⟩ := h
    refine cc_i (cr_SN (As := [.int a2]) (rest := [.ref a1, .ref th]) cx (hcc_X8_kindAbove l D cs t0  P0 P_145 a2 r_146 hc_147) ⟨va_cnB (host := "HeardWords") 1 hts (uGB uw_X8_kindAbove) rfl rfl rfl (w.2.2.2.2.2.2.1.2.1 ("HeardWords$Bodies", 25, yX8_kindAbove, "HeardWords") (by decide +kernel)) (hts _ (hsub _ un_RX8)) ud_X8_kindAbove.2 ⟨Nat.le_trans (Nat.le_of_ble_eq_true rfl) (Nat.le_add_right _ _), Nat.le_trans (Nat.le_of_ble_eq_true rfl) (Nat.le_add_right _ _)⟩, hts _ (hsub _ ut_X8_kindAbove), trivial⟩ w rfl hl.1 rfl (Nat.le_of_ble_eq_true rfl) dX0_keeps_111 ⟨(Nat.le_of_ble_eq_true rfl), (Nat.le_of_ble_eq_true rfl)⟩) (fun H locs w => ?_)
    refine lv_iload_n hx hb dX0_keeps_114 rfl (lv_at hl 3 rfl) ?_
    replace h := bd_e h
    obtain ⟨r_149, P_148, hc_150, h⟩ := h
    replace h := ck_e h
    obtain ⟨hk_151, h⟩ := h
    refine cc_i (cr_V (As := [.ref a1, .int r_146, .int a3]) (rest := []) cx (hself P_145 P_148 th a1 r_146 a3 r_149 hc_150) kT1 hk_151 (cwV 3 hts (uG uw_X0_keeps ul_RX0_43 ui_X0_keeps us_RX0_X0_keeps un_RX0) rfl rfl rfl ud_X0_keeps ⟨rm_X0_keeps_X0_keeps, rl_X0_keeps_X0_keeps⟩) w rfl hl.1 rfl (Nat.le_of_ble_eq_true rfl) dX0_keeps_115 ⟨(Nat.le_of_ble_eq_true rfl), (Nat.le_of_ble_eq_true rfl)⟩) (fun H locs w => ?_)
    exact cw_iret cx (rt_e h) w dX0_keeps_118
def hm_X0_tells_142 (self : PS → Nat → Nat → Int32 → Int32 → Option (Int32 × PS)) (o0 : Nat) (o1 : Nat) (x2 : Int32) (x3 : Int32) (P : PS) : Option (Int32 × PS) := bd (hm_X8_kindAbove  P x2) (fun r_102 P_101 => bd (self P_101 o0 o1 r_102 x3) (fun r_105 P_104 => ck (kk P_101 o0 1) (some (r_105, P_104))))
def hmb_X0_tells (self : PS → Nat → Nat → Int32 → Int32 → Option (Int32 × PS)) (P : PS) (th : Nat) (a1 : Nat) (a2 : Int32) (a3 : Int32) : Option (Int32 × PS) := if a2 = (0 : Int32) then (bd (hm_X0_begin  P th (12 : Int32)) (fun _ P_209 => ck (kk P th 1) (ck (kk P_209 a1 8) (bd (hm_X0_keeps 8  P_209 th a1 (pI P_209 a1 1) a3) (fun r_215 P_214 => ck (kk P_209 th 1) (some ((r_215 * (2 : Int32)), P_214))))))) else (if a2 = (2 : Int32) then (bd (hm_X0_begin  P th (31 : Int32)) (fun _ P_219 => ck (kk P th 1) (bd (hm_X8_kindAbove  P_219 (2 : Int32)) (fun r_224 P_223 => bd (self P_223 th a1 r_224 a3) (fun r_227 P_226 => ck (kk P_223 th 1) (ck (kk P_226 a1 8) (bd (hm_X0_keeps 8  P_226 th a1 (pI P_226 a1 1) (1 : Int32)) (fun r_232 P_231 => ck (kk P_226 th 1) (some ((r_227 + r_232), P_231)))))))))) else (if a2 = (4 : Int32) then (bd (hm_X0_begin  P th (50 : Int32)) (fun _ P_236 => ck (kk P th 1) (bd (hm_X8_kindAbove  P_236 (4 : Int32)) (fun r_241 P_240 => ck (kk P_240 a1 8) (bd (self P_240 th a1 r_241 (a3 - (pI P_240 a1 0))) (fun r_245 P_244 => ck (kk P_240 th 1) (some (r_245, P_244)))))))) else (if a2 = (6 : Int32) then (bd (hm_X0_begin  P th (70 : Int32)) (fun _ P_249 => ck (kk P th 1) (ck (kk P_249 a1 8) (bd (hm_X0_keeps 8  P_249 th a1 (pI P_249 a1 1) a3) (fun r_255 P_254 => ck (kk P_249 th 1) (bd (hm_X8_kindAbove  P_254 (6 : Int32)) (fun r_259 P_258 => bd (self P_258 th a1 r_259 a3) (fun r_262 P_261 => ck (kk P_258 th 1) (some ((r_255 - r_262), P_261)))))))))) else (hm_X0_tells_142 self  th a1 a2 a3 P))))
def hm_X0_tells : Nat → PS → Nat → Nat → Int32 → Int32 → Option (Int32 × PS)
  | 0 => fun _ _ _ _ _ => none
  | d + 1 => hmb_X0_tells (hm_X0_tells d)
abbrev wu_X0_tells : List Cond := .code yX0_tells cX0_tells 4 (some .int) :: wsL_law
theorem ud_X0_tells : yX0_tells.cls = RX0 ∧ yX0_tells.cls ≠ "java/lang/invoke/MethodHandle" ∧ yX0_tells.cls ≠ "java/lang/invoke/VarHandle" ∧ (parseMethodDescriptor yX0_tells.desc).map (fun d => d.parameters.length) = some 3 := by decide +kernel
def rmd_X0_tells (d : Nat) : Room := { frames := 19 + d, cells := 0, slots := 0, locals := 435 + d * 23 }
abbrev rmc_X0_tells : Room := rmd_X0_tells 8
theorem rm_X0_tells_X0_tells {d : Nat} : (rmd_X0_tells d).frames + 1 ≤ (rmd_X0_tells (d + 1)).frames := by unfold rmd_X0_tells; simp only; omega
theorem rl_X0_tells_X0_tells {d : Nat} : 8 + (4 + 11) + (rmd_X0_tells d).locals ≤ (rmd_X0_tells (d + 1)).locals := by unfold rmd_X0_tells; simp only; omega
set_option maxHeartbeats 4000000 in
set_option maxRecDepth 100000 in
theorem hcc_X0_tells (l : Launch) (D : va_G) (cs : Nat → ClassId) (t0 : TS) : ∀ (d : Nat) (P0 T : PS) (th : Nat) (a1 : Nat) (a2 : Int32) (a3 : Int32) (r0 : Int32) (h : hm_X0_tells d P0 th a1 a2 a3 = some (r0, T)), MetCI l yX0_tells wu_X0_tells (rmd_X0_tells d) D cs t0 [.ref th, .ref a1, .int a2, .int a3] P0 T r0 0 0 := by
  intro d
  induction d with
  | zero =>
    intro P0 T th a1 a2 a3 r0 h
    have h : none = some (r0, T) := h
    cases h
  | succ d hself =>
    intro P0 T th a1 a2 a3 r0 h
    have h : hmb_X0_tells (hm_X0_tells d) P0 th a1 a2 a3 = some (r0, T) := h
    generalize hm_X0_tells d = self at h hself
    refine co_start (own := RX0) (ty := (some .int)) (cc := cX0_tells) (maxL := 4) ⟨by decide, rfl⟩ rfl (Nat.le_of_ble_eq_true rfl) ?_
    intro p e s m args below meth c ls cx hnm hl w
    have hx := cx.1
    have hb := cx.2.1
    have hts := cx.2.2.2.1
    have hown := cx.2.2.2.2.1
    have hml := cx.2.2.2.2.2.2
    have hsub : ∀ w ∈ wsL_law, w ∈ wu_X0_tells := fun _ hq => List.mem_cons_of_mem _ hq
    have hl : lv_has ls 4 [(0, .ref th), (1, .ref a1), (2, .int a2), (3, .int a3)] := hl
    have J142 : ∀ (o0 : Nat) (o1 : Nat) (x2 : Int32) (x3 : Int32) (P : PS), hm_X0_tells_142 self  o0 o1 x2 x3 P = some (r0, T) → cGo p l e (rmd_X0_tells (d + 1)) s m args below meth c 4 D cs t0 (pA P0) (cQI below D cs P0 args s 0 0 r0 T) 0 0 142 [(0, .ref o0), (1, .ref o1), (2, .int x2), (3, .int x3)] [] P := by
      intro o0 o1 x2 x3 P h H locs ls hl w
      unfold hm_X0_tells_142 at h
      refine lv_aload_n hx hb dX0_tells_142 rfl (lv_at hl 0 rfl) ?_
      refine lv_aload_n hx hb dX0_tells_143 rfl (lv_at hl 1 rfl) ?_
      refine lv_iload_n hx hb dX0_tells_144 rfl (lv_at hl 2 rfl) ?_
      replace h := bd_e h
      obtain ⟨r_102, P_101, hc_103, h⟩ := h
      refine cc_i (cr_SN (As := [.int x2]) (rest := [.ref o1, .ref o0]) cx (hcc_X8_kindAbove l D cs t0  P P_101 x2 r_102 hc_103) ⟨va_cnB (host := "HeardWords") 1 hts (uGB uw_X8_kindAbove) rfl rfl rfl (w.2.2.2.2.2.2.1.2.1 ("HeardWords$Bodies", 25, yX8_kindAbove, "HeardWords") (by decide +kernel)) (hts _ (hsub _ un_RX8)) ud_X8_kindAbove.2 ⟨Nat.le_trans (Nat.le_of_ble_eq_true rfl) (Nat.le_add_right _ _), Nat.le_trans (Nat.le_of_ble_eq_true rfl) (Nat.le_add_right _ _)⟩, hts _ (hsub _ ut_X8_kindAbove), trivial⟩ w rfl hl.1 rfl (Nat.le_of_ble_eq_true rfl) dX0_tells_145 ⟨(Nat.le_of_ble_eq_true rfl), (Nat.le_of_ble_eq_true rfl)⟩) (fun H locs w => ?_)
      refine lv_iload_n hx hb dX0_tells_148 rfl (lv_at hl 3 rfl) ?_
      replace h := bd_e h
      obtain ⟨r_105, P_104, hc_106, h⟩ := h
      replace h := ck_e h
      obtain ⟨hk_107, h⟩ := h
      refine cc_i (cr_V (As := [.ref o1, .int r_102, .int x3]) (rest := []) cx (hself P_101 P_104 o0 o1 r_102 x3 r_105 hc_106) kT1 hk_107 (cwV 3 hts (uG uw_X0_tells ul_RX0_46 ui_X0_tells us_RX0_X0_tells un_RX0) rfl rfl rfl ud_X0_tells ⟨rm_X0_tells_X0_tells, rl_X0_tells_X0_tells⟩) w rfl hl.1 rfl (Nat.le_of_ble_eq_true rfl) dX0_tells_149 ⟨(Nat.le_of_ble_eq_true rfl), (Nat.le_of_ble_eq_true rfl)⟩) (fun H locs w => ?_)
      exact cw_iret cx (rt_e h) w dX0_tells_152
    have hP0 : P0 = P0 := rfl
    unfold hmb_X0_tells at h
    refine lv_iload_n hx hb dX0_tells_0 rfl (lv_at hl 2 rfl) ?_
    by_cases q_208 : a2 = (0 : Int32)
    · replace h := br_p q_208 h
      refine lv_tableIn (tgt := 44) hx hb dX0_tells_1 (by rw [q_208]; decide) (by rw [q_208]; decide) (by rw [q_208]; rfl) (by decide) ?_
      refine lv_aload_n hx hb dX0_tells_44 rfl (lv_at hl 0 rfl) ?_
      refine lv_bipush (v := (12 : Int32)) hx hb dX0_tells_45 (by decide) ?_
      replace h := bd_e h
      obtain ⟨r_210, P_209, hc_211, h⟩ := h
      replace h := ck_e h
      obtain ⟨hk_212, h⟩ := h
      refine cc_v (cr_V (As := [.int (12 : Int32)]) (rest := []) cx (hcc_X0_begin l D cs t0  P0 P_209 th (12 : Int32) r_210 hc_211) kT1 hk_212 (cwV 1 hts (uG uw_X0_begin ul_RX0_15 ui_X0_begin us_RX0_X0_begin un_RX0) rfl rfl rfl ud_X0_begin ⟨Nat.le_trans (Nat.le_of_ble_eq_true rfl) (Nat.le_add_right _ _), Nat.le_trans (Nat.le_of_ble_eq_true rfl) (Nat.le_add_right _ _)⟩) w rfl hl.1 rfl (Nat.le_of_ble_eq_true rfl) dX0_tells_47 ⟨(Nat.le_of_ble_eq_true rfl), (Nat.le_of_ble_eq_true rfl)⟩) (fun H locs w => ?_)
      refine lv_aload_n hx hb dX0_tells_50 rfl (lv_at hl 0 rfl) ?_
      refine lv_aload_n hx hb dX0_tells_51 rfl (lv_at hl 1 rfl) ?_
      refine lv_aload_n hx hb dX0_tells_52 rfl (lv_at hl 1 rfl) ?_
      replace h := ck_e h
      obtain ⟨hk_213, h⟩ := h
      refine cw_getI cx hsub w kT8 hk_213 1 (by decide) ⟨hsub _ uf_RX0_40, Or.inl rfl⟩ dX0_tells_53 ?_
      refine lv_iload_n hx hb dX0_tells_56 rfl (lv_at hl 3 rfl) ?_
      replace h := bd_e h
      obtain ⟨r_215, P_214, hc_216, h⟩ := h
      replace h := ck_e h
      obtain ⟨hk_217, h⟩ := h
      refine cc_i (cr_V (As := [.ref a1, .int (pI P_209 a1 1), .int a3]) (rest := []) cx (hcc_X0_keeps l D cs t0 8  P_209 P_214 th a1 (pI P_209 a1 1) a3 r_215 hc_216) kT1 hk_217 (cwV 3 hts (uG uw_X0_keeps ul_RX0_43 ui_X0_keeps us_RX0_X0_keeps un_RX0) rfl rfl rfl ud_X0_keeps ⟨Nat.le_trans (Nat.le_of_ble_eq_true rfl) (Nat.le_add_right _ _), Nat.le_trans (Nat.le_of_ble_eq_true rfl) (Nat.le_add_right _ _)⟩) w rfl hl.1 rfl (Nat.le_of_ble_eq_true rfl) dX0_tells_57 ⟨(Nat.le_of_ble_eq_true rfl), (Nat.le_of_ble_eq_true rfl)⟩) (fun H locs w => ?_)
      refine lv_iconst (v := (2 : Int32)) hx hb dX0_tells_60 (by decide) ?_
      refine lv_imul hx hb dX0_tells_61 ?_
      exact cw_iret cx (rt_e h) w dX0_tells_62
    replace h := br_n q_208 h
    by_cases q_218 : a2 = (2 : Int32)
    · replace h := br_p q_218 h
      refine lv_tableIn (tgt := 63) hx hb dX0_tells_1 (by rw [q_218]; decide) (by rw [q_218]; decide) (by rw [q_218]; rfl) (by decide) ?_
      refine lv_aload_n hx hb dX0_tells_63 rfl (lv_at hl 0 rfl) ?_
      refine lv_bipush (v := (31 : Int32)) hx hb dX0_tells_64 (by decide) ?_
      replace h := bd_e h
      obtain ⟨r_220, P_219, hc_221, h⟩ := h
      replace h := ck_e h
      obtain ⟨hk_222, h⟩ := h
      refine cc_v (cr_V (As := [.int (31 : Int32)]) (rest := []) cx (hcc_X0_begin l D cs t0  P0 P_219 th (31 : Int32) r_220 hc_221) kT1 hk_222 (cwV 1 hts (uG uw_X0_begin ul_RX0_15 ui_X0_begin us_RX0_X0_begin un_RX0) rfl rfl rfl ud_X0_begin ⟨Nat.le_trans (Nat.le_of_ble_eq_true rfl) (Nat.le_add_right _ _), Nat.le_trans (Nat.le_of_ble_eq_true rfl) (Nat.le_add_right _ _)⟩) w rfl hl.1 rfl (Nat.le_of_ble_eq_true rfl) dX0_tells_66 ⟨(Nat.le_of_ble_eq_true rfl), (Nat.le_of_ble_eq_true rfl)⟩) (fun H locs w => ?_)
      refine lv_aload_n hx hb dX0_tells_69 rfl (lv_at hl 0 rfl) ?_
      refine lv_aload_n hx hb dX0_tells_70 rfl (lv_at hl 1 rfl) ?_
      refine lv_iconst (v := (2 : Int32)) hx hb dX0_tells_71 (by decide) ?_
      replace h := bd_e h
      obtain ⟨r_224, P_223, hc_225, h⟩ := h
      refine cc_i (cr_SN (As := [.int (2 : Int32)]) (rest := [.ref a1, .ref th]) cx (hcc_X8_kindAbove l D cs t0  P_219 P_223 (2 : Int32) r_224 hc_225) ⟨va_cnB (host := "HeardWords") 1 hts (uGB uw_X8_kindAbove) rfl rfl rfl (w.2.2.2.2.2.2.1.2.1 ("HeardWords$Bodies", 25, yX8_kindAbove, "HeardWords") (by decide +kernel)) (hts _ (hsub _ un_RX8)) ud_X8_kindAbove.2 ⟨Nat.le_trans (Nat.le_of_ble_eq_true rfl) (Nat.le_add_right _ _), Nat.le_trans (Nat.le_of_ble_eq_true rfl) (Nat.le_add_right _ _)⟩, hts _ (hsub _ ut_X8_kindAbove), trivial⟩ w rfl hl.1 rfl (Nat.le_of_ble_eq_true rfl) dX0_tells_72 ⟨(Nat.le_of_ble_eq_true rfl), (Nat.le_of_ble_eq_true rfl)⟩) (fun H locs w => ?_)
      refine lv_iload_n hx hb dX0_tells_75 rfl (lv_at hl 3 rfl) ?_
      replace h := bd_e h
      obtain ⟨r_227, P_226, hc_228, h⟩ := h
      replace h := ck_e h
      obtain ⟨hk_229, h⟩ := h
      refine cc_i (cr_V (As := [.ref a1, .int r_224, .int a3]) (rest := []) cx (hself P_223 P_226 th a1 r_224 a3 r_227 hc_228) kT1 hk_229 (cwV 3 hts (uG uw_X0_tells ul_RX0_46 ui_X0_tells us_RX0_X0_tells un_RX0) rfl rfl rfl ud_X0_tells ⟨rm_X0_tells_X0_tells, rl_X0_tells_X0_tells⟩) w rfl hl.1 rfl (Nat.le_of_ble_eq_true rfl) dX0_tells_76 ⟨(Nat.le_of_ble_eq_true rfl), (Nat.le_of_ble_eq_true rfl)⟩) (fun H locs w => ?_)
      refine lv_aload_n hx hb dX0_tells_79 rfl (lv_at hl 0 rfl) ?_
      refine lv_aload_n hx hb dX0_tells_80 rfl (lv_at hl 1 rfl) ?_
      refine lv_aload_n hx hb dX0_tells_81 rfl (lv_at hl 1 rfl) ?_
      replace h := ck_e h
      obtain ⟨hk_230, h⟩ := h
      refine cw_getI cx hsub w kT8 hk_230 1 (by decide) ⟨hsub _ uf_RX0_40, Or.inl rfl⟩ dX0_tells_82 ?_
      refine lv_iconst (v := (1 : Int32)) hx hb dX0_tells_85 (by decide) ?_
      replace h := bd_e h
      obtain ⟨r_232, P_231, hc_233, h⟩ := h
      replace h := ck_e h
      obtain ⟨hk_234, h⟩ := h
      refine cc_i (cr_V (As := [.ref a1, .int (pI P_226 a1 1), .int (1 : Int32)]) (rest := [.int r_227]) cx (hcc_X0_keeps l D cs t0 8  P_226 P_231 th a1 (pI P_226 a1 1) (1 : Int32) r_232 hc_233) kT1 hk_234 (cwV 3 hts (uG uw_X0_keeps ul_RX0_43 ui_X0_keeps us_RX0_X0_keeps un_RX0) rfl rfl rfl ud_X0_keeps ⟨Nat.le_trans (Nat.le_of_ble_eq_true rfl) (Nat.le_add_right _ _), Nat.le_trans (Nat.le_of_ble_eq_true rfl) (Nat.le_add_right _ _)⟩) w rfl hl.1 rfl (Nat.le_of_ble_eq_true rfl) dX0_tells_86 ⟨(Nat.le_of_ble_eq_true rfl), (Nat.le_of_ble_eq_true rfl)⟩) (fun H locs w => ?_)
      refine lv_iadd hx hb dX0_tells_89 ?_
      exact cw_iret cx (rt_e h) w dX0_tells_90
    replace h := br_n q_218 h
    by_cases q_235 : a2 = (4 : Int32)
    · replace h := br_p q_235 h
      refine lv_tableIn (tgt := 91) hx hb dX0_tells_1 (by rw [q_235]; decide) (by rw [q_235]; decide) (by rw [q_235]; rfl) (by decide) ?_
      refine lv_aload_n hx hb dX0_tells_91 rfl (lv_at hl 0 rfl) ?_
      refine lv_bipush (v := (50 : Int32)) hx hb dX0_tells_92 (by decide) ?_
      replace h := bd_e h
      obtain ⟨r_237, P_236, hc_238, h⟩ := h
      replace h := ck_e h
      obtain ⟨hk_239, h⟩ := h
      refine cc_v (cr_V (As := [.int (50 : Int32)]) (rest := []) cx (hcc_X0_begin l D cs t0  P0 P_236 th (50 : Int32) r_237 hc_238) kT1 hk_239 (cwV 1 hts (uG uw_X0_begin ul_RX0_15 ui_X0_begin us_RX0_X0_begin un_RX0) rfl rfl rfl ud_X0_begin ⟨Nat.le_trans (Nat.le_of_ble_eq_true rfl) (Nat.le_add_right _ _), Nat.le_trans (Nat.le_of_ble_eq_true rfl) (Nat.le_add_right _ _)⟩) w rfl hl.1 rfl (Nat.le_of_ble_eq_true rfl) dX0_tells_94 ⟨(Nat.le_of_ble_eq_true rfl), (Nat.le_of_ble_eq_true rfl)⟩) (fun H locs w => ?_)
      refine lv_aload_n hx hb dX0_tells_97 rfl (lv_at hl 0 rfl) ?_
      refine lv_aload_n hx hb dX0_tells_98 rfl (lv_at hl 1 rfl) ?_
      refine lv_iconst (v := (4 : Int32)) hx hb dX0_tells_99 (by decide) ?_
      replace h := bd_e h
      obtain ⟨r_241, P_240, hc_242, h⟩ := h
      refine cc_i (cr_SN (As := [.int (4 : Int32)]) (rest := [.ref a1, .ref th]) cx (hcc_X8_kindAbove l D cs t0  P_236 P_240 (4 : Int32) r_241 hc_242) ⟨va_cnB (host := "HeardWords") 1 hts (uGB uw_X8_kindAbove) rfl rfl rfl (w.2.2.2.2.2.2.1.2.1 ("HeardWords$Bodies", 25, yX8_kindAbove, "HeardWords") (by decide +kernel)) (hts _ (hsub _ un_RX8)) ud_X8_kindAbove.2 ⟨Nat.le_trans (Nat.le_of_ble_eq_true rfl) (Nat.le_add_right _ _), Nat.le_trans (Nat.le_of_ble_eq_true rfl) (Nat.le_add_right _ _)⟩, hts _ (hsub _ ut_X8_kindAbove), trivial⟩ w rfl hl.1 rfl (Nat.le_of_ble_eq_true rfl) dX0_tells_100 ⟨(Nat.le_of_ble_eq_true rfl), (Nat.le_of_ble_eq_true rfl)⟩) (fun H locs w => ?_)
      refine lv_iload_n hx hb dX0_tells_103 rfl (lv_at hl 3 rfl) ?_
      refine lv_aload_n hx hb dX0_tells_104 rfl (lv_at hl 1 rfl) ?_
      replace h := ck_e h
      obtain ⟨hk_243, h⟩ := h
      refine cw_getI cx hsub w kT8 hk_243 0 (by decide) ⟨hsub _ uf_RX0_19, Or.inl rfl⟩ dX0_tells_105 ?_
      refine lv_isub hx hb dX0_tells_108 ?_
      replace h := bd_e h
      obtain ⟨r_245, P_244, hc_246, h⟩ := h
      replace h := ck_e h
      obtain ⟨hk_247, h⟩ := h
      refine cc_i (cr_V (As := [.ref a1, .int r_241, .int (a3 - (pI P_240 a1 0))]) (rest := []) cx (hself P_240 P_244 th a1 r_241 (a3 - (pI P_240 a1 0)) r_245 hc_246) kT1 hk_247 (cwV 3 hts (uG uw_X0_tells ul_RX0_46 ui_X0_tells us_RX0_X0_tells un_RX0) rfl rfl rfl ud_X0_tells ⟨rm_X0_tells_X0_tells, rl_X0_tells_X0_tells⟩) w rfl hl.1 rfl (Nat.le_of_ble_eq_true rfl) dX0_tells_109 ⟨(Nat.le_of_ble_eq_true rfl), (Nat.le_of_ble_eq_true rfl)⟩) (fun H locs w => ?_)
      exact cw_iret cx (rt_e h) w dX0_tells_112
    replace h := br_n q_235 h
    by_cases q_248 : a2 = (6 : Int32)
    · replace h := br_p q_248 h
      refine lv_tableIn (tgt := 113) hx hb dX0_tells_1 (by rw [q_248]; decide) (by rw [q_248]; decide) (by rw [q_248]; rfl) (by decide) ?_
      refine lv_aload_n hx hb dX0_tells_113 rfl (lv_at hl 0 rfl) ?_
      refine lv_bipush (v := (70 : Int32)) hx hb dX0_tells_114 (by decide) ?_
      replace h := bd_e h
      obtain ⟨r_250, P_249, hc_251, h⟩ := h
      replace h := ck_e h
      obtain ⟨hk_252, h⟩ := h
      refine cc_v (cr_V (As := [.int (70 : Int32)]) (rest := []) cx (hcc_X0_begin l D cs t0  P0 P_249 th (70 : Int32) r_250 hc_251) kT1 hk_252 (cwV 1 hts (uG uw_X0_begin ul_RX0_15 ui_X0_begin us_RX0_X0_begin un_RX0) rfl rfl rfl ud_X0_begin ⟨Nat.le_trans (Nat.le_of_ble_eq_true rfl) (Nat.le_add_right _ _), Nat.le_trans (Nat.le_of_ble_eq_true rfl) (Nat.le_add_right _ _)⟩) w rfl hl.1 rfl (Nat.le_of_ble_eq_true rfl) dX0_tells_116 ⟨(Nat.le_of_ble_eq_true rfl), (Nat.le_of_ble_eq_true rfl)⟩) (fun H locs w => ?_)
      refine lv_aload_n hx hb dX0_tells_119 rfl (lv_at hl 0 rfl) ?_
      refine lv_aload_n hx hb dX0_tells_120 rfl (lv_at hl 1 rfl) ?_
      refine lv_aload_n hx hb dX0_tells_121 rfl (lv_at hl 1 rfl) ?_
      replace h := ck_e h
      obtain ⟨hk_253, h⟩ := h
      refine cw_getI cx hsub w kT8 hk_253 1 (by decide) ⟨hsub _ uf_RX0_40, Or.inl rfl⟩ dX0_tells_122 ?_
      refine lv_iload_n hx hb dX0_tells_125 rfl (lv_at hl 3 rfl) ?_
      replace h := bd_e h
      obtain ⟨r_255, P_254, hc_256, h⟩ := h
      replace h := ck_e h
      obtain ⟨hk_257, h⟩ := h
      refine cc_i (cr_V (As := [.ref a1, .int (pI P_249 a1 1), .int a3]) (rest := []) cx (hcc_X0_keeps l D cs t0 8  P_249 P_254 th a1 (pI P_249 a1 1) a3 r_255 hc_256) kT1 hk_257 (cwV 3 hts (uG uw_X0_keeps ul_RX0_43 ui_X0_keeps us_RX0_X0_keeps un_RX0) rfl rfl rfl ud_X0_keeps ⟨Nat.le_trans (Nat.le_of_ble_eq_true rfl) (Nat.le_add_right _ _), Nat.le_trans (Nat.le_of_ble_eq_true rfl) (Nat.le_add_right _ _)⟩) w rfl hl.1 rfl (Nat.le_of_ble_eq_true rfl) dX0_tells_126 ⟨(Nat.le_of_ble_eq_true rfl), (Nat.le_of_ble_eq_true rfl)⟩) (fun H locs w => ?_)
      refine lv_aload_n hx hb dX0_tells_129 rfl (lv_at hl 0 rfl) ?_
      refine lv_aload_n hx hb dX0_tells_130 rfl (lv_at hl 1 rfl) ?_
      refine lv_bipush (v := (6 : Int32)) hx hb dX0_tells_131 (by decide) ?_
      replace h := bd_e h
      obtain ⟨r_259, P_258, hc_260, h⟩ := h
      refine cc_i (cr_SN (As := [.int (6 : Int32)]) (rest := [.ref a1, .ref th, .int r_255]) cx (hcc_X8_kindAbove l D cs t0  P_254 P_258 (6 : Int32) r_259 hc_260) ⟨va_cnB (host := "HeardWords") 1 hts (uGB uw_X8_kindAbove) rfl rfl rfl (w.2.2.2.2.2.2.1.2.1 ("HeardWords$Bodies", 25, yX8_kindAbove, "HeardWords") (by decide +kernel)) (hts _ (hsub _ un_RX8)) ud_X8_kindAbove.2 ⟨Nat.le_trans (Nat.le_of_ble_eq_true rfl) (Nat.le_add_right _ _), Nat.le_trans (Nat.le_of_ble_eq_true rfl) (Nat.le_add_right _ _)⟩, hts _ (hsub _ ut_X8_kindAbove), trivial⟩ w rfl hl.1 rfl (Nat.le_of_ble_eq_true rfl) dX0_tells_133 ⟨(Nat.le_of_ble_eq_true rfl), (Nat.le_of_ble_eq_true rfl)⟩) (fun H locs w => ?_)
      refine lv_iload_n hx hb dX0_tells_136 rfl (lv_at hl 3 rfl) ?_
      replace h := bd_e h
      obtain ⟨r_262, P_261, hc_263, h⟩ := h
      replace h := ck_e h
      obtain ⟨hk_264, h⟩ := h
      refine cc_i (cr_V (As := [.ref a1, .int r_259, .int a3]) (rest := [.int r_255]) cx (hself P_258 P_261 th a1 r_259 a3 r_262 hc_263) kT1 hk_264 (cwV 3 hts (uG uw_X0_tells ul_RX0_46 ui_X0_tells us_RX0_X0_tells un_RX0) rfl rfl rfl ud_X0_tells ⟨rm_X0_tells_X0_tells, rl_X0_tells_X0_tells⟩) w rfl hl.1 rfl (Nat.le_of_ble_eq_true rfl) dX0_tells_137 ⟨(Nat.le_of_ble_eq_true rfl), (Nat.le_of_ble_eq_true rfl)⟩) (fun H locs w => ?_)
      refine lv_isub hx hb dX0_tells_140 ?_
      exact cw_iret cx (rt_e h) w dX0_tells_141
    replace h := br_n q_248 h
    refine lv_tableH (tgt := 142) hx hb dX0_tells_1 (by by_cases q_265 : a2 = (1 : Int32); exact Or.inr ⟨by rw [q_265]; decide, by rw [q_265]; decide, by rw [q_265]; rfl⟩; by_cases q_266 : a2 = (3 : Int32); exact Or.inr ⟨by rw [q_266]; decide, by rw [q_266]; decide, by rw [q_266]; rfl⟩; by_cases q_267 : a2 = (5 : Int32); exact Or.inr ⟨by rw [q_267]; decide, by rw [q_267]; decide, by rw [q_267]; rfl⟩; exact Or.inl (by have := lv_neT q_208 (a := 0) (by decide); have := lv_neT q_218 (a := 2) (by decide); have := lv_neT q_235 (a := 4) (by decide); have := lv_neT q_248 (a := 6) (by decide); have := lv_neT q_265 (a := 1) (by decide); have := lv_neT q_266 (a := 3) (by decide); have := lv_neT q_267 (a := 5) (by decide); omega)) (by decide) ?_
    exact J142  th a1 a2 a3 P0 h _ _ _ (lv_sub hl [0, 1, 2, 3] rfl) w
def hm_X3_accept (P : PS) (th : Nat) (a1 : Int32) : Option (Int32 × PS) := bd (hm_X3_peek  P th) (fun r_102 P_101 => ck (kk P th 4) (if r_102 = a1 then (ck (kk P_101 th 4) (lt_ (pIu P_101 th 3 ((pI P_101 th 3) + (1 : Int32))) (fun P_106 => some ((1 : Int32), P_106)))) else (some ((0 : Int32), P_101))))
abbrev wu_X3_accept : List Cond := .code yX3_accept cX3_accept 2 (some .boolean) :: wsL_law
theorem ud_X3_accept : yX3_accept.cls = RX3 ∧ yX3_accept.cls ≠ "java/lang/invoke/MethodHandle" ∧ yX3_accept.cls ≠ "java/lang/invoke/VarHandle" ∧ (parseMethodDescriptor yX3_accept.desc).map (fun d => d.parameters.length) = some 1 := by decide +kernel
abbrev rmc_X3_accept : Room := { frames := 1, cells := 0, slots := 0, locals := 21 }
set_option maxHeartbeats 4000000 in
set_option maxRecDepth 100000 in
theorem hcc_X3_accept (l : Launch) (D : va_G) (cs : Nat → ClassId) (t0 : TS) (P0 T : PS) (th : Nat) (a1 : Int32) (r0 : Int32) (h : hm_X3_accept P0 th a1 = some (r0, T)) : MetCI l yX3_accept wu_X3_accept rmc_X3_accept D cs t0 [.ref th, .int a1] P0 T r0 0 0 := by
  refine co_start (own := RX3) (ty := (some .boolean)) (cc := cX3_accept) (maxL := 2) ⟨by decide, rfl⟩ rfl (Nat.le_of_ble_eq_true rfl) ?_
  intro p e s m args below meth c ls cx hnm hl w
  have hx := cx.1
  have hb := cx.2.1
  have hts := cx.2.2.2.1
  have hown := cx.2.2.2.2.1
  have hml := cx.2.2.2.2.2.2
  have hsub : ∀ w ∈ wsL_law, w ∈ wu_X3_accept := fun _ hq => List.mem_cons_of_mem _ hq
  have hl : lv_has ls 2 [(0, .ref th), (1, .int a1)] := hl
  have hP0 : P0 = P0 := rfl
  unfold hm_X3_accept at h
  refine lv_aload_n hx hb dX3_accept_0 rfl (lv_at hl 0 rfl) ?_
  replace h := bd_e h
  obtain ⟨r_102, P_101, hc_103, h⟩ := h
  replace h := ck_e h
  obtain ⟨hk_104, h⟩ := h
  refine cc_i (cr_V (As := []) (rest := []) cx (hcc_X3_peek l D cs t0  P0 P_101 th r_102 hc_103) kT4 hk_104 (cwV 0 hts (uG uw_X3_peek ul_RX3_118 ui_X3_peek us_RX3_X3_peek un_RX3) rfl rfl rfl ud_X3_peek ⟨Nat.le_of_ble_eq_true rfl, Nat.le_of_ble_eq_true rfl⟩) w rfl hl.1 rfl (Nat.le_of_ble_eq_true rfl) dX3_accept_1 ⟨(Nat.le_of_ble_eq_true rfl), (Nat.le_of_ble_eq_true rfl)⟩) (fun H locs w => ?_)
  refine lv_iload_n hx hb dX3_accept_4 rfl (lv_at hl 1 rfl) ?_
  refine lv_icmp_eq (tgt := 10) hx hb dX3_accept_5 (by decide) (fun q => ?_) (fun q => ?_)
  · replace h := br_p q h
    refine lv_aload_n hx hb dX3_accept_10 rfl (lv_at hl 0 rfl) ?_
    refine lv_dup hx hb dX3_accept_11 rfl ?_
    replace h := ck_e h
    obtain ⟨hk_105, h⟩ := h
    refine cw_getI cx hsub w kT4 hk_105 3 (by decide) ⟨hsub _ uf_RX3_23, Or.inl rfl⟩ dX3_accept_12 ?_
    refine lv_iconst (v := (1 : Int32)) hx hb dX3_accept_15 (by decide) ?_
    refine lv_iadd hx hb dX3_accept_16 ?_
    replace h := lt_e h
    obtain ⟨P_106, eP_106, h⟩ := h
    refine cw_putI cx hsub w kT4 hk_105 3 eP_106 ⟨by decide, by decide, rfl⟩ (Or.inl rfl) ⟨hsub _ uf_RX3_23, Or.inl rfl⟩ dX3_accept_17 (fun H locs w => ?_)
    refine lv_iconst (v := (1 : Int32)) hx hb dX3_accept_20 (by decide) ?_
    exact cw_zret cx (Or.inr rfl) (rt_e h) w dX3_accept_21
  · replace h := br_n q h
    refine lv_iconst (v := (0 : Int32)) hx hb dX3_accept_8 (by decide) ?_
    exact cw_zret cx (Or.inl rfl) (rt_e h) w dX3_accept_9
def hm_Jx4a65c_clear_da8c8_27 (k27 : Nat → Int32 → Int32 → PS → Option (Int32 × PS)) (o1 : Nat) (x2 : Int32) (x3 : Int32) (P : PS) : Option (Int32 × PS) := if x2 ≤ x3 then (some ((0 : Int32), P)) else (ck (kk P o1 17) (ck (vin x3 (pN P o1)) (lt_ (pRu P o1 (x3).toNatClampNeg none) (fun P_103 => lt_ (x3 + (1 : Int32)) (fun x3_104 => k27 o1 x2 x3_104 P_103)))))
def hm_Jx4a65c_clear_da8c8_27L : Nat → Nat → Int32 → Int32 → PS → Option (Int32 × PS)
  | 0, _, _, _, _ => none
  | n + 1, o1, x2, x3, P => hm_Jx4a65c_clear_da8c8_27  (hm_Jx4a65c_clear_da8c8_27L  n) o1 x2 x3 P
def hm_Jx4a65c_clear_da8c8 (P : PS) (th : Nat) : Option (Int32 × PS) := ck (kk P th 0) (lt_ (pIu P th 0 ((pI P th 0) + (1 : Int32))) (fun P_206 => nn (pR P_206 th 1) (fun b_208 => lt_ ((pI P_206 th 2)) (fun x2_209 => lt_ (pIu P_206 th 2 (0 : Int32)) (fun P_210 => lt_ ((0 : Int32)) (fun x3_211 => hm_Jx4a65c_clear_da8c8_27L  4000 b_208 x2_209 x3_211 P_210))))))
abbrev wu_Jx4a65c_clear_da8c8 : List Cond := .code yJx4a65c_clear_da8c8 cJx4a65c_clear_da8c8 4 none :: wsL_law
theorem ud_Jx4a65c_clear_da8c8 : yJx4a65c_clear_da8c8.cls = RJx4a65c ∧ yJx4a65c_clear_da8c8.cls ≠ "java/lang/invoke/MethodHandle" ∧ yJx4a65c_clear_da8c8.cls ≠ "java/lang/invoke/VarHandle" ∧ (parseMethodDescriptor yJx4a65c_clear_da8c8.desc).map (fun d => d.parameters.length) = some 0 := by decide +kernel
abbrev rmc_Jx4a65c_clear_da8c8 : Room := { frames := 0, cells := 0, slots := 0, locals := 0 }
set_option maxHeartbeats 4000000 in
set_option maxRecDepth 100000 in
theorem hcc_Jx4a65c_clear_da8c8 (l : Launch) (D : va_G) (cs : Nat → ClassId) (t0 : TS) (P0 T : PS) (th : Nat) (r0 : Int32) (h : hm_Jx4a65c_clear_da8c8 P0 th = some (r0, T)) : MetCV l yJx4a65c_clear_da8c8 wu_Jx4a65c_clear_da8c8 rmc_Jx4a65c_clear_da8c8 D cs t0 [.ref th] P0 T r0 0 0 := by
  refine co_start (own := RJx4a65c) (ty := none) (cc := cJx4a65c_clear_da8c8) (maxL := 4) ⟨by decide, rfl⟩ rfl (Nat.le_of_ble_eq_true rfl) ?_
  intro p e s m args below meth c ls cx hnm hl w
  have hx := cx.1
  have hb := cx.2.1
  have hts := cx.2.2.2.1
  have hown := cx.2.2.2.2.1
  have hml := cx.2.2.2.2.2.2
  have hsub : ∀ w ∈ wsL_law, w ∈ wu_Jx4a65c_clear_da8c8 := fun _ hq => List.mem_cons_of_mem _ hq
  have hl : lv_has ls 4 [(0, .ref th)] := hl
  have L27 : ∀ (n : Nat) (o1 : Nat) (x2 : Int32) (x3 : Int32) (P : PS), hm_Jx4a65c_clear_da8c8_27L  n o1 x2 x3 P = some (r0, T) → cGo p l e rmc_Jx4a65c_clear_da8c8 s m args below meth c 4 D cs t0 (pA P0) (cQV below D cs P0 args s 0 0 r0 T) 0 0 27 [(1, .ref o1), (2, .int x2), (3, .int x3)] [] P := by
    intro n
    induction n with
    | zero =>
      intro o1 x2 x3 P h
      have h : none = some (r0, T) := h
      cases h
    | succ n hk27 =>
      intro o1 x2 x3 P h H locs ls hl w
      have h : hm_Jx4a65c_clear_da8c8_27  (hm_Jx4a65c_clear_da8c8_27L  n) o1 x2 x3 P = some (r0, T) := h
      generalize hm_Jx4a65c_clear_da8c8_27L  n = k27 at h hk27
      unfold hm_Jx4a65c_clear_da8c8_27 at h
      refine lv_iload_n hx hb dJx4a65c_clear_da8c8_27 rfl (lv_at hl 2 rfl) ?_
      refine lv_iload_n hx hb dJx4a65c_clear_da8c8_28 rfl (lv_at hl 1 rfl) ?_
      refine lv_icmp_ge (tgt := 42) hx hb dJx4a65c_clear_da8c8_29 (by decide) (fun q => ?_) (fun q => ?_)
      · replace h := br_p q h
        exact cw_vret cx (rt_e h) w dJx4a65c_clear_da8c8_42
      · replace h := br_n q h
        refine lv_aload_n hx hb dJx4a65c_clear_da8c8_32 rfl (lv_at hl 0 rfl) ?_
        refine lv_iload_n hx hb dJx4a65c_clear_da8c8_33 rfl (lv_at hl 2 rfl) ?_
        refine lv_null hx hb dJx4a65c_clear_da8c8_34 ?_
        replace h := ck_e h
        obtain ⟨hk_101, h⟩ := h
        replace h := ck_e h
        obtain ⟨hq_102, h⟩ := h
        replace h := lt_e h
        obtain ⟨P_103, eP_103, h⟩ := h
        refine cw_oastN cx w hk_101 hq_102 eP_103 dJx4a65c_clear_da8c8_35 (fun H locs w => ?_)
        replace h := lt_e h
        obtain ⟨x3_104, ex3_104, h⟩ := h
        refine lv_iinc (v := x3_104) (lv' := [(3, .int x3_104), (1, .ref o1), (2, .int x2)]) hx hb dJx4a65c_clear_da8c8_36 hl (k := 2) rfl (by rw [ex3_104]; rfl) (by decide) (rfl) (fun ls hl => ?_)
        refine lv_goto (tgt := 27) hx hb dJx4a65c_clear_da8c8_39 (by decide) ?_
        exact hk27 o1 x2 x3_104 P_103 h _ _ _ (lv_sub hl [1, 2, 0] rfl) w
  have hP0 : P0 = P0 := rfl
  unfold hm_Jx4a65c_clear_da8c8 at h
  refine lv_aload_n hx hb dJx4a65c_clear_da8c8_0 rfl (lv_at hl 0 rfl) ?_
  refine lv_dup hx hb dJx4a65c_clear_da8c8_1 rfl ?_
  replace h := ck_e h
  obtain ⟨hk_205, h⟩ := h
  refine cw_getI cx hsub w kT0 hk_205 0 (by decide) ⟨hsub _ uf_RJx4a65c_63, Or.inr (hsub _ usf_mod)⟩ dJx4a65c_clear_da8c8_2 ?_
  refine lv_iconst (v := (1 : Int32)) hx hb dJx4a65c_clear_da8c8_5 (by decide) ?_
  refine lv_iadd hx hb dJx4a65c_clear_da8c8_6 ?_
  replace h := lt_e h
  obtain ⟨P_206, eP_206, h⟩ := h
  refine cw_putI cx hsub w kT0 hk_205 0 eP_206 ⟨by decide, by decide, rfl⟩ (Or.inl rfl) ⟨hsub _ uf_RJx4a65c_63, Or.inr (hsub _ usf_mod)⟩ dJx4a65c_clear_da8c8_7 (fun H locs w => ?_)
  refine lv_aload_n hx hb dJx4a65c_clear_da8c8_10 rfl (lv_at hl 0 rfl) ?_
  have hk_207 : kk P_206 th 0 = true := by rw [eP_206]; exact hk_205
  replace h := nn_e h
  obtain ⟨b_208, hbb_208, h⟩ := h
  refine cw_getS cx hsub w kT0 hk_207 1 (by decide) hbb_208 ⟨hsub _ uf_RJx4a65c_9, Or.inl rfl⟩ dJx4a65c_clear_da8c8_11 ?_
  refine lv_astore_n (lv' := [(1, .ref b_208), (0, .ref th)]) hx hb dJx4a65c_clear_da8c8_14 rfl hl (by decide) (rfl) (fun ls hl => ?_)
  refine lv_aload_n hx hb dJx4a65c_clear_da8c8_15 rfl (lv_at hl 1 rfl) ?_
  refine cw_getI cx hsub w kT0 hk_207 2 (by decide) ⟨hsub _ uf_RJx4a65c_48, Or.inl rfl⟩ dJx4a65c_clear_da8c8_16 ?_
  replace h := lt_e h
  obtain ⟨x2_209, ex2_209, h⟩ := h
  refine top_i ex2_209 ?_
  refine lv_istore_n (lv' := [(2, .int x2_209), (1, .ref b_208), (0, .ref th)]) hx hb dJx4a65c_clear_da8c8_19 rfl hl (by decide) (rfl) (fun ls hl => ?_)
  refine lv_aload_n hx hb dJx4a65c_clear_da8c8_20 rfl (lv_at hl 2 rfl) ?_
  refine lv_iconst (v := (0 : Int32)) hx hb dJx4a65c_clear_da8c8_21 (by decide) ?_
  refine lv_dup_x1 hx hb dJx4a65c_clear_da8c8_22 rfl rfl ?_
  replace h := lt_e h
  obtain ⟨P_210, eP_210, h⟩ := h
  refine cw_putI cx hsub w kT0 hk_207 2 eP_210 ⟨by decide, by decide, rfl⟩ (Or.inl rfl) ⟨hsub _ uf_RJx4a65c_48, Or.inl rfl⟩ dJx4a65c_clear_da8c8_23 (fun H locs w => ?_)
  replace h := lt_e h
  obtain ⟨x3_211, ex3_211, h⟩ := h
  refine top_i ex3_211 ?_
  refine lv_istore_n (lv' := [(3, .int x3_211), (2, .int x2_209), (1, .ref b_208), (0, .ref th)]) hx hb dJx4a65c_clear_da8c8_26 rfl hl (by decide) (rfl) (fun ls hl => ?_)
  exact L27  4000 b_208 x2_209 x3_211 P_210 h _ _ _ (lv_sub hl [2, 1, 0] rfl) w
def hm_Jx4a65c_isEmpty_aae02 (P : PS) (th : Nat) : Option (Int32 × PS) := ck (kk P th 0) (if (pI P th 2) = (0 : Int32) then (some ((1 : Int32), P)) else (some ((0 : Int32), P)))
abbrev wu_Jx4a65c_isEmpty_aae02 : List Cond := .code yJx4a65c_isEmpty_aae02 cJx4a65c_isEmpty_aae02 1 (some .boolean) :: wsL_law
theorem ud_Jx4a65c_isEmpty_aae02 : yJx4a65c_isEmpty_aae02.cls = RJx4a65c ∧ yJx4a65c_isEmpty_aae02.cls ≠ "java/lang/invoke/MethodHandle" ∧ yJx4a65c_isEmpty_aae02.cls ≠ "java/lang/invoke/VarHandle" ∧ (parseMethodDescriptor yJx4a65c_isEmpty_aae02.desc).map (fun d => d.parameters.length) = some 0 := by decide +kernel
abbrev rmc_Jx4a65c_isEmpty_aae02 : Room := { frames := 0, cells := 0, slots := 0, locals := 0 }
set_option maxHeartbeats 4000000 in
set_option maxRecDepth 100000 in
theorem hcc_Jx4a65c_isEmpty_aae02 (l : Launch) (D : va_G) (cs : Nat → ClassId) (t0 : TS) (P0 T : PS) (th : Nat) (r0 : Int32) (h : hm_Jx4a65c_isEmpty_aae02 P0 th = some (r0, T)) : MetCI l yJx4a65c_isEmpty_aae02 wu_Jx4a65c_isEmpty_aae02 rmc_Jx4a65c_isEmpty_aae02 D cs t0 [.ref th] P0 T r0 0 0 := by
  refine co_start (own := RJx4a65c) (ty := (some .boolean)) (cc := cJx4a65c_isEmpty_aae02) (maxL := 1) ⟨by decide, rfl⟩ rfl (Nat.le_of_ble_eq_true rfl) ?_
  intro p e s m args below meth c ls cx hnm hl w
  have hx := cx.1
  have hb := cx.2.1
  have hts := cx.2.2.2.1
  have hown := cx.2.2.2.2.1
  have hml := cx.2.2.2.2.2.2
  have hsub : ∀ w ∈ wsL_law, w ∈ wu_Jx4a65c_isEmpty_aae02 := fun _ hq => List.mem_cons_of_mem _ hq
  have hl : lv_has ls 1 [(0, .ref th)] := hl
  have hP0 : P0 = P0 := rfl
  unfold hm_Jx4a65c_isEmpty_aae02 at h
  refine lv_aload_n hx hb dJx4a65c_isEmpty_aae02_0 rfl (lv_at hl 0 rfl) ?_
  replace h := ck_e h
  obtain ⟨hk_101, h⟩ := h
  refine cw_getI cx hsub w kT0 hk_101 2 (by decide) ⟨hsub _ uf_RJx4a65c_48, Or.inl rfl⟩ dJx4a65c_isEmpty_aae02_1 ?_
  refine lv_if_ne (tgt := 11) hx hb dJx4a65c_isEmpty_aae02_4 (by decide) (fun q => ?_) (fun q => ?_)
  · replace h := br_n q h
    refine lv_iconst (v := (0 : Int32)) hx hb dJx4a65c_isEmpty_aae02_11 (by decide) ?_
    exact cw_zret cx (Or.inl rfl) (rt_e h) w dJx4a65c_isEmpty_aae02_12
  · replace h := br_p q h
    refine lv_iconst (v := (1 : Int32)) hx hb dJx4a65c_isEmpty_aae02_7 (by decide) ?_
    refine lv_goto (tgt := 12) hx hb dJx4a65c_isEmpty_aae02_8 (by decide) ?_
    exact cw_zret cx (Or.inr rfl) (rt_e h) w dJx4a65c_isEmpty_aae02_12
def hm_X8_act (P : PS) (th : Nat) (a1 : Int32) (a2 : Int32) (a3 : Int32) : Option (Int32 × PS) := ck (kk P th 9) (nn (pR P th 7) (fun b_102 => ck (kk P b_102 1) (lt_ (pIu P b_102 1 (0 : Int32)) (fun P_104 => bd (hm_X8_wordAt  P_104 th a1) (fun o_106 P_105 => nl o_106 (some ((0 : Int32), P_105)) (fun b_109 => if a2 = (0 : Int32) then (ck (kk P_105 th 9) (nn (pR P_105 th 7) (fun b_112 => ck (kk P_105 b_109 8) (bd (hm_X0_hears 8  P_105 b_112 b_109 (pI P_105 b_109 1) a3) (fun r_115 P_114 => ck (kk P_105 b_112 1) (some (r_115, P_114))))))) else (if a2 = (1 : Int32) then (ck (kk P_105 th 9) (nn (pR P_105 th 7) (fun b_120 => ck (kk P_105 b_109 8) (bd (hm_X0_keeps 8  P_105 b_120 b_109 (pI P_105 b_109 1) a3) (fun r_123 P_122 => ck (kk P_105 b_120 1) (some (r_123, P_122))))))) else (if a2 = (2 : Int32) then (ck (kk P_105 th 9) (nn (pR P_105 th 7) (fun b_128 => ck (kk P_105 b_109 8) (bd (hm_X0_tells 8  P_105 b_128 b_109 (pI P_105 b_109 1) a3) (fun r_131 P_130 => ck (kk P_105 b_128 1) (some (r_131, P_130))))))) else (some ((0 : Int32), P_105))))))))))
abbrev wu_X8_act : List Cond := .code yX8_act cX8_act 5 (some .int) :: wsL_law
theorem ud_X8_act : yX8_act.cls = RX8 ∧ yX8_act.cls ≠ "java/lang/invoke/MethodHandle" ∧ yX8_act.cls ≠ "java/lang/invoke/VarHandle" ∧ (parseMethodDescriptor yX8_act.desc).map (fun d => d.parameters.length) = some 3 := by decide +kernel
abbrev rmc_X8_act : Room := { frames := 28, cells := 0, slots := 0, locals := 642 }
set_option maxHeartbeats 4000000 in
set_option maxRecDepth 100000 in
theorem hcc_X8_act (l : Launch) (D : va_G) (cs : Nat → ClassId) (t0 : TS) (P0 T : PS) (th : Nat) (a1 : Int32) (a2 : Int32) (a3 : Int32) (r0 : Int32) (h : hm_X8_act P0 th a1 a2 a3 = some (r0, T)) : MetCI l yX8_act wu_X8_act rmc_X8_act D cs t0 [.ref th, .int a1, .int a2, .int a3] P0 T r0 0 0 := by
  refine co_start (own := RX8) (ty := (some .int)) (cc := cX8_act) (maxL := 5) ⟨by decide, rfl⟩ rfl (Nat.le_of_ble_eq_true rfl) ?_
  intro p e s m args below meth c ls cx hnm hl w
  have hx := cx.1
  have hb := cx.2.1
  have hts := cx.2.2.2.1
  have hown := cx.2.2.2.2.1
  have hml := cx.2.2.2.2.2.2
  have hsub : ∀ w ∈ wsL_law, w ∈ wu_X8_act := fun _ hq => List.mem_cons_of_mem _ hq
  have hl : lv_has ls 5 [(0, .ref th), (1, .int a1), (2, .int a2), (3, .int a3)] := hl
  have hP0 : P0 = P0 := rfl
  unfold hm_X8_act at h
  refine lv_aload_n hx hb dX8_act_0 rfl (lv_at hl 0 rfl) ?_
  replace h := ck_e h
  obtain ⟨hk_101, h⟩ := h
  replace h := nn_e h
  obtain ⟨b_102, hbb_102, h⟩ := h
  refine cw_getS cx hsub w kT9 hk_101 7 (by decide) hbb_102 ⟨hsub _ uf_RX8_53, Or.inl rfl⟩ dX8_act_1 ?_
  refine lv_iconst (v := (0 : Int32)) hx hb dX8_act_4 (by decide) ?_
  replace h := ck_e h
  obtain ⟨hk_103, h⟩ := h
  replace h := lt_e h
  obtain ⟨P_104, eP_104, h⟩ := h
  refine cw_putIN cx hsub w kT1 hk_103 1 eP_104 ⟨by decide, by decide, rfl, rfl⟩ (host := "HeardWords") (by decide +kernel) dX8_act_5 (fun H locs w => ?_)
  refine lv_aload_n hx hb dX8_act_8 rfl (lv_at hl 0 rfl) ?_
  refine lv_iload_n hx hb dX8_act_9 rfl (lv_at hl 1 rfl) ?_
  replace h := bd_e h
  obtain ⟨o_106, P_105, hc_107, h⟩ := h
  have hk_108 : kk P_104 th 9 = true := by rw [eP_104]; exact hk_101
  refine cc_q (cr_V (As := [.int a1]) (rest := []) cx (hcc_X8_wordAt l D cs t0  P_104 P_105 th a1 o_106 hc_107) kT9 hk_108 (cwV 1 hts (uG uw_X8_wordAt ul_RX8_95 ui_X8_wordAt us_RX8_X8_wordAt un_RX8) rfl rfl rfl ud_X8_wordAt ⟨Nat.le_of_ble_eq_true rfl, Nat.le_of_ble_eq_true rfl⟩) w rfl hl.1 rfl (Nat.le_of_ble_eq_true rfl) dX8_act_10 ⟨(Nat.le_of_ble_eq_true rfl), (Nat.le_of_ble_eq_true rfl)⟩) (fun H locs w => ?_)
  refine lq_astore (lv' := [(4, va_rf o_106), (0, .ref th), (1, .int a1), (2, .int a2), (3, .int a3)]) hx hb dX8_act_13 hl (by decide) (fun v hv => by subst hv; exact (rfl)) (fun ls hl => ?_)
  refine lq_aload hx hb dX8_act_15 (lv_at hl 0 rfl) ?_
  cases o_106 with
  | none =>
    replace h := nl_n h
    have hl : lv_has ls 5 [(4, .null), (0, .ref th), (1, .int a1), (2, .int a2), (3, .int a3)] := hl
    refine lv_ifnonnullN hx hb dX8_act_17 ?_
    refine lv_iconst (v := (0 : Int32)) hx hb dX8_act_20 (by decide) ?_
    exact cw_iret cx (rt_e h) w dX8_act_21
  | some b_109 =>
    replace h := nl_s h
    have hl : lv_has ls 5 [(4, .ref b_109), (0, .ref th), (1, .int a1), (2, .int a2), (3, .int a3)] := hl
    refine lv_ifnonnull (tgt := 22) hx hb dX8_act_17 (by decide) ?_
    refine lv_iload_n hx hb dX8_act_22 rfl (lv_at hl 3 rfl) ?_
    by_cases q_110 : a2 = (0 : Int32)
    · replace h := br_p q_110 h
      refine lv_tableIn (tgt := 48) hx hb dX8_act_23 (by rw [q_110]; decide) (by rw [q_110]; decide) (by rw [q_110]; rfl) (by decide) ?_
      refine lv_aload_n hx hb dX8_act_48 rfl (lv_at hl 1 rfl) ?_
      replace h := ck_e h
      obtain ⟨hk_111, h⟩ := h
      replace h := nn_e h
      obtain ⟨b_112, hbb_112, h⟩ := h
      refine cw_getS cx hsub w kT9 hk_111 7 (by decide) hbb_112 ⟨hsub _ uf_RX8_53, Or.inl rfl⟩ dX8_act_49 ?_
      refine lv_aload hx hb dX8_act_52 (lv_at hl 0 rfl) ?_
      refine lv_aload hx hb dX8_act_54 (lv_at hl 0 rfl) ?_
      replace h := ck_e h
      obtain ⟨hk_113, h⟩ := h
      refine cw_getI cx hsub w kT8 hk_113 1 (by decide) ⟨hsub _ uf_RX8_111, Or.inl rfl⟩ dX8_act_56 ?_
      refine lv_iload_n hx hb dX8_act_59 rfl (lv_at hl 4 rfl) ?_
      replace h := bd_e h
      obtain ⟨r_115, P_114, hc_116, h⟩ := h
      replace h := ck_e h
      obtain ⟨hk_117, h⟩ := h
      refine cc_i (cr_VN (As := [.ref b_109, .int (pI P_105 b_109 1), .int a3]) (rest := []) cx (hcc_X0_hears l D cs t0 8  P_105 P_114 b_112 b_109 (pI P_105 b_109 1) a3 r_115 hc_116) kT1 hk_117 ⟨va_cnB (host := "HeardWords") 3 hts (uGB uw_X0_hears) rfl rfl rfl (w.2.2.2.2.2.2.1.2.1 ("HeardWords", 256, yX0_hears, "HeardWords") (by decide +kernel)) (hts _ (hsub _ un_RX0)) ud_X0_hears.2 ⟨Nat.le_of_ble_eq_true rfl, Nat.le_of_ble_eq_true rfl⟩, hts _ (hsub _ ui_X0_hears), hts _ (hsub _ us_RX0_X0_hears)⟩ w rfl hl.1 rfl (Nat.le_of_ble_eq_true rfl) dX8_act_60 ⟨(Nat.le_of_ble_eq_true rfl), (Nat.le_of_ble_eq_true rfl)⟩) (fun H locs w => ?_)
      exact cw_iret cx (rt_e h) w dX8_act_63
    replace h := br_n q_110 h
    by_cases q_118 : a2 = (1 : Int32)
    · replace h := br_p q_118 h
      refine lv_tableIn (tgt := 64) hx hb dX8_act_23 (by rw [q_118]; decide) (by rw [q_118]; decide) (by rw [q_118]; rfl) (by decide) ?_
      refine lv_aload_n hx hb dX8_act_64 rfl (lv_at hl 1 rfl) ?_
      replace h := ck_e h
      obtain ⟨hk_119, h⟩ := h
      replace h := nn_e h
      obtain ⟨b_120, hbb_120, h⟩ := h
      refine cw_getS cx hsub w kT9 hk_119 7 (by decide) hbb_120 ⟨hsub _ uf_RX8_53, Or.inl rfl⟩ dX8_act_65 ?_
      refine lv_aload hx hb dX8_act_68 (lv_at hl 0 rfl) ?_
      refine lv_aload hx hb dX8_act_70 (lv_at hl 0 rfl) ?_
      replace h := ck_e h
      obtain ⟨hk_121, h⟩ := h
      refine cw_getI cx hsub w kT8 hk_121 1 (by decide) ⟨hsub _ uf_RX8_111, Or.inl rfl⟩ dX8_act_72 ?_
      refine lv_iload_n hx hb dX8_act_75 rfl (lv_at hl 4 rfl) ?_
      replace h := bd_e h
      obtain ⟨r_123, P_122, hc_124, h⟩ := h
      replace h := ck_e h
      obtain ⟨hk_125, h⟩ := h
      refine cc_i (cr_VN (As := [.ref b_109, .int (pI P_105 b_109 1), .int a3]) (rest := []) cx (hcc_X0_keeps l D cs t0 8  P_105 P_122 b_120 b_109 (pI P_105 b_109 1) a3 r_123 hc_124) kT1 hk_125 ⟨va_cnB (host := "HeardWords") 3 hts (uGB uw_X0_keeps) rfl rfl rfl (w.2.2.2.2.2.2.1.2.1 ("HeardWords", 260, yX0_keeps, "HeardWords") (by decide +kernel)) (hts _ (hsub _ un_RX0)) ud_X0_keeps.2 ⟨Nat.le_of_ble_eq_true rfl, Nat.le_of_ble_eq_true rfl⟩, hts _ (hsub _ ui_X0_keeps), hts _ (hsub _ us_RX0_X0_keeps)⟩ w rfl hl.1 rfl (Nat.le_of_ble_eq_true rfl) dX8_act_76 ⟨(Nat.le_of_ble_eq_true rfl), (Nat.le_of_ble_eq_true rfl)⟩) (fun H locs w => ?_)
      exact cw_iret cx (rt_e h) w dX8_act_79
    replace h := br_n q_118 h
    by_cases q_126 : a2 = (2 : Int32)
    · replace h := br_p q_126 h
      refine lv_tableIn (tgt := 80) hx hb dX8_act_23 (by rw [q_126]; decide) (by rw [q_126]; decide) (by rw [q_126]; rfl) (by decide) ?_
      refine lv_aload_n hx hb dX8_act_80 rfl (lv_at hl 1 rfl) ?_
      replace h := ck_e h
      obtain ⟨hk_127, h⟩ := h
      replace h := nn_e h
      obtain ⟨b_128, hbb_128, h⟩ := h
      refine cw_getS cx hsub w kT9 hk_127 7 (by decide) hbb_128 ⟨hsub _ uf_RX8_53, Or.inl rfl⟩ dX8_act_81 ?_
      refine lv_aload hx hb dX8_act_84 (lv_at hl 0 rfl) ?_
      refine lv_aload hx hb dX8_act_86 (lv_at hl 0 rfl) ?_
      replace h := ck_e h
      obtain ⟨hk_129, h⟩ := h
      refine cw_getI cx hsub w kT8 hk_129 1 (by decide) ⟨hsub _ uf_RX8_111, Or.inl rfl⟩ dX8_act_88 ?_
      refine lv_iload_n hx hb dX8_act_91 rfl (lv_at hl 4 rfl) ?_
      replace h := bd_e h
      obtain ⟨r_131, P_130, hc_132, h⟩ := h
      replace h := ck_e h
      obtain ⟨hk_133, h⟩ := h
      refine cc_i (cr_VN (As := [.ref b_109, .int (pI P_105 b_109 1), .int a3]) (rest := []) cx (hcc_X0_tells l D cs t0 8  P_105 P_130 b_128 b_109 (pI P_105 b_109 1) a3 r_131 hc_132) kT1 hk_133 ⟨va_cnB (host := "HeardWords") 3 hts (uGB uw_X0_tells) rfl rfl rfl (w.2.2.2.2.2.2.1.2.1 ("HeardWords", 263, yX0_tells, "HeardWords") (by decide +kernel)) (hts _ (hsub _ un_RX0)) ud_X0_tells.2 ⟨Nat.le_of_ble_eq_true rfl, Nat.le_of_ble_eq_true rfl⟩, hts _ (hsub _ ui_X0_tells), hts _ (hsub _ us_RX0_X0_tells)⟩ w rfl hl.1 rfl (Nat.le_of_ble_eq_true rfl) dX8_act_92 ⟨(Nat.le_of_ble_eq_true rfl), (Nat.le_of_ble_eq_true rfl)⟩) (fun H locs w => ?_)
      exact cw_iret cx (rt_e h) w dX8_act_95
    replace h := br_n q_126 h
    refine lv_tableH (tgt := 96) hx hb dX8_act_23 (by exact Or.inl (by have := lv_neT q_110 (a := 0) (by decide); have := lv_neT q_118 (a := 1) (by decide); have := lv_neT q_126 (a := 2) (by decide); omega)) (by decide) ?_
    refine lv_iconst (v := (0 : Int32)) hx hb dX8_act_96 (by decide) ?_
    exact cw_iret cx (rt_e h) w dX8_act_97
def hm_X8_trace (P : PS) (th : Nat) (a1 : Int32) : Option (Int32 × PS) := ck (kk P th 9) (nn (pR P th 7) (fun b_102 => bd (hm_X0_traced  P b_102 a1) (fun r_104 P_103 => ck (kk P b_102 1) (some (r_104, P_103)))))
abbrev wu_X8_trace : List Cond := .code yX8_trace cX8_trace 2 (some .int) :: wsL_law
theorem ud_X8_trace : yX8_trace.cls = RX8 ∧ yX8_trace.cls ≠ "java/lang/invoke/MethodHandle" ∧ yX8_trace.cls ≠ "java/lang/invoke/VarHandle" ∧ (parseMethodDescriptor yX8_trace.desc).map (fun d => d.parameters.length) = some 1 := by decide +kernel
abbrev rmc_X8_trace : Room := { frames := 1, cells := 0, slots := 0, locals := 21 }
set_option maxHeartbeats 4000000 in
set_option maxRecDepth 100000 in
theorem hcc_X8_trace (l : Launch) (D : va_G) (cs : Nat → ClassId) (t0 : TS) (P0 T : PS) (th : Nat) (a1 : Int32) (r0 : Int32) (h : hm_X8_trace P0 th a1 = some (r0, T)) : MetCI l yX8_trace wu_X8_trace rmc_X8_trace D cs t0 [.ref th, .int a1] P0 T r0 0 0 := by
  refine co_start (own := RX8) (ty := (some .int)) (cc := cX8_trace) (maxL := 2) ⟨by decide, rfl⟩ rfl (Nat.le_of_ble_eq_true rfl) ?_
  intro p e s m args below meth c ls cx hnm hl w
  have hx := cx.1
  have hb := cx.2.1
  have hts := cx.2.2.2.1
  have hown := cx.2.2.2.2.1
  have hml := cx.2.2.2.2.2.2
  have hsub : ∀ w ∈ wsL_law, w ∈ wu_X8_trace := fun _ hq => List.mem_cons_of_mem _ hq
  have hl : lv_has ls 2 [(0, .ref th), (1, .int a1)] := hl
  have hP0 : P0 = P0 := rfl
  unfold hm_X8_trace at h
  refine lv_aload_n hx hb dX8_trace_0 rfl (lv_at hl 0 rfl) ?_
  replace h := ck_e h
  obtain ⟨hk_101, h⟩ := h
  replace h := nn_e h
  obtain ⟨b_102, hbb_102, h⟩ := h
  refine cw_getS cx hsub w kT9 hk_101 7 (by decide) hbb_102 ⟨hsub _ uf_RX8_53, Or.inl rfl⟩ dX8_trace_1 ?_
  refine lv_iload_n hx hb dX8_trace_4 rfl (lv_at hl 1 rfl) ?_
  replace h := bd_e h
  obtain ⟨r_104, P_103, hc_105, h⟩ := h
  replace h := ck_e h
  obtain ⟨hk_106, h⟩ := h
  refine cc_i (cr_VN (As := [.int a1]) (rest := []) cx (hcc_X0_traced l D cs t0  P0 P_103 b_102 a1 r_104 hc_105) kT1 hk_106 ⟨va_cnB (host := "HeardWords") 1 hts (uGB uw_X0_traced) rfl rfl rfl (w.2.2.2.2.2.2.1.2.1 ("HeardWords", 266, yX0_traced, "HeardWords") (by decide +kernel)) (hts _ (hsub _ un_RX0)) ud_X0_traced.2 ⟨Nat.le_of_ble_eq_true rfl, Nat.le_of_ble_eq_true rfl⟩, hts _ (hsub _ ui_X0_traced), hts _ (hsub _ us_RX0_X0_traced)⟩ w rfl hl.1 rfl (Nat.le_of_ble_eq_true rfl) dX8_trace_5 ⟨(Nat.le_of_ble_eq_true rfl), (Nat.le_of_ble_eq_true rfl)⟩) (fun H locs w => ?_)
  exact cw_iret cx (rt_e h) w dX8_trace_8
def hm_X8_taken (P : PS) (th : Nat) (a1 : Int32) (a2 : Int32) : Option (Int32 × PS) := bd (hm_X8_within  P a2 (7 : Int32)) (fun r_102 P_101 => if r_102 = (0 : Int32) then (some ((-2 : Int32), P_101)) else (bd (hm_X8_wordAt  P_101 th a1) (fun o_105 P_104 => ck (kk P_101 th 9) (nl o_105 (some ((-11 : Int32), P_104)) (fun b_108 => ck (kk P_104 b_108 8) (bd (hm_X8_has  P_104 (pI P_104 b_108 2) a2) (fun r_111 P_110 => if r_111 = (0 : Int32) then (some ((-12 : Int32), P_110)) else (ck (kk P_110 b_108 8) (some ((pI P_110 b_108 1), P_110))))))))))
abbrev wu_X8_taken : List Cond := .code yX8_taken cX8_taken 4 (some .int) :: wsL_law
theorem ud_X8_taken : yX8_taken.cls = RX8 ∧ yX8_taken.cls ≠ "java/lang/invoke/MethodHandle" ∧ yX8_taken.cls ≠ "java/lang/invoke/VarHandle" ∧ (parseMethodDescriptor yX8_taken.desc).map (fun d => d.parameters.length) = some 2 := by decide +kernel
abbrev rmc_X8_taken : Room := { frames := 4, cells := 0, slots := 0, locals := 85 }
set_option maxHeartbeats 4000000 in
set_option maxRecDepth 100000 in
theorem hcc_X8_taken (l : Launch) (D : va_G) (cs : Nat → ClassId) (t0 : TS) (P0 T : PS) (th : Nat) (a1 : Int32) (a2 : Int32) (r0 : Int32) (h : hm_X8_taken P0 th a1 a2 = some (r0, T)) : MetCI l yX8_taken wu_X8_taken rmc_X8_taken D cs t0 [.ref th, .int a1, .int a2] P0 T r0 0 0 := by
  refine co_start (own := RX8) (ty := (some .int)) (cc := cX8_taken) (maxL := 4) ⟨by decide, rfl⟩ rfl (Nat.le_of_ble_eq_true rfl) ?_
  intro p e s m args below meth c ls cx hnm hl w
  have hx := cx.1
  have hb := cx.2.1
  have hts := cx.2.2.2.1
  have hown := cx.2.2.2.2.1
  have hml := cx.2.2.2.2.2.2
  have hsub : ∀ w ∈ wsL_law, w ∈ wu_X8_taken := fun _ hq => List.mem_cons_of_mem _ hq
  have hl : lv_has ls 4 [(0, .ref th), (1, .int a1), (2, .int a2)] := hl
  have hP0 : P0 = P0 := rfl
  unfold hm_X8_taken at h
  refine lv_iload_n hx hb dX8_taken_0 rfl (lv_at hl 2 rfl) ?_
  refine lv_bipush (v := (7 : Int32)) hx hb dX8_taken_1 (by decide) ?_
  replace h := bd_e h
  obtain ⟨r_102, P_101, hc_103, h⟩ := h
  refine cc_i (cr_S (As := [.int a2, .int (7 : Int32)]) (rest := []) cx (hcc_X8_within l D cs t0  P0 P_101 a2 (7 : Int32) r_102 hc_103) (va_cwS 2 hts (uGS uw_X8_within ul_RX8_72 ut_X8_within un_RX8) rfl rfl rfl ud_X8_within.2 ⟨Nat.le_of_ble_eq_true rfl, Nat.le_of_ble_eq_true rfl⟩) w rfl hl.1 rfl (Nat.le_of_ble_eq_true rfl) dX8_taken_3 ⟨(Nat.le_of_ble_eq_true rfl), (Nat.le_of_ble_eq_true rfl)⟩) (fun H locs w => ?_)
  refine lv_if_ne (tgt := 12) hx hb dX8_taken_6 (by decide) (fun q => ?_) (fun q => ?_)
  · replace h := br_n q h
    refine lv_aload_n hx hb dX8_taken_12 rfl (lv_at hl 0 rfl) ?_
    refine lv_iload_n hx hb dX8_taken_13 rfl (lv_at hl 1 rfl) ?_
    replace h := bd_e h
    obtain ⟨o_105, P_104, hc_106, h⟩ := h
    replace h := ck_e h
    obtain ⟨hk_107, h⟩ := h
    refine cc_q (cr_V (As := [.int a1]) (rest := []) cx (hcc_X8_wordAt l D cs t0  P_101 P_104 th a1 o_105 hc_106) kT9 hk_107 (cwV 1 hts (uG uw_X8_wordAt ul_RX8_95 ui_X8_wordAt us_RX8_X8_wordAt un_RX8) rfl rfl rfl ud_X8_wordAt ⟨Nat.le_of_ble_eq_true rfl, Nat.le_of_ble_eq_true rfl⟩) w rfl hl.1 rfl (Nat.le_of_ble_eq_true rfl) dX8_taken_14 ⟨(Nat.le_of_ble_eq_true rfl), (Nat.le_of_ble_eq_true rfl)⟩) (fun H locs w => ?_)
    refine lq_astore_n (lv' := [(3, va_rf o_105), (0, .ref th), (1, .int a1), (2, .int a2)]) hx hb dX8_taken_17 rfl hl (by decide) (fun v hv => by subst hv; exact (rfl)) (fun ls hl => ?_)
    refine lq_aload_n hx hb dX8_taken_18 rfl (lv_at hl 0 rfl) ?_
    cases o_105 with
    | none =>
      replace h := nl_n h
      have hl : lv_has ls 4 [(3, .null), (0, .ref th), (1, .int a1), (2, .int a2)] := hl
      refine lv_ifnonnullN hx hb dX8_taken_19 ?_
      refine lv_bipush (v := (-11 : Int32)) hx hb dX8_taken_22 (by decide) ?_
      exact cw_iret cx (rt_e h) w dX8_taken_24
    | some b_108 =>
      replace h := nl_s h
      have hl : lv_has ls 4 [(3, .ref b_108), (0, .ref th), (1, .int a1), (2, .int a2)] := hl
      refine lv_ifnonnull (tgt := 25) hx hb dX8_taken_19 (by decide) ?_
      refine lv_aload_n hx hb dX8_taken_25 rfl (lv_at hl 0 rfl) ?_
      replace h := ck_e h
      obtain ⟨hk_109, h⟩ := h
      refine cw_getI cx hsub w kT8 hk_109 2 (by decide) ⟨hsub _ uf_RX8_269, Or.inl rfl⟩ dX8_taken_26 ?_
      refine lv_iload_n hx hb dX8_taken_29 rfl (lv_at hl 3 rfl) ?_
      replace h := bd_e h
      obtain ⟨r_111, P_110, hc_112, h⟩ := h
      refine cc_i (cr_S (As := [.int (pI P_104 b_108 2), .int a2]) (rest := []) cx (hcc_X8_has l D cs t0  P_104 P_110 (pI P_104 b_108 2) a2 r_111 hc_112) (va_cwS 2 hts (uGS uw_X8_has ul_RX8_105 ut_X8_has un_RX8) rfl rfl rfl ud_X8_has.2 ⟨Nat.le_of_ble_eq_true rfl, Nat.le_of_ble_eq_true rfl⟩) w rfl hl.1 rfl (Nat.le_of_ble_eq_true rfl) dX8_taken_30 ⟨(Nat.le_of_ble_eq_true rfl), (Nat.le_of_ble_eq_true rfl)⟩) (fun H locs w => ?_)
      refine lv_if_eq (tgt := 43) hx hb dX8_taken_33 (by decide) (fun q => ?_) (fun q => ?_)
      · replace h := br_p q h
        refine lv_bipush (v := (-12 : Int32)) hx hb dX8_taken_43 (by decide) ?_
        exact cw_iret cx (rt_e h) w dX8_taken_45
      · replace h := br_n q h
        refine lv_aload_n hx hb dX8_taken_36 rfl (lv_at hl 0 rfl) ?_
        replace h := ck_e h
        obtain ⟨hk_113, h⟩ := h
        refine cw_getI cx hsub w kT8 hk_113 1 (by decide) ⟨hsub _ uf_RX8_111, Or.inl rfl⟩ dX8_taken_37 ?_
        refine lv_goto (tgt := 45) hx hb dX8_taken_40 (by decide) ?_
        exact cw_iret cx (rt_e h) w dX8_taken_45
  · replace h := br_p q h
    refine lv_bipush (v := (-2 : Int32)) hx hb dX8_taken_9 (by decide) ?_
    exact cw_iret cx (rt_e h) w dX8_taken_11
def hm_X8_rulesOfFirstLand_35 (k4 : Nat → Int32 → Int32 → PS → Option (Int32 × PS)) (o0 : Nat) (x1 : Int32) (x2 : Int32) (P : PS) : Option (Int32 × PS) := lt_ (x2 + (1 : Int32)) (fun x2_101 => k4 o0 x1 x2_101 P)
def hm_X8_rulesOfFirstLand_4 (k4 : Nat → Int32 → Int32 → PS → Option (Int32 × PS)) (o0 : Nat) (x1 : Int32) (x2 : Int32) (P : PS) : Option (Int32 × PS) := ck (kk P o0 9) (nn (pR P o0 2) (fun b_203 => bd (hm_Jx4a65c_size_8abf5  P b_203) (fun r_205 P_204 => ck (kk P b_203 0) (if r_205 ≤ x2 then (some (x1, P_204)) else (ck (kk P_204 o0 9) (nn (pR P_204 o0 2) (fun b_209 => bd (hm_Jx4a65c_get_915e3  P_204 b_209 x2) (fun o_211 P_210 => ck (kk P_204 b_209 0) (nn o_211 (fun b_214 => ck (kk P_210 b_214 5) (if (pI P_210 b_214 1) = (0 : Int32) then (lt_ (x1 + (1 : Int32)) (fun x1_216 => hm_X8_rulesOfFirstLand_35 k4 o0 x1_216 x2 P_210)) else (hm_X8_rulesOfFirstLand_35 k4 o0 x1 x2 P_210))))))))))))
def hm_X8_rulesOfFirstLand_4L : Nat → Nat → Int32 → Int32 → PS → Option (Int32 × PS)
  | 0, _, _, _, _ => none
  | n + 1, o0, x1, x2, P => hm_X8_rulesOfFirstLand_4  (hm_X8_rulesOfFirstLand_4L  n) o0 x1 x2 P
def hm_X8_rulesOfFirstLand (P : PS) (th : Nat) : Option (Int32 × PS) := lt_ ((0 : Int32)) (fun x1_317 => lt_ ((0 : Int32)) (fun x2_318 => hm_X8_rulesOfFirstLand_4L  4000 th x1_317 x2_318 P))
abbrev wu_X8_rulesOfFirstLand : List Cond := .code yX8_rulesOfFirstLand cX8_rulesOfFirstLand 3 (some .int) :: wsL_law
theorem ud_X8_rulesOfFirstLand : yX8_rulesOfFirstLand.cls = RX8 ∧ yX8_rulesOfFirstLand.cls ≠ "java/lang/invoke/MethodHandle" ∧ yX8_rulesOfFirstLand.cls ≠ "java/lang/invoke/VarHandle" ∧ (parseMethodDescriptor yX8_rulesOfFirstLand.desc).map (fun d => d.parameters.length) = some 0 := by decide +kernel
abbrev rmc_X8_rulesOfFirstLand : Room := { frames := 3, cells := 0, slots := 0, locals := 64 }
set_option maxHeartbeats 4000000 in
set_option maxRecDepth 100000 in
theorem hcc_X8_rulesOfFirstLand (l : Launch) (D : va_G) (cs : Nat → ClassId) (t0 : TS) (P0 T : PS) (th : Nat) (r0 : Int32) (h : hm_X8_rulesOfFirstLand P0 th = some (r0, T)) : MetCI l yX8_rulesOfFirstLand wu_X8_rulesOfFirstLand rmc_X8_rulesOfFirstLand D cs t0 [.ref th] P0 T r0 0 0 := by
  refine co_start (own := RX8) (ty := (some .int)) (cc := cX8_rulesOfFirstLand) (maxL := 3) ⟨by decide, rfl⟩ rfl (Nat.le_of_ble_eq_true rfl) ?_
  intro p e s m args below meth c ls cx hnm hl w
  have hx := cx.1
  have hb := cx.2.1
  have hts := cx.2.2.2.1
  have hown := cx.2.2.2.2.1
  have hml := cx.2.2.2.2.2.2
  have hsub : ∀ w ∈ wsL_law, w ∈ wu_X8_rulesOfFirstLand := fun _ hq => List.mem_cons_of_mem _ hq
  have hl : lv_has ls 3 [(0, .ref th)] := hl
  have J35 : ∀ (k4 : Nat → Int32 → Int32 → PS → Option (Int32 × PS)) (hk4 : ∀ (o0 : Nat) (x1 : Int32) (x2 : Int32) (P : PS), k4 o0 x1 x2 P = some (r0, T) → cGo p l e rmc_X8_rulesOfFirstLand s m args below meth c 3 D cs t0 (pA P0) (cQI below D cs P0 args s 0 0 r0 T) 0 0 4 [(0, .ref o0), (1, .int x1), (2, .int x2)] [] P) (o0 : Nat) (x1 : Int32) (x2 : Int32) (P : PS), hm_X8_rulesOfFirstLand_35 k4 o0 x1 x2 P = some (r0, T) → cGo p l e rmc_X8_rulesOfFirstLand s m args below meth c 3 D cs t0 (pA P0) (cQI below D cs P0 args s 0 0 r0 T) 0 0 35 [(0, .ref o0), (1, .int x1), (2, .int x2)] [] P := by
    intro k4 hk4 o0 x1 x2 P h H locs ls hl w
    unfold hm_X8_rulesOfFirstLand_35 at h
    replace h := lt_e h
    obtain ⟨x2_101, ex2_101, h⟩ := h
    refine lv_iinc (v := x2_101) (lv' := [(2, .int x2_101), (0, .ref o0), (1, .int x1)]) hx hb dX8_rulesOfFirstLand_35 hl (k := 2) rfl (by rw [ex2_101]; rfl) (by decide) (rfl) (fun ls hl => ?_)
    refine lv_goto (tgt := 4) hx hb dX8_rulesOfFirstLand_38 (by decide) ?_
    exact hk4 o0 x1 x2_101 P h _ _ _ (lv_sub hl [1, 2, 0] rfl) w
  have L4 : ∀ (n : Nat) (o0 : Nat) (x1 : Int32) (x2 : Int32) (P : PS), hm_X8_rulesOfFirstLand_4L  n o0 x1 x2 P = some (r0, T) → cGo p l e rmc_X8_rulesOfFirstLand s m args below meth c 3 D cs t0 (pA P0) (cQI below D cs P0 args s 0 0 r0 T) 0 0 4 [(0, .ref o0), (1, .int x1), (2, .int x2)] [] P := by
    intro n
    induction n with
    | zero =>
      intro o0 x1 x2 P h
      have h : none = some (r0, T) := h
      cases h
    | succ n hk4 =>
      intro o0 x1 x2 P h H locs ls hl w
      have h : hm_X8_rulesOfFirstLand_4  (hm_X8_rulesOfFirstLand_4L  n) o0 x1 x2 P = some (r0, T) := h
      generalize hm_X8_rulesOfFirstLand_4L  n = k4 at h hk4
      unfold hm_X8_rulesOfFirstLand_4 at h
      refine lv_iload_n hx hb dX8_rulesOfFirstLand_4 rfl (lv_at hl 2 rfl) ?_
      refine lv_aload_n hx hb dX8_rulesOfFirstLand_5 rfl (lv_at hl 0 rfl) ?_
      replace h := ck_e h
      obtain ⟨hk_202, h⟩ := h
      replace h := nn_e h
      obtain ⟨b_203, hbb_203, h⟩ := h
      refine cw_getS cx hsub w kT9 hk_202 2 (by decide) hbb_203 ⟨hsub _ uf_RX8_24, Or.inl rfl⟩ dX8_rulesOfFirstLand_6 ?_
      replace h := bd_e h
      obtain ⟨r_205, P_204, hc_206, h⟩ := h
      replace h := ck_e h
      obtain ⟨hk_207, h⟩ := h
      refine cc_i (cr_V (As := []) (rest := [.int x2]) cx (hcc_Jx4a65c_size_8abf5 l D cs t0  P P_204 b_203 r_205 hc_206) kT0 hk_207 (cwV 0 hts (uG uw_Jx4a65c_size_8abf5 ul_RX8_80 ui_Jx4a65c_size_8abf5 us_RJx4a65c_Jx4a65c_size_8abf5 un_RJx4a65c) rfl rfl rfl ud_Jx4a65c_size_8abf5 ⟨Nat.le_of_ble_eq_true rfl, Nat.le_of_ble_eq_true rfl⟩) w rfl hl.1 rfl (Nat.le_of_ble_eq_true rfl) dX8_rulesOfFirstLand_9 ⟨(Nat.le_of_ble_eq_true rfl), (Nat.le_of_ble_eq_true rfl)⟩) (fun H locs w => ?_)
      refine lv_icmp_ge (tgt := 41) hx hb dX8_rulesOfFirstLand_12 (by decide) (fun q => ?_) (fun q => ?_)
      · replace h := br_p q h
        refine lv_iload_n hx hb dX8_rulesOfFirstLand_41 rfl (lv_at hl 1 rfl) ?_
        exact cw_iret cx (rt_e h) w dX8_rulesOfFirstLand_42
      · replace h := br_n q h
        refine lv_aload_n hx hb dX8_rulesOfFirstLand_15 rfl (lv_at hl 0 rfl) ?_
        replace h := ck_e h
        obtain ⟨hk_208, h⟩ := h
        replace h := nn_e h
        obtain ⟨b_209, hbb_209, h⟩ := h
        refine cw_getS cx hsub w kT9 hk_208 2 (by decide) hbb_209 ⟨hsub _ uf_RX8_24, Or.inl rfl⟩ dX8_rulesOfFirstLand_16 ?_
        refine lv_iload_n hx hb dX8_rulesOfFirstLand_19 rfl (lv_at hl 2 rfl) ?_
        replace h := bd_e h
        obtain ⟨o_211, P_210, hc_212, h⟩ := h
        replace h := ck_e h
        obtain ⟨hk_213, h⟩ := h
        refine cc_q (cr_V (As := [.int x2]) (rest := []) cx (hcc_Jx4a65c_get_915e3 l D cs t0  P_204 P_210 b_209 x2 o_211 hc_212) kT0 hk_213 (cwV 1 hts (uG uw_Jx4a65c_get_915e3 ul_RX8_220 ui_Jx4a65c_get_915e3 us_RJx4a65c_Jx4a65c_get_915e3 un_RJx4a65c) rfl rfl rfl ud_Jx4a65c_get_915e3 ⟨Nat.le_of_ble_eq_true rfl, Nat.le_of_ble_eq_true rfl⟩) w rfl hl.1 rfl (Nat.le_of_ble_eq_true rfl) dX8_rulesOfFirstLand_20 ⟨(Nat.le_of_ble_eq_true rfl), (Nat.le_of_ble_eq_true rfl)⟩) (fun H locs w => ?_)
        replace h := nn_e h
        obtain ⟨b_214, hbb_214, h⟩ := h
        subst hbb_214
        have hl : lv_has ls 3 [(0, .ref o0), (1, .int x1), (2, .int x2)] := hl
        refine W.eq (g2 := F0 m _ ls [.ref b_214]) rfl ?_
        replace h := ck_e h
        obtain ⟨hk_215, h⟩ := h
        refine cw_cast cx w kT5 hk_215 (hsub _ ucl_RX8_153) dX8_rulesOfFirstLand_23 ?_
        refine cw_getI cx hsub w kT5 hk_215 1 (by decide) ⟨hsub _ uf_RX8_224, Or.inl rfl⟩ dX8_rulesOfFirstLand_26 ?_
        refine lv_if_ne (tgt := 35) hx hb dX8_rulesOfFirstLand_29 (by decide) (fun q => ?_) (fun q => ?_)
        · replace h := br_n q h
          exact J35 k4 hk4 o0 x1 x2 P_210 h _ _ _ (lv_sub hl [0, 1, 2] rfl) w
        · replace h := br_p q h
          replace h := lt_e h
          obtain ⟨x1_216, ex1_216, h⟩ := h
          refine lv_iinc (v := x1_216) (lv' := [(1, .int x1_216), (0, .ref o0), (2, .int x2)]) hx hb dX8_rulesOfFirstLand_32 hl (k := 1) rfl (by rw [ex1_216]; rfl) (by decide) (rfl) (fun ls hl => ?_)
          exact J35 k4 hk4 o0 x1_216 x2 P_210 h _ _ _ (lv_sub hl [1, 0, 2] rfl) w
  have hP0 : P0 = P0 := rfl
  unfold hm_X8_rulesOfFirstLand at h
  refine lv_iconst (v := (0 : Int32)) hx hb dX8_rulesOfFirstLand_0 (by decide) ?_
  replace h := lt_e h
  obtain ⟨x1_317, ex1_317, h⟩ := h
  refine top_i ex1_317 ?_
  refine lv_istore_n (lv' := [(1, .int x1_317), (0, .ref th)]) hx hb dX8_rulesOfFirstLand_1 rfl hl (by decide) (rfl) (fun ls hl => ?_)
  refine lv_iconst (v := (0 : Int32)) hx hb dX8_rulesOfFirstLand_2 (by decide) ?_
  replace h := lt_e h
  obtain ⟨x2_318, ex2_318, h⟩ := h
  refine top_i ex2_318 ?_
  refine lv_istore_n (lv' := [(2, .int x2_318), (1, .int x1_317), (0, .ref th)]) hx hb dX8_rulesOfFirstLand_3 rfl hl (by decide) (rfl) (fun ls hl => ?_)
  exact L4  4000 th x1_317 x2_318 P0 h _ _ _ (lv_sub hl [2, 1, 0] rfl) w
def hm_X8_count (P : PS) (th : Nat) (a1 : Int32) : Option (Int32 × PS) := if a1 = (0 : Int32) then (ck (kk P th 9) (nn (pR P th 1) (fun b_103 => bd (hm_Jx4a65c_size_8abf5  P b_103) (fun r_105 P_104 => ck (kk P b_103 0) (some (r_105, P_104)))))) else (if a1 = (1 : Int32) then (ck (kk P th 9) (nn (pR P th 2) (fun b_110 => bd (hm_Jx4a65c_size_8abf5  P b_110) (fun r_112 P_111 => ck (kk P b_110 0) (some (r_112, P_111)))))) else (if a1 = (2 : Int32) then (ck (kk P th 9) (nn (pR P th 3) (fun b_117 => ck (kk P b_117 4) (some ((pI P b_117 2), P))))) else (if a1 = (3 : Int32) then (bd (hm_X8_rulesOfFirstLand  P th) (fun r_121 P_120 => ck (kk P th 9) (some (r_121, P_120)))) else (if a1 = (4 : Int32) then (ck (kk P th 9) (nn (pR P th 7) (fun b_126 => ck (kk P b_126 1) (some ((pI P b_126 1), P))))) else (some ((-2 : Int32), P))))))
abbrev wu_X8_count : List Cond := .code yX8_count cX8_count 2 (some .int) :: wsL_law
theorem ud_X8_count : yX8_count.cls = RX8 ∧ yX8_count.cls ≠ "java/lang/invoke/MethodHandle" ∧ yX8_count.cls ≠ "java/lang/invoke/VarHandle" ∧ (parseMethodDescriptor yX8_count.desc).map (fun d => d.parameters.length) = some 1 := by decide +kernel
abbrev rmc_X8_count : Room := { frames := 4, cells := 0, slots := 0, locals := 86 }
set_option maxHeartbeats 4000000 in
set_option maxRecDepth 100000 in
theorem hcc_X8_count (l : Launch) (D : va_G) (cs : Nat → ClassId) (t0 : TS) (P0 T : PS) (th : Nat) (a1 : Int32) (r0 : Int32) (h : hm_X8_count P0 th a1 = some (r0, T)) : MetCI l yX8_count wu_X8_count rmc_X8_count D cs t0 [.ref th, .int a1] P0 T r0 0 0 := by
  refine co_start (own := RX8) (ty := (some .int)) (cc := cX8_count) (maxL := 2) ⟨by decide, rfl⟩ rfl (Nat.le_of_ble_eq_true rfl) ?_
  intro p e s m args below meth c ls cx hnm hl w
  have hx := cx.1
  have hb := cx.2.1
  have hts := cx.2.2.2.1
  have hown := cx.2.2.2.2.1
  have hml := cx.2.2.2.2.2.2
  have hsub : ∀ w ∈ wsL_law, w ∈ wu_X8_count := fun _ hq => List.mem_cons_of_mem _ hq
  have hl : lv_has ls 2 [(0, .ref th), (1, .int a1)] := hl
  have hP0 : P0 = P0 := rfl
  unfold hm_X8_count at h
  refine lv_iload_n hx hb dX8_count_0 rfl (lv_at hl 1 rfl) ?_
  by_cases q_101 : a1 = (0 : Int32)
  · replace h := br_p q_101 h
    refine lv_tableIn (tgt := 36) hx hb dX8_count_1 (by rw [q_101]; decide) (by rw [q_101]; decide) (by rw [q_101]; rfl) (by decide) ?_
    refine lv_aload_n hx hb dX8_count_36 rfl (lv_at hl 0 rfl) ?_
    replace h := ck_e h
    obtain ⟨hk_102, h⟩ := h
    replace h := nn_e h
    obtain ⟨b_103, hbb_103, h⟩ := h
    refine cw_getS cx hsub w kT9 hk_102 1 (by decide) hbb_103 ⟨hsub _ uf_RX8_20, Or.inl rfl⟩ dX8_count_37 ?_
    replace h := bd_e h
    obtain ⟨r_105, P_104, hc_106, h⟩ := h
    replace h := ck_e h
    obtain ⟨hk_107, h⟩ := h
    refine cc_i (cr_V (As := []) (rest := []) cx (hcc_Jx4a65c_size_8abf5 l D cs t0  P0 P_104 b_103 r_105 hc_106) kT0 hk_107 (cwV 0 hts (uG uw_Jx4a65c_size_8abf5 ul_RX8_80 ui_Jx4a65c_size_8abf5 us_RJx4a65c_Jx4a65c_size_8abf5 un_RJx4a65c) rfl rfl rfl ud_Jx4a65c_size_8abf5 ⟨Nat.le_of_ble_eq_true rfl, Nat.le_of_ble_eq_true rfl⟩) w rfl hl.1 rfl (Nat.le_of_ble_eq_true rfl) dX8_count_40 ⟨(Nat.le_of_ble_eq_true rfl), (Nat.le_of_ble_eq_true rfl)⟩) (fun H locs w => ?_)
    exact cw_iret cx (rt_e h) w dX8_count_43
  replace h := br_n q_101 h
  by_cases q_108 : a1 = (1 : Int32)
  · replace h := br_p q_108 h
    refine lv_tableIn (tgt := 44) hx hb dX8_count_1 (by rw [q_108]; decide) (by rw [q_108]; decide) (by rw [q_108]; rfl) (by decide) ?_
    refine lv_aload_n hx hb dX8_count_44 rfl (lv_at hl 0 rfl) ?_
    replace h := ck_e h
    obtain ⟨hk_109, h⟩ := h
    replace h := nn_e h
    obtain ⟨b_110, hbb_110, h⟩ := h
    refine cw_getS cx hsub w kT9 hk_109 2 (by decide) hbb_110 ⟨hsub _ uf_RX8_24, Or.inl rfl⟩ dX8_count_45 ?_
    replace h := bd_e h
    obtain ⟨r_112, P_111, hc_113, h⟩ := h
    replace h := ck_e h
    obtain ⟨hk_114, h⟩ := h
    refine cc_i (cr_V (As := []) (rest := []) cx (hcc_Jx4a65c_size_8abf5 l D cs t0  P0 P_111 b_110 r_112 hc_113) kT0 hk_114 (cwV 0 hts (uG uw_Jx4a65c_size_8abf5 ul_RX8_80 ui_Jx4a65c_size_8abf5 us_RJx4a65c_Jx4a65c_size_8abf5 un_RJx4a65c) rfl rfl rfl ud_Jx4a65c_size_8abf5 ⟨Nat.le_of_ble_eq_true rfl, Nat.le_of_ble_eq_true rfl⟩) w rfl hl.1 rfl (Nat.le_of_ble_eq_true rfl) dX8_count_48 ⟨(Nat.le_of_ble_eq_true rfl), (Nat.le_of_ble_eq_true rfl)⟩) (fun H locs w => ?_)
    exact cw_iret cx (rt_e h) w dX8_count_51
  replace h := br_n q_108 h
  by_cases q_115 : a1 = (2 : Int32)
  · replace h := br_p q_115 h
    refine lv_tableIn (tgt := 52) hx hb dX8_count_1 (by rw [q_115]; decide) (by rw [q_115]; decide) (by rw [q_115]; rfl) (by decide) ?_
    refine lv_aload_n hx hb dX8_count_52 rfl (lv_at hl 0 rfl) ?_
    replace h := ck_e h
    obtain ⟨hk_116, h⟩ := h
    replace h := nn_e h
    obtain ⟨b_117, hbb_117, h⟩ := h
    refine cw_getS cx hsub w kT9 hk_116 3 (by decide) hbb_117 ⟨hsub _ uf_RX8_30, Or.inl rfl⟩ dX8_count_53 ?_
    replace h := ck_e h
    obtain ⟨hk_118, h⟩ := h
    refine cw_getIN cx hsub w kT4 hk_118 2 (by decide) (host := "HeardWords") (by decide +kernel) dX8_count_56 ?_
    exact cw_iret cx (rt_e h) w dX8_count_59
  replace h := br_n q_115 h
  by_cases q_119 : a1 = (3 : Int32)
  · replace h := br_p q_119 h
    refine lv_tableIn (tgt := 60) hx hb dX8_count_1 (by rw [q_119]; decide) (by rw [q_119]; decide) (by rw [q_119]; rfl) (by decide) ?_
    refine lv_aload_n hx hb dX8_count_60 rfl (lv_at hl 0 rfl) ?_
    replace h := bd_e h
    obtain ⟨r_121, P_120, hc_122, h⟩ := h
    replace h := ck_e h
    obtain ⟨hk_123, h⟩ := h
    refine cc_i (cr_V (As := []) (rest := []) cx (hcc_X8_rulesOfFirstLand l D cs t0  P0 P_120 th r_121 hc_122) kT9 hk_123 (cwV 0 hts (uG uw_X8_rulesOfFirstLand ul_RX8_272 ui_X8_rulesOfFirstLand us_RX8_X8_rulesOfFirstLand un_RX8) rfl rfl rfl ud_X8_rulesOfFirstLand ⟨Nat.le_of_ble_eq_true rfl, Nat.le_of_ble_eq_true rfl⟩) w rfl hl.1 rfl (Nat.le_of_ble_eq_true rfl) dX8_count_61 ⟨(Nat.le_of_ble_eq_true rfl), (Nat.le_of_ble_eq_true rfl)⟩) (fun H locs w => ?_)
    exact cw_iret cx (rt_e h) w dX8_count_64
  replace h := br_n q_119 h
  by_cases q_124 : a1 = (4 : Int32)
  · replace h := br_p q_124 h
    refine lv_tableIn (tgt := 65) hx hb dX8_count_1 (by rw [q_124]; decide) (by rw [q_124]; decide) (by rw [q_124]; rfl) (by decide) ?_
    refine lv_aload_n hx hb dX8_count_65 rfl (lv_at hl 0 rfl) ?_
    replace h := ck_e h
    obtain ⟨hk_125, h⟩ := h
    replace h := nn_e h
    obtain ⟨b_126, hbb_126, h⟩ := h
    refine cw_getS cx hsub w kT9 hk_125 7 (by decide) hbb_126 ⟨hsub _ uf_RX8_53, Or.inl rfl⟩ dX8_count_66 ?_
    replace h := ck_e h
    obtain ⟨hk_127, h⟩ := h
    refine cw_getIN cx hsub w kT1 hk_127 1 (by decide) (host := "HeardWords") (by decide +kernel) dX8_count_69 ?_
    exact cw_iret cx (rt_e h) w dX8_count_72
  replace h := br_n q_124 h
  refine lv_tableH (tgt := 73) hx hb dX8_count_1 (by exact Or.inl (by have := lv_neT q_101 (a := 0) (by decide); have := lv_neT q_108 (a := 1) (by decide); have := lv_neT q_115 (a := 2) (by decide); have := lv_neT q_119 (a := 3) (by decide); have := lv_neT q_124 (a := 4) (by decide); omega)) (by decide) ?_
  refine lv_bipush (v := (-2 : Int32)) hx hb dX8_count_73 (by decide) ?_
  exact cw_iret cx (rt_e h) w dX8_count_75
def hm_X8_tape_24  (P : PS) : Option (Int32 × PS) := some ((-2 : Int32), P)
def hm_X8_tape (P : PS) (th : Nat) (a1 : Int32) (a2 : Int32) (a3 : Int32) : Option (Int32 × PS) := bd (hm_X8_tapeAt  P th a1) (fun o_202 P_201 => ck (kk P th 9) (nl o_202 (some ((-1 : Int32), P_201)) (fun b_205 => if a2 < (-1 : Int32) then (hm_X8_tape_24   P_201) else (if a2 ≤ (4 : Int32) then (if a2 = (-1 : Int32) then (bd (hm_X6_become  P_201 b_205 (-1 : Int32) (0 : Int32)) (fun _ P_210 => ck (kk P_201 b_205 7) (some ((1 : Int32), P_210)))) else (if a3 ≤ (60 : Int32) then (if (0 : Int32) ≤ a3 then (bd (hm_X6_become  P_201 b_205 a2 a3) (fun _ P_206 => ck (kk P_201 b_205 7) (some ((1 : Int32), P_206)))) else (some ((-14 : Int32), P_201))) else (some ((-2 : Int32), P_201)))) else (hm_X8_tape_24   P_201)))))
abbrev wu_X8_tape : List Cond := .code yX8_tape cX8_tape 5 (some .int) :: wsL_law
theorem ud_X8_tape : yX8_tape.cls = RX8 ∧ yX8_tape.cls ≠ "java/lang/invoke/MethodHandle" ∧ yX8_tape.cls ≠ "java/lang/invoke/VarHandle" ∧ (parseMethodDescriptor yX8_tape.desc).map (fun d => d.parameters.length) = some 3 := by decide +kernel
abbrev rmc_X8_tape : Room := { frames := 2, cells := 0, slots := 0, locals := 46 }
set_option maxHeartbeats 4000000 in
set_option maxRecDepth 100000 in
theorem hcc_X8_tape (l : Launch) (D : va_G) (cs : Nat → ClassId) (t0 : TS) (P0 T : PS) (th : Nat) (a1 : Int32) (a2 : Int32) (a3 : Int32) (r0 : Int32) (h : hm_X8_tape P0 th a1 a2 a3 = some (r0, T)) : MetCI l yX8_tape wu_X8_tape rmc_X8_tape D cs t0 [.ref th, .int a1, .int a2, .int a3] P0 T r0 0 0 := by
  refine co_start (own := RX8) (ty := (some .int)) (cc := cX8_tape) (maxL := 5) ⟨by decide, rfl⟩ rfl (Nat.le_of_ble_eq_true rfl) ?_
  intro p e s m args below meth c ls cx hnm hl w
  have hx := cx.1
  have hb := cx.2.1
  have hts := cx.2.2.2.1
  have hown := cx.2.2.2.2.1
  have hml := cx.2.2.2.2.2.2
  have hsub : ∀ w ∈ wsL_law, w ∈ wu_X8_tape := fun _ hq => List.mem_cons_of_mem _ hq
  have hl : lv_has ls 5 [(0, .ref th), (1, .int a1), (2, .int a2), (3, .int a3)] := hl
  have J24 : ∀  (P : PS), hm_X8_tape_24   P = some (r0, T) → cGo p l e rmc_X8_tape s m args below meth c 5 D cs t0 (pA P0) (cQI below D cs P0 args s 0 0 r0 T) 0 0 24 [] [] P := by
    intro  P h H locs ls hl w
    unfold hm_X8_tape_24 at h
    refine lv_bipush (v := (-2 : Int32)) hx hb dX8_tape_24 (by decide) ?_
    exact cw_iret cx (rt_e h) w dX8_tape_26
  have hP0 : P0 = P0 := rfl
  unfold hm_X8_tape at h
  refine lv_aload_n hx hb dX8_tape_0 rfl (lv_at hl 0 rfl) ?_
  refine lv_iload_n hx hb dX8_tape_1 rfl (lv_at hl 1 rfl) ?_
  replace h := bd_e h
  obtain ⟨o_202, P_201, hc_203, h⟩ := h
  replace h := ck_e h
  obtain ⟨hk_204, h⟩ := h
  refine cc_q (cr_V (As := [.int a1]) (rest := []) cx (hcc_X8_tapeAt l D cs t0  P0 P_201 th a1 o_202 hc_203) kT9 hk_204 (cwV 1 hts (uG uw_X8_tapeAt ul_RX8_242 ui_X8_tapeAt us_RX8_X8_tapeAt un_RX8) rfl rfl rfl ud_X8_tapeAt ⟨Nat.le_of_ble_eq_true rfl, Nat.le_of_ble_eq_true rfl⟩) w rfl hl.1 rfl (Nat.le_of_ble_eq_true rfl) dX8_tape_2 ⟨(Nat.le_of_ble_eq_true rfl), (Nat.le_of_ble_eq_true rfl)⟩) (fun H locs w => ?_)
  refine lq_astore (lv' := [(4, va_rf o_202), (0, .ref th), (1, .int a1), (2, .int a2), (3, .int a3)]) hx hb dX8_tape_5 hl (by decide) (fun v hv => by subst hv; exact (rfl)) (fun ls hl => ?_)
  refine lq_aload hx hb dX8_tape_7 (lv_at hl 0 rfl) ?_
  cases o_202 with
  | none =>
    replace h := nl_n h
    have hl : lv_has ls 5 [(4, .null), (0, .ref th), (1, .int a1), (2, .int a2), (3, .int a3)] := hl
    refine lv_ifnonnullN hx hb dX8_tape_9 ?_
    refine lv_iconst (v := (-1 : Int32)) hx hb dX8_tape_12 (by decide) ?_
    exact cw_iret cx (rt_e h) w dX8_tape_13
  | some b_205 =>
    replace h := nl_s h
    have hl : lv_has ls 5 [(4, .ref b_205), (0, .ref th), (1, .int a1), (2, .int a2), (3, .int a3)] := hl
    refine lv_ifnonnull (tgt := 14) hx hb dX8_tape_9 (by decide) ?_
    refine lv_iload_n hx hb dX8_tape_14 rfl (lv_at hl 3 rfl) ?_
    refine lv_iconst (v := (-1 : Int32)) hx hb dX8_tape_15 (by decide) ?_
    refine lv_icmp_lt (tgt := 24) hx hb dX8_tape_16 (by decide) (fun q => ?_) (fun q => ?_)
    · replace h := br_p q h
      exact J24   P_201 h _ _ _ (lv_sub hl [] rfl) w
    · replace h := br_n q h
      refine lv_iload_n hx hb dX8_tape_19 rfl (lv_at hl 3 rfl) ?_
      refine lv_iconst (v := (4 : Int32)) hx hb dX8_tape_20 (by decide) ?_
      refine lv_icmp_le (tgt := 27) hx hb dX8_tape_21 (by decide) (fun q => ?_) (fun q => ?_)
      · replace h := br_p q h
        refine lv_iload_n hx hb dX8_tape_27 rfl (lv_at hl 3 rfl) ?_
        refine lv_iconst (v := (-1 : Int32)) hx hb dX8_tape_28 (by decide) ?_
        refine lv_icmp_ne (tgt := 41) hx hb dX8_tape_29 (by decide) (fun q => ?_) (fun q => ?_)
        · replace h := br_n q h
          refine lv_iload_n hx hb dX8_tape_41 rfl (lv_at hl 4 rfl) ?_
          refine lv_bipush (v := (60 : Int32)) hx hb dX8_tape_42 (by decide) ?_
          refine lv_icmp_le (tgt := 50) hx hb dX8_tape_44 (by decide) (fun q => ?_) (fun q => ?_)
          · replace h := br_p q h
            refine lv_iload_n hx hb dX8_tape_50 rfl (lv_at hl 4 rfl) ?_
            refine lv_if_ge (tgt := 57) hx hb dX8_tape_51 (by decide) (fun q => ?_) (fun q => ?_)
            · replace h := br_p q h
              refine lv_aload hx hb dX8_tape_57 (lv_at hl 0 rfl) ?_
              refine lv_iload_n hx hb dX8_tape_59 rfl (lv_at hl 3 rfl) ?_
              refine lv_iload_n hx hb dX8_tape_60 rfl (lv_at hl 4 rfl) ?_
              replace h := bd_e h
              obtain ⟨r_207, P_206, hc_208, h⟩ := h
              replace h := ck_e h
              obtain ⟨hk_209, h⟩ := h
              refine cc_v (cr_VN (As := [.int a2, .int a3]) (rest := []) cx (hcc_X6_become l D cs t0  P_201 P_206 b_205 a2 a3 r_207 hc_208) kT7 hk_209 ⟨va_cnB (host := "HeardWords") 2 hts (uGB uw_X6_become) rfl rfl rfl (w.2.2.2.2.2.2.1.2.1 ("HeardWords", 275, yX6_become, "HeardWords") (by decide +kernel)) (hts _ (hsub _ un_RX6)) ud_X6_become.2 ⟨Nat.le_of_ble_eq_true rfl, Nat.le_of_ble_eq_true rfl⟩, hts _ (hsub _ ui_X6_become), hts _ (hsub _ us_RX6_X6_become)⟩ w rfl hl.1 rfl (Nat.le_of_ble_eq_true rfl) dX8_tape_61 ⟨(Nat.le_of_ble_eq_true rfl), (Nat.le_of_ble_eq_true rfl)⟩) (fun H locs w => ?_)
              refine lv_iconst (v := (1 : Int32)) hx hb dX8_tape_64 (by decide) ?_
              exact cw_iret cx (rt_e h) w dX8_tape_65
            · replace h := br_n q h
              refine lv_bipush (v := (-14 : Int32)) hx hb dX8_tape_54 (by decide) ?_
              exact cw_iret cx (rt_e h) w dX8_tape_56
          · replace h := br_n q h
            refine lv_bipush (v := (-2 : Int32)) hx hb dX8_tape_47 (by decide) ?_
            exact cw_iret cx (rt_e h) w dX8_tape_49
        · replace h := br_p q h
          refine lv_aload hx hb dX8_tape_32 (lv_at hl 0 rfl) ?_
          refine lv_iconst (v := (-1 : Int32)) hx hb dX8_tape_34 (by decide) ?_
          refine lv_iconst (v := (0 : Int32)) hx hb dX8_tape_35 (by decide) ?_
          replace h := bd_e h
          obtain ⟨r_211, P_210, hc_212, h⟩ := h
          replace h := ck_e h
          obtain ⟨hk_213, h⟩ := h
          refine cc_v (cr_VN (As := [.int (-1 : Int32), .int (0 : Int32)]) (rest := []) cx (hcc_X6_become l D cs t0  P_201 P_210 b_205 (-1 : Int32) (0 : Int32) r_211 hc_212) kT7 hk_213 ⟨va_cnB (host := "HeardWords") 2 hts (uGB uw_X6_become) rfl rfl rfl (w.2.2.2.2.2.2.1.2.1 ("HeardWords", 275, yX6_become, "HeardWords") (by decide +kernel)) (hts _ (hsub _ un_RX6)) ud_X6_become.2 ⟨Nat.le_of_ble_eq_true rfl, Nat.le_of_ble_eq_true rfl⟩, hts _ (hsub _ ui_X6_become), hts _ (hsub _ us_RX6_X6_become)⟩ w rfl hl.1 rfl (Nat.le_of_ble_eq_true rfl) dX8_tape_36 ⟨(Nat.le_of_ble_eq_true rfl), (Nat.le_of_ble_eq_true rfl)⟩) (fun H locs w => ?_)
          refine lv_iconst (v := (1 : Int32)) hx hb dX8_tape_39 (by decide) ?_
          exact cw_iret cx (rt_e h) w dX8_tape_40
      · replace h := br_n q h
        exact J24   P_201 h _ _ _ (lv_sub hl [] rfl) w
def hm_X8_item (P : PS) (th : Nat) (a1 : Int32) (a2 : Int32) (a3 : Int64) : Option (Int32 × PS) := bd (hm_X8_tapeAt  P th a1) (fun o_102 P_101 => ck (kk P th 9) (nl o_102 (some ((-1 : Int32), P_101)) (fun b_105 => ck (kk P_101 b_105 7) (if (pI P_101 b_105 1) = (-1 : Int32) then (some ((-11 : Int32), P_101)) else (bd (hm_X6_hasPlace  P_101 b_105 a2) (fun r_108 P_107 => if r_108 = (0 : Int32) then (some ((-13 : Int32), P_107)) else (bd (hm_X6_put  P_107 b_105 a2 a3) (fun _ P_110 => ck (kk P_107 b_105 7) (some ((1 : Int32), P_110))))))))))
abbrev wu_X8_item : List Cond := .code yX8_item cX8_item 6 (some .int) :: wsL_law
theorem ud_X8_item : yX8_item.cls = RX8 ∧ yX8_item.cls ≠ "java/lang/invoke/MethodHandle" ∧ yX8_item.cls ≠ "java/lang/invoke/VarHandle" ∧ (parseMethodDescriptor yX8_item.desc).map (fun d => d.parameters.length) = some 3 := by decide +kernel
abbrev rmc_X8_item : Room := { frames := 2, cells := 0, slots := 0, locals := 45 }
set_option maxHeartbeats 4000000 in
set_option maxRecDepth 100000 in
theorem hcc_X8_item (l : Launch) (D : va_G) (cs : Nat → ClassId) (t0 : TS) (P0 T : PS) (th : Nat) (a1 : Int32) (a2 : Int32) (a3 : Int64) (r0 : Int32) (h : hm_X8_item P0 th a1 a2 a3 = some (r0, T)) : MetCI l yX8_item wu_X8_item rmc_X8_item D cs t0 [.ref th, .int a1, .int a2, .long a3] P0 T r0 0 0 := by
  refine co_start (own := RX8) (ty := (some .int)) (cc := cX8_item) (maxL := 6) ⟨by decide, rfl⟩ rfl (Nat.le_of_ble_eq_true rfl) ?_
  intro p e s m args below meth c ls cx hnm hl w
  have hx := cx.1
  have hb := cx.2.1
  have hts := cx.2.2.2.1
  have hown := cx.2.2.2.2.1
  have hml := cx.2.2.2.2.2.2
  have hsub : ∀ w ∈ wsL_law, w ∈ wu_X8_item := fun _ hq => List.mem_cons_of_mem _ hq
  have hl : lv_has ls 6 [(0, .ref th), (1, .int a1), (2, .int a2), (3, .long a3)] := hl
  have hP0 : P0 = P0 := rfl
  unfold hm_X8_item at h
  refine lv_aload_n hx hb dX8_item_0 rfl (lv_at hl 0 rfl) ?_
  refine lv_iload_n hx hb dX8_item_1 rfl (lv_at hl 1 rfl) ?_
  replace h := bd_e h
  obtain ⟨o_102, P_101, hc_103, h⟩ := h
  replace h := ck_e h
  obtain ⟨hk_104, h⟩ := h
  refine cc_q (cr_V (As := [.int a1]) (rest := []) cx (hcc_X8_tapeAt l D cs t0  P0 P_101 th a1 o_102 hc_103) kT9 hk_104 (cwV 1 hts (uG uw_X8_tapeAt ul_RX8_242 ui_X8_tapeAt us_RX8_X8_tapeAt un_RX8) rfl rfl rfl ud_X8_tapeAt ⟨Nat.le_of_ble_eq_true rfl, Nat.le_of_ble_eq_true rfl⟩) w rfl hl.1 rfl (Nat.le_of_ble_eq_true rfl) dX8_item_2 ⟨(Nat.le_of_ble_eq_true rfl), (Nat.le_of_ble_eq_true rfl)⟩) (fun H locs w => ?_)
  refine lq_astore (lv' := [(5, va_rf o_102), (0, .ref th), (1, .int a1), (2, .int a2), (3, .long a3)]) hx hb dX8_item_5 hl (by decide) (fun v hv => by subst hv; exact (rfl)) (fun ls hl => ?_)
  refine lq_aload hx hb dX8_item_7 (lv_at hl 0 rfl) ?_
  cases o_102 with
  | none =>
    replace h := nl_n h
    have hl : lv_has ls 6 [(5, .null), (0, .ref th), (1, .int a1), (2, .int a2), (3, .long a3)] := hl
    refine lv_ifnonnullN hx hb dX8_item_9 ?_
    refine lv_iconst (v := (-1 : Int32)) hx hb dX8_item_12 (by decide) ?_
    exact cw_iret cx (rt_e h) w dX8_item_13
  | some b_105 =>
    replace h := nl_s h
    have hl : lv_has ls 6 [(5, .ref b_105), (0, .ref th), (1, .int a1), (2, .int a2), (3, .long a3)] := hl
    refine lv_ifnonnull (tgt := 14) hx hb dX8_item_9 (by decide) ?_
    refine lv_aload hx hb dX8_item_14 (lv_at hl 0 rfl) ?_
    replace h := ck_e h
    obtain ⟨hk_106, h⟩ := h
    refine cw_getIN cx hsub w kT7 hk_106 1 (by decide) (host := "HeardWords") (by decide +kernel) dX8_item_16 ?_
    refine lv_iconst (v := (-1 : Int32)) hx hb dX8_item_19 (by decide) ?_
    refine lv_icmp_ne (tgt := 26) hx hb dX8_item_20 (by decide) (fun q => ?_) (fun q => ?_)
    · replace h := br_n q h
      refine lv_aload hx hb dX8_item_26 (lv_at hl 0 rfl) ?_
      refine lv_iload_n hx hb dX8_item_28 rfl (lv_at hl 3 rfl) ?_
      replace h := bd_e h
      obtain ⟨r_108, P_107, hc_109, h⟩ := h
      refine cc_i (cr_VN (As := [.int a2]) (rest := []) cx (hcc_X6_hasPlace l D cs t0  P_101 P_107 b_105 a2 r_108 hc_109) kT7 hk_106 ⟨va_cnB (host := "HeardWords") 1 hts (uGB uw_X6_hasPlace) rfl rfl rfl (w.2.2.2.2.2.2.1.2.1 ("HeardWords", 279, yX6_hasPlace, "HeardWords") (by decide +kernel)) (hts _ (hsub _ un_RX6)) ud_X6_hasPlace.2 ⟨Nat.le_of_ble_eq_true rfl, Nat.le_of_ble_eq_true rfl⟩, hts _ (hsub _ ui_X6_hasPlace), hts _ (hsub _ us_RX6_X6_hasPlace)⟩ w rfl hl.1 rfl (Nat.le_of_ble_eq_true rfl) dX8_item_29 ⟨(Nat.le_of_ble_eq_true rfl), (Nat.le_of_ble_eq_true rfl)⟩) (fun H locs w => ?_)
      refine lv_if_ne (tgt := 38) hx hb dX8_item_32 (by decide) (fun q => ?_) (fun q => ?_)
      · replace h := br_n q h
        refine lv_aload hx hb dX8_item_38 (lv_at hl 0 rfl) ?_
        refine lv_iload_n hx hb dX8_item_40 rfl (lv_at hl 3 rfl) ?_
        refine lv_lload_n hx hb dX8_item_41 rfl (lv_at hl 4 rfl) ?_
        replace h := bd_e h
        obtain ⟨r_111, P_110, hc_112, h⟩ := h
        replace h := ck_e h
        obtain ⟨hk_113, h⟩ := h
        refine cc_v (cr_VN (As := [.int a2, .long a3]) (rest := []) cx (hcc_X6_put l D cs t0  P_107 P_110 b_105 a2 a3 r_111 hc_112) kT7 hk_113 ⟨va_cnB (host := "HeardWords") 2 hts (uGB uw_X6_put) rfl rfl rfl (w.2.2.2.2.2.2.1.2.1 ("HeardWords", 283, yX6_put, "HeardWords") (by decide +kernel)) (hts _ (hsub _ un_RX6)) ud_X6_put.2 ⟨Nat.le_of_ble_eq_true rfl, Nat.le_of_ble_eq_true rfl⟩, hts _ (hsub _ ui_X6_put), hts _ (hsub _ us_RX6_X6_put)⟩ w rfl hl.1 rfl (Nat.le_of_ble_eq_true rfl) dX8_item_42 ⟨(Nat.le_of_ble_eq_true rfl), (Nat.le_of_ble_eq_true rfl)⟩) (fun H locs w => ?_)
        refine lv_iconst (v := (1 : Int32)) hx hb dX8_item_45 (by decide) ?_
        exact cw_iret cx (rt_e h) w dX8_item_46
      · replace h := br_p q h
        refine lv_bipush (v := (-13 : Int32)) hx hb dX8_item_35 (by decide) ?_
        exact cw_iret cx (rt_e h) w dX8_item_37
    · replace h := br_p q h
      refine lv_bipush (v := (-11 : Int32)) hx hb dX8_item_23 (by decide) ?_
      exact cw_iret cx (rt_e h) w dX8_item_25
def hm_X8_read (P : PS) (th : Nat) (a1 : Int32) (a2 : Int32) : Option (Int64 × PS) := bd (hm_X8_tapeAt  P th a1) (fun o_102 P_101 => ck (kk P th 9) (nl o_102 (some ((-9223372036854775808 : Int64), P_101)) (fun b_105 => bd (hm_X6_get  P_101 b_105 a2) (fun r_107 P_106 => ck (kk P_101 b_105 7) (some (r_107, P_106))))))
abbrev wu_X8_read : List Cond := .code yX8_read cX8_read 4 (some .long) :: wsL_law
theorem ud_X8_read : yX8_read.cls = RX8 ∧ yX8_read.cls ≠ "java/lang/invoke/MethodHandle" ∧ yX8_read.cls ≠ "java/lang/invoke/VarHandle" ∧ (parseMethodDescriptor yX8_read.desc).map (fun d => d.parameters.length) = some 2 := by decide +kernel
abbrev rmc_X8_read : Room := { frames := 2, cells := 0, slots := 0, locals := 42 }
set_option maxHeartbeats 4000000 in
set_option maxRecDepth 100000 in
theorem hcc_X8_read (l : Launch) (D : va_G) (cs : Nat → ClassId) (t0 : TS) (P0 T : PS) (th : Nat) (a1 : Int32) (a2 : Int32) (r0 : Int64) (h : hm_X8_read P0 th a1 a2 = some (r0, T)) : MetCL l yX8_read wu_X8_read rmc_X8_read D cs t0 [.ref th, .int a1, .int a2] P0 T r0 0 0 := by
  refine co_start (own := RX8) (ty := (some .long)) (cc := cX8_read) (maxL := 4) ⟨by decide, rfl⟩ rfl (Nat.le_of_ble_eq_true rfl) ?_
  intro p e s m args below meth c ls cx hnm hl w
  have hx := cx.1
  have hb := cx.2.1
  have hts := cx.2.2.2.1
  have hown := cx.2.2.2.2.1
  have hml := cx.2.2.2.2.2.2
  have hsub : ∀ w ∈ wsL_law, w ∈ wu_X8_read := fun _ hq => List.mem_cons_of_mem _ hq
  have hl : lv_has ls 4 [(0, .ref th), (1, .int a1), (2, .int a2)] := hl
  have hP0 : P0 = P0 := rfl
  unfold hm_X8_read at h
  refine lv_aload_n hx hb dX8_read_0 rfl (lv_at hl 0 rfl) ?_
  refine lv_iload_n hx hb dX8_read_1 rfl (lv_at hl 1 rfl) ?_
  replace h := bd_e h
  obtain ⟨o_102, P_101, hc_103, h⟩ := h
  replace h := ck_e h
  obtain ⟨hk_104, h⟩ := h
  refine cc_q (cr_V (As := [.int a1]) (rest := []) cx (hcc_X8_tapeAt l D cs t0  P0 P_101 th a1 o_102 hc_103) kT9 hk_104 (cwV 1 hts (uG uw_X8_tapeAt ul_RX8_242 ui_X8_tapeAt us_RX8_X8_tapeAt un_RX8) rfl rfl rfl ud_X8_tapeAt ⟨Nat.le_of_ble_eq_true rfl, Nat.le_of_ble_eq_true rfl⟩) w rfl hl.1 rfl (Nat.le_of_ble_eq_true rfl) dX8_read_2 ⟨(Nat.le_of_ble_eq_true rfl), (Nat.le_of_ble_eq_true rfl)⟩) (fun H locs w => ?_)
  refine lq_astore_n (lv' := [(3, va_rf o_102), (0, .ref th), (1, .int a1), (2, .int a2)]) hx hb dX8_read_5 rfl hl (by decide) (fun v hv => by subst hv; exact (rfl)) (fun ls hl => ?_)
  refine lq_aload_n hx hb dX8_read_6 rfl (lv_at hl 0 rfl) ?_
  cases o_102 with
  | none =>
    replace h := nl_n h
    have hl : lv_has ls 4 [(3, .null), (0, .ref th), (1, .int a1), (2, .int a2)] := hl
    refine lv_ifnonnullN hx hb dX8_read_7 ?_
    refine lv_ldc2 (v := (-9223372036854775808 : Int64)) hx hb hown (hts _ (hsub _ uc_RX8_287)) dX8_read_10 ?_
    refine lv_goto (tgt := 21) hx hb dX8_read_13 (by decide) ?_
    exact cw_lret cx (rt_e h) w dX8_read_21
  | some b_105 =>
    replace h := nl_s h
    have hl : lv_has ls 4 [(3, .ref b_105), (0, .ref th), (1, .int a1), (2, .int a2)] := hl
    refine lv_ifnonnull (tgt := 16) hx hb dX8_read_7 (by decide) ?_
    refine lv_aload_n hx hb dX8_read_16 rfl (lv_at hl 0 rfl) ?_
    refine lv_iload_n hx hb dX8_read_17 rfl (lv_at hl 3 rfl) ?_
    replace h := bd_e h
    obtain ⟨r_107, P_106, hc_108, h⟩ := h
    replace h := ck_e h
    obtain ⟨hk_109, h⟩ := h
    refine cc_l (cr_VN (As := [.int a2]) (rest := []) cx (hcc_X6_get l D cs t0  P_101 P_106 b_105 a2 r_107 hc_108) kT7 hk_109 ⟨va_cnB (host := "HeardWords") 1 hts (uGB uw_X6_get) rfl rfl rfl (w.2.2.2.2.2.2.1.2.1 ("HeardWords", 289, yX6_get, "HeardWords") (by decide +kernel)) (hts _ (hsub _ un_RX6)) ud_X6_get.2 ⟨Nat.le_of_ble_eq_true rfl, Nat.le_of_ble_eq_true rfl⟩, hts _ (hsub _ ui_X6_get), hts _ (hsub _ us_RX6_X6_get)⟩ w rfl hl.1 rfl (Nat.le_of_ble_eq_true rfl) dX8_read_18 ⟨(Nat.le_of_ble_eq_true rfl), (Nat.le_of_ble_eq_true rfl)⟩) (fun H locs w => ?_)
    exact cw_lret cx (rt_e h) w dX8_read_21
