def hm_X8_factsAsked_45 (k4 : Nat → Int32 → Int32 → Int32 → PS → Option (Int32 × PS)) (o0 : Nat) (x1 : Int32) (x2 : Int32) (x3 : Int32) (P : PS) : Option (Int32 × PS) := lt_ (x3 + (1 : Int32)) (fun x3_101 => k4 o0 x1 x2 x3_101 P)
def hm_X8_factsAsked_4 (k4 : Nat → Int32 → Int32 → Int32 → PS → Option (Int32 × PS)) (o0 : Nat) (x1 : Int32) (x2 : Int32) (x3 : Int32) (P : PS) : Option (Int32 × PS) := ck (kk P o0 9) (nn (pR P o0 2) (fun b_203 => bd (hm_Jx4a65c_size_8abf5  P b_203) (fun r_205 P_204 => ck (kk P b_203 0) (if r_205 ≤ x3 then (some (x2, P_204)) else (ck (kk P_204 o0 9) (nn (pR P_204 o0 2) (fun b_209 => bd (hm_Jx4a65c_get_915e3  P_204 b_209 x3) (fun o_211 P_210 => ck (kk P_204 b_209 0) (nn o_211 (fun b_214 => ck (kk P_210 b_214 5) (if (pI P_210 b_214 1) = x1 then (lt_ ((x2 ||| (pI P_210 b_214 6))) (fun x2_216 => hm_X8_factsAsked_45 k4 o0 x1 x2_216 x3 P_210)) else (hm_X8_factsAsked_45 k4 o0 x1 x2 x3 P_210))))))))))))
def hm_X8_factsAsked_4L : Nat → Nat → Int32 → Int32 → Int32 → PS → Option (Int32 × PS)
  | 0, _, _, _, _, _ => none
  | n + 1, o0, x1, x2, x3, P => hm_X8_factsAsked_4  (hm_X8_factsAsked_4L  n) o0 x1 x2 x3 P
def hm_X8_factsAsked (P : PS) (th : Nat) (a1 : Int32) : Option (Int32 × PS) := lt_ ((0 : Int32)) (fun x2_317 => lt_ ((0 : Int32)) (fun x3_318 => hm_X8_factsAsked_4L  4000 th a1 x2_317 x3_318 P))
abbrev wu_X8_factsAsked : List Cond := .code yX8_factsAsked cX8_factsAsked 5 (some .int) :: wsL_law
theorem ud_X8_factsAsked : yX8_factsAsked.cls = RX8 ∧ yX8_factsAsked.cls ≠ "java/lang/invoke/MethodHandle" ∧ yX8_factsAsked.cls ≠ "java/lang/invoke/VarHandle" ∧ (parseMethodDescriptor yX8_factsAsked.desc).map (fun d => d.parameters.length) = some 1 := by decide +kernel
abbrev rmc_X8_factsAsked : Room := { frames := 3, cells := 0, slots := 0, locals := 64 }
set_option maxHeartbeats 4000000 in
set_option maxRecDepth 100000 in
theorem hcc_X8_factsAsked (l : Launch) (D : va_G) (cs : Nat → ClassId) (t0 : TS) (P0 T : PS) (th : Nat) (a1 : Int32) (r0 : Int32) (h : hm_X8_factsAsked P0 th a1 = some (r0, T)) : MetCI l yX8_factsAsked wu_X8_factsAsked rmc_X8_factsAsked D cs t0 [.ref th, .int a1] P0 T r0 0 0 := by
  refine co_start (own := RX8) (ty := (some .int)) (cc := cX8_factsAsked) (maxL := 5) ⟨by decide, rfl⟩ rfl (Nat.le_of_ble_eq_true rfl) ?_
  intro p e s m args below meth c ls cx hnm hl w
  have hx := cx.1
  have hb := cx.2.1
  have hts := cx.2.2.2.1
  have hown := cx.2.2.2.2.1
  have hml := cx.2.2.2.2.2.2
  have hsub : ∀ w ∈ wsL_law, w ∈ wu_X8_factsAsked := fun _ hq => List.mem_cons_of_mem _ hq
  have hl : lv_has ls 5 [(0, .ref th), (1, .int a1)] := hl
  have J45 : ∀ (k4 : Nat → Int32 → Int32 → Int32 → PS → Option (Int32 × PS)) (hk4 : ∀ (o0 : Nat) (x1 : Int32) (x2 : Int32) (x3 : Int32) (P : PS), k4 o0 x1 x2 x3 P = some (r0, T) → cGo p l e rmc_X8_factsAsked s m args below meth c 5 D cs t0 (pA P0) (cQI below D cs P0 args s 0 0 r0 T) 0 0 4 [(0, .ref o0), (1, .int x1), (2, .int x2), (3, .int x3)] [] P) (o0 : Nat) (x1 : Int32) (x2 : Int32) (x3 : Int32) (P : PS), hm_X8_factsAsked_45 k4 o0 x1 x2 x3 P = some (r0, T) → cGo p l e rmc_X8_factsAsked s m args below meth c 5 D cs t0 (pA P0) (cQI below D cs P0 args s 0 0 r0 T) 0 0 45 [(0, .ref o0), (1, .int x1), (2, .int x2), (3, .int x3)] [] P := by
    intro k4 hk4 o0 x1 x2 x3 P h H locs ls hl w
    unfold hm_X8_factsAsked_45 at h
    replace h := lt_e h
    obtain ⟨x3_101, ex3_101, h⟩ := h
    refine lv_iinc (v := x3_101) (lv' := [(3, .int x3_101), (0, .ref o0), (1, .int x1), (2, .int x2)]) hx hb dX8_factsAsked_45 hl (k := 3) rfl (by rw [ex3_101]; rfl) (by decide) (rfl) (fun ls hl => ?_)
    refine lv_goto (tgt := 4) hx hb dX8_factsAsked_48 (by decide) ?_
    exact hk4 o0 x1 x2 x3_101 P h _ _ _ (lv_sub hl [1, 2, 3, 0] rfl) w
  have L4 : ∀ (n : Nat) (o0 : Nat) (x1 : Int32) (x2 : Int32) (x3 : Int32) (P : PS), hm_X8_factsAsked_4L  n o0 x1 x2 x3 P = some (r0, T) → cGo p l e rmc_X8_factsAsked s m args below meth c 5 D cs t0 (pA P0) (cQI below D cs P0 args s 0 0 r0 T) 0 0 4 [(0, .ref o0), (1, .int x1), (2, .int x2), (3, .int x3)] [] P := by
    intro n
    induction n with
    | zero =>
      intro o0 x1 x2 x3 P h
      have h : none = some (r0, T) := h
      cases h
    | succ n hk4 =>
      intro o0 x1 x2 x3 P h H locs ls hl w
      have h : hm_X8_factsAsked_4  (hm_X8_factsAsked_4L  n) o0 x1 x2 x3 P = some (r0, T) := h
      generalize hm_X8_factsAsked_4L  n = k4 at h hk4
      unfold hm_X8_factsAsked_4 at h
      refine lv_iload_n hx hb dX8_factsAsked_4 rfl (lv_at hl 3 rfl) ?_
      refine lv_aload_n hx hb dX8_factsAsked_5 rfl (lv_at hl 0 rfl) ?_
      replace h := ck_e h
      obtain ⟨hk_202, h⟩ := h
      replace h := nn_e h
      obtain ⟨b_203, hbb_203, h⟩ := h
      refine cw_getS cx hsub w kT9 hk_202 2 (by decide) hbb_203 ⟨hsub _ uf_RX8_24, Or.inl rfl⟩ dX8_factsAsked_6 ?_
      replace h := bd_e h
      obtain ⟨r_205, P_204, hc_206, h⟩ := h
      replace h := ck_e h
      obtain ⟨hk_207, h⟩ := h
      refine cc_i (cr_V (As := []) (rest := [.int x3]) cx (hcc_Jx4a65c_size_8abf5 l D cs t0  P P_204 b_203 r_205 hc_206) kT0 hk_207 (cwV 0 hts (uG uw_Jx4a65c_size_8abf5 ul_RX8_80 ui_Jx4a65c_size_8abf5 us_RJx4a65c_Jx4a65c_size_8abf5 un_RJx4a65c) rfl rfl rfl ud_Jx4a65c_size_8abf5 ⟨Nat.le_of_ble_eq_true rfl, Nat.le_of_ble_eq_true rfl⟩) w rfl hl.1 rfl (Nat.le_of_ble_eq_true rfl) dX8_factsAsked_9 ⟨(Nat.le_of_ble_eq_true rfl), (Nat.le_of_ble_eq_true rfl)⟩) (fun H locs w => ?_)
      refine lv_icmp_ge (tgt := 51) hx hb dX8_factsAsked_12 (by decide) (fun q => ?_) (fun q => ?_)
      · replace h := br_p q h
        refine lv_iload_n hx hb dX8_factsAsked_51 rfl (lv_at hl 2 rfl) ?_
        exact cw_iret cx (rt_e h) w dX8_factsAsked_52
      · replace h := br_n q h
        refine lv_aload_n hx hb dX8_factsAsked_15 rfl (lv_at hl 0 rfl) ?_
        replace h := ck_e h
        obtain ⟨hk_208, h⟩ := h
        replace h := nn_e h
        obtain ⟨b_209, hbb_209, h⟩ := h
        refine cw_getS cx hsub w kT9 hk_208 2 (by decide) hbb_209 ⟨hsub _ uf_RX8_24, Or.inl rfl⟩ dX8_factsAsked_16 ?_
        refine lv_iload_n hx hb dX8_factsAsked_19 rfl (lv_at hl 3 rfl) ?_
        replace h := bd_e h
        obtain ⟨o_211, P_210, hc_212, h⟩ := h
        replace h := ck_e h
        obtain ⟨hk_213, h⟩ := h
        refine cc_q (cr_V (As := [.int x3]) (rest := []) cx (hcc_Jx4a65c_get_915e3 l D cs t0  P_204 P_210 b_209 x3 o_211 hc_212) kT0 hk_213 (cwV 1 hts (uG uw_Jx4a65c_get_915e3 ul_RX8_220 ui_Jx4a65c_get_915e3 us_RJx4a65c_Jx4a65c_get_915e3 un_RJx4a65c) rfl rfl rfl ud_Jx4a65c_get_915e3 ⟨Nat.le_of_ble_eq_true rfl, Nat.le_of_ble_eq_true rfl⟩) w rfl hl.1 rfl (Nat.le_of_ble_eq_true rfl) dX8_factsAsked_20 ⟨(Nat.le_of_ble_eq_true rfl), (Nat.le_of_ble_eq_true rfl)⟩) (fun H locs w => ?_)
        replace h := nn_e h
        obtain ⟨b_214, hbb_214, h⟩ := h
        subst hbb_214
        have hl : lv_has ls 5 [(0, .ref o0), (1, .int x1), (2, .int x2), (3, .int x3)] := hl
        refine W.eq (g2 := F0 m _ ls [.ref b_214]) rfl ?_
        replace h := ck_e h
        obtain ⟨hk_215, h⟩ := h
        refine cw_cast cx w kT5 hk_215 (hsub _ ucl_RX8_153) dX8_factsAsked_23 ?_
        refine lv_astore (lv' := [(4, .ref b_214), (0, .ref o0), (1, .int x1), (2, .int x2), (3, .int x3)]) hx hb dX8_factsAsked_26 hl (by decide) (rfl) (fun ls hl => ?_)
        refine lv_aload hx hb dX8_factsAsked_28 (lv_at hl 0 rfl) ?_
        refine cw_getI cx hsub w kT5 hk_215 1 (by decide) ⟨hsub _ uf_RX8_224, Or.inl rfl⟩ dX8_factsAsked_30 ?_
        refine lv_iload_n hx hb dX8_factsAsked_33 rfl (lv_at hl 2 rfl) ?_
        refine lv_icmp_ne (tgt := 45) hx hb dX8_factsAsked_34 (by decide) (fun q => ?_) (fun q => ?_)
        · replace h := br_n q h
          exact J45 k4 hk4 o0 x1 x2 x3 P_210 h _ _ _ (lv_sub hl [1, 2, 3, 4] rfl) w
        · replace h := br_p q h
          refine lv_iload_n hx hb dX8_factsAsked_37 rfl (lv_at hl 3 rfl) ?_
          refine lv_aload hx hb dX8_factsAsked_38 (lv_at hl 0 rfl) ?_
          refine cw_getI cx hsub w kT5 hk_215 6 (by decide) ⟨hsub _ uf_RX8_308, Or.inl rfl⟩ dX8_factsAsked_40 ?_
          refine lv_ior hx hb dX8_factsAsked_43 ?_
          replace h := lt_e h
          obtain ⟨x2_216, ex2_216, h⟩ := h
          refine top_i ex2_216 ?_
          refine lv_istore_n (lv' := [(2, .int x2_216), (4, .ref b_214), (0, .ref o0), (1, .int x1), (3, .int x3)]) hx hb dX8_factsAsked_44 rfl hl (by decide) (rfl) (fun ls hl => ?_)
          exact J45 k4 hk4 o0 x1 x2_216 x3 P_210 h _ _ _ (lv_sub hl [2, 3, 0, 4] rfl) w
  have hP0 : P0 = P0 := rfl
  unfold hm_X8_factsAsked at h
  refine lv_iconst (v := (0 : Int32)) hx hb dX8_factsAsked_0 (by decide) ?_
  replace h := lt_e h
  obtain ⟨x2_317, ex2_317, h⟩ := h
  refine top_i ex2_317 ?_
  refine lv_istore_n (lv' := [(2, .int x2_317), (0, .ref th), (1, .int a1)]) hx hb dX8_factsAsked_1 rfl hl (by decide) (rfl) (fun ls hl => ?_)
  refine lv_iconst (v := (0 : Int32)) hx hb dX8_factsAsked_2 (by decide) ?_
  replace h := lt_e h
  obtain ⟨x3_318, ex3_318, h⟩ := h
  refine top_i ex3_318 ?_
  refine lv_istore_n (lv' := [(3, .int x3_318), (2, .int x2_317), (0, .ref th), (1, .int a1)]) hx hb dX8_factsAsked_3 rfl hl (by decide) (rfl) (fun ls hl => ?_)
  exact L4  4000 th a1 x2_317 x3_318 P0 h _ _ _ (lv_sub hl [2, 3, 1, 0] rfl) w
def hm_X8_suppose (P : PS) (th : Nat) (a1 : Int32) (a2 : Int32) (a3 : Int32) : Option (Option Nat × PS) := ck (kk P th 9) (nn (pR P th 5) (fun b_102 => ck (kk P b_102 6) (lt_ (pIu P b_102 0 a1) (fun P_104 => nn (pR P_104 th 5) (fun b_106 => ck (kk P_104 b_106 6) (lt_ (pIu P_104 b_106 1 a2) (fun P_108 => nn (pR P_108 th 5) (fun b_110 => ck (kk P_108 b_110 6) (lt_ (pIu P_108 b_110 2 a3) (fun P_112 => nn (pR P_112 th 5) (fun b_114 => some ((some b_114), P_112))))))))))))
abbrev wu_X8_suppose : List Cond := .code yX8_suppose cX8_suppose 4 (some (.object "HeardWords$Stand")) :: wsL_law
theorem ud_X8_suppose : yX8_suppose.cls = RX8 ∧ yX8_suppose.cls ≠ "java/lang/invoke/MethodHandle" ∧ yX8_suppose.cls ≠ "java/lang/invoke/VarHandle" ∧ (parseMethodDescriptor yX8_suppose.desc).map (fun d => d.parameters.length) = some 3 := by decide +kernel
abbrev rmc_X8_suppose : Room := { frames := 0, cells := 0, slots := 0, locals := 0 }
set_option maxHeartbeats 4000000 in
set_option maxRecDepth 100000 in
theorem hcc_X8_suppose (l : Launch) (D : va_G) (cs : Nat → ClassId) (t0 : TS) (P0 T : PS) (th : Nat) (a1 : Int32) (a2 : Int32) (a3 : Int32) (r0 : Option Nat) (h : hm_X8_suppose P0 th a1 a2 a3 = some (r0, T)) : MetCQ l yX8_suppose wu_X8_suppose rmc_X8_suppose D cs t0 [.ref th, .int a1, .int a2, .int a3] P0 T r0 0 0 := by
  refine co_start (own := RX8) (ty := (some (.object "HeardWords$Stand"))) (cc := cX8_suppose) (maxL := 4) ⟨by decide, rfl⟩ rfl (Nat.le_of_ble_eq_true rfl) ?_
  intro p e s m args below meth c ls cx hnm hl w
  have hx := cx.1
  have hb := cx.2.1
  have hts := cx.2.2.2.1
  have hown := cx.2.2.2.2.1
  have hml := cx.2.2.2.2.2.2
  have hsub : ∀ w ∈ wsL_law, w ∈ wu_X8_suppose := fun _ hq => List.mem_cons_of_mem _ hq
  have hl : lv_has ls 4 [(0, .ref th), (1, .int a1), (2, .int a2), (3, .int a3)] := hl
  have hP0 : P0 = P0 := rfl
  unfold hm_X8_suppose at h
  refine lv_aload_n hx hb dX8_suppose_0 rfl (lv_at hl 0 rfl) ?_
  replace h := ck_e h
  obtain ⟨hk_101, h⟩ := h
  replace h := nn_e h
  obtain ⟨b_102, hbb_102, h⟩ := h
  refine cw_getS cx hsub w kT9 hk_101 5 (by decide) hbb_102 ⟨hsub _ uf_RX8_41, Or.inl rfl⟩ dX8_suppose_1 ?_
  refine lv_iload_n hx hb dX8_suppose_4 rfl (lv_at hl 1 rfl) ?_
  replace h := ck_e h
  obtain ⟨hk_103, h⟩ := h
  replace h := lt_e h
  obtain ⟨P_104, eP_104, h⟩ := h
  refine cw_putI cx hsub w kT6 hk_103 0 eP_104 ⟨by decide, by decide, rfl⟩ (Or.inl rfl) ⟨hsub _ uf_RX8_128, Or.inl rfl⟩ dX8_suppose_5 (fun H locs w => ?_)
  refine lv_aload_n hx hb dX8_suppose_8 rfl (lv_at hl 0 rfl) ?_
  have hk_105 : kk P_104 th 9 = true := by rw [eP_104]; exact hk_101
  replace h := nn_e h
  obtain ⟨b_106, hbb_106, h⟩ := h
  refine cw_getS cx hsub w kT9 hk_105 5 (by decide) hbb_106 ⟨hsub _ uf_RX8_41, Or.inl rfl⟩ dX8_suppose_9 ?_
  refine lv_iload_n hx hb dX8_suppose_12 rfl (lv_at hl 2 rfl) ?_
  replace h := ck_e h
  obtain ⟨hk_107, h⟩ := h
  replace h := lt_e h
  obtain ⟨P_108, eP_108, h⟩ := h
  refine cw_putI cx hsub w kT6 hk_107 1 eP_108 ⟨by decide, by decide, rfl⟩ (Or.inl rfl) ⟨hsub _ uf_RX8_145, Or.inl rfl⟩ dX8_suppose_13 (fun H locs w => ?_)
  refine lv_aload_n hx hb dX8_suppose_16 rfl (lv_at hl 0 rfl) ?_
  have hk_109 : kk P_108 th 9 = true := by rw [eP_108]; exact hk_105
  replace h := nn_e h
  obtain ⟨b_110, hbb_110, h⟩ := h
  refine cw_getS cx hsub w kT9 hk_109 5 (by decide) hbb_110 ⟨hsub _ uf_RX8_41, Or.inl rfl⟩ dX8_suppose_17 ?_
  refine lv_iload_n hx hb dX8_suppose_20 rfl (lv_at hl 3 rfl) ?_
  replace h := ck_e h
  obtain ⟨hk_111, h⟩ := h
  replace h := lt_e h
  obtain ⟨P_112, eP_112, h⟩ := h
  refine cw_putI cx hsub w kT6 hk_111 2 eP_112 ⟨by decide, by decide, rfl⟩ (Or.inl rfl) ⟨hsub _ uf_RX8_305, Or.inl rfl⟩ dX8_suppose_21 (fun H locs w => ?_)
  refine lv_aload_n hx hb dX8_suppose_24 rfl (lv_at hl 0 rfl) ?_
  have hk_113 : kk P_112 th 9 = true := by rw [eP_112]; exact hk_109
  replace h := nn_e h
  obtain ⟨b_114, hbb_114, h⟩ := h
  refine cw_getS cx hsub w kT9 hk_113 5 (by decide) hbb_114 ⟨hsub _ uf_RX8_41, Or.inl rfl⟩ dX8_suppose_25 ?_
  exact cw_aret cx (by first | exact Or.inl ⟨_, rfl⟩ | exact Or.inr ⟨_, rfl⟩) (v := (some b_114)) (rt_e h) w dX8_suppose_28
def hm_X8_least_29  (P : PS) : Option (Int32 × PS) := some ((-1 : Int32), P)
def hm_X8_least_154 (k62 : Nat → Int32 → Int32 → Int32 → Nat → Int32 → Int32 → Int32 → Int32 → Int32 → PS → Option (Int32 × PS)) (o0 : Nat) (x2 : Int32) (x3 : Int32) (x4 : Int32) (o5 : Nat) (x6 : Int32) (x7 : Int32) (x8 : Int32) (x9 : Int32) (x10 : Int32) (P : PS) : Option (Int32 × PS) := lt_ (x10 + (1 : Int32)) (fun x10_201 => k62 o0 x2 x3 x4 o5 x6 x7 x8 x9 x10_201 P)
def hm_X8_least_151 (k62 : Nat → Int32 → Int32 → Int32 → Nat → Int32 → Int32 → Int32 → Int32 → Int32 → PS → Option (Int32 × PS)) (o0 : Nat) (x2 : Int32) (x3 : Int32) (x4 : Int32) (o5 : Nat) (x6 : Int32) (x7 : Int32) (x8 : Int32) (x9 : Int32) (x10 : Int32) (P : PS) : Option (Int32 × PS) := lt_ (x9 + (1 : Int32)) (fun x9_302 => hm_X8_least_154 k62 o0 x2 x3 x4 o5 x6 x7 x8 x9_302 x10 P)
def hm_X8_least_62 (k62 : Nat → Int32 → Int32 → Int32 → Nat → Int32 → Int32 → Int32 → Int32 → Int32 → PS → Option (Int32 × PS)) (o0 : Nat) (x2 : Int32) (x3 : Int32) (x4 : Int32) (o5 : Nat) (x6 : Int32) (x7 : Int32) (x8 : Int32) (x9 : Int32) (x10 : Int32) (P : PS) : Option (Int32 × PS) := if (1024 : Int32) ≤ x10 then (if x4 = (0 : Int32) then (some (x8, P)) else (some (x9, P))) else (bd (hm_J6_bitCount_0f7a4  P x10) (fun r_404 P_403 => if (x10 &&& (x6 ^^^ (-1 : Int32))) = (0 : Int32) then (if r_404 ≤ x7 then (ck (kk P_403 o0 9) (nn (pR P_403 o0 4) (fun b_407 => ck (kk P_403 b_407 6) (nn (pR P_403 o0 4) (fun b_409 => ck (kk P_403 b_409 6) (bd (hm_X8_suppose  P_403 o0 ((pI P_403 b_407 0) ||| x10) (pI P_403 b_409 1) (0 : Int32)) (fun o_412 P_411 => nn o_412 (fun b_414 => bd (hm_X8_isHeard  P_411 o0 o5 x2 x3 b_414) (fun r_416 P_415 => ck (kk P_411 o0 9) (if r_416 = (0 : Int32) then (hm_X8_least_154 k62 o0 x2 x3 x4 o5 x6 x7 x8 x9 x10 P_415) else (if x7 ≤ r_404 then (hm_X8_least_151 k62 o0 x2 x3 x4 o5 x6 x7 x8 x9 x10 P_415) else (lt_ ((0 : Int32)) (fun x9_419 => hm_X8_least_151 k62 o0 x2 x3 x4 o5 x6 r_404 x10 x9_419 x10 P_415))))))))))))) else (hm_X8_least_154 k62 o0 x2 x3 x4 o5 x6 x7 x8 x9 x10 P_403)) else (hm_X8_least_154 k62 o0 x2 x3 x4 o5 x6 x7 x8 x9 x10 P_403)))
def hm_X8_least_62L : Nat → Nat → Int32 → Int32 → Int32 → Nat → Int32 → Int32 → Int32 → Int32 → Int32 → PS → Option (Int32 × PS)
  | 0, _, _, _, _, _, _, _, _, _, _, _ => none
  | n + 1, o0, x2, x3, x4, o5, x6, x7, x8, x9, x10, P => hm_X8_least_62  (hm_X8_least_62L  n) o0 x2 x3 x4 o5 x6 x7 x8 x9 x10 P
def hm_X8_least (P : PS) (th : Nat) (a1 : Int32) (a2 : Int32) (a3 : Int32) (a4 : Int32) : Option (Int32 × PS) := bd (hm_X8_wordAt  P th a1) (fun o_521 P_520 => ck (kk P th 9) (nl o_521 (hm_X8_least_29   P_520) (fun b_524 => bd (hm_X8_isOffer  P_520 a2 a3) (fun r_526 P_525 => if r_526 = (0 : Int32) then (hm_X8_least_29   P_525) else (bd (hm_X8_within  P_525 a4 (2 : Int32)) (fun r_529 P_528 => if r_529 = (0 : Int32) then (hm_X8_least_29   P_528) else (bd (hm_X8_factsAsked  P_528 th a3) (fun r_532 P_531 => ck (kk P_528 th 9) (ck (kk P_531 th 9) (nn (pR P_531 th 4) (fun b_536 => ck (kk P_531 b_536 6) (lt_ ((r_532 &&& ((pI P_531 b_536 0) ^^^ (-1 : Int32)))) (fun x6_538 => lt_ ((11 : Int32)) (fun x7_539 => lt_ ((-5 : Int32)) (fun x8_540 => lt_ ((0 : Int32)) (fun x9_541 => lt_ ((0 : Int32)) (fun x10_542 => hm_X8_least_62L  4000 th a2 a3 a4 b_524 x6_538 x7_539 x8_540 x9_541 x10_542 P_531)))))))))))))))))
abbrev wu_X8_least : List Cond := .code yX8_least cX8_least 12 (some .int) :: wsL_law
theorem ud_X8_least : yX8_least.cls = RX8 ∧ yX8_least.cls ≠ "java/lang/invoke/MethodHandle" ∧ yX8_least.cls ≠ "java/lang/invoke/VarHandle" ∧ (parseMethodDescriptor yX8_least.desc).map (fun d => d.parameters.length) = some 4 := by decide +kernel
abbrev rmc_X8_least : Room := { frames := 7, cells := 0, slots := 0, locals := 162 }
set_option maxHeartbeats 4000000 in
set_option maxRecDepth 100000 in
theorem hcc_X8_least (l : Launch) (D : va_G) (cs : Nat → ClassId) (t0 : TS) (P0 T : PS) (th : Nat) (a1 : Int32) (a2 : Int32) (a3 : Int32) (a4 : Int32) (r0 : Int32) (h : hm_X8_least P0 th a1 a2 a3 a4 = some (r0, T)) : MetCI l yX8_least wu_X8_least rmc_X8_least D cs t0 [.ref th, .int a1, .int a2, .int a3, .int a4] P0 T r0 0 0 := by
  refine co_start (own := RX8) (ty := (some .int)) (cc := cX8_least) (maxL := 12) ⟨by decide, rfl⟩ rfl (Nat.le_of_ble_eq_true rfl) ?_
  intro p e s m args below meth c ls cx hnm hl w
  have hx := cx.1
  have hb := cx.2.1
  have hts := cx.2.2.2.1
  have hown := cx.2.2.2.2.1
  have hml := cx.2.2.2.2.2.2
  have hsub : ∀ w ∈ wsL_law, w ∈ wu_X8_least := fun _ hq => List.mem_cons_of_mem _ hq
  have hl : lv_has ls 12 [(0, .ref th), (1, .int a1), (2, .int a2), (3, .int a3), (4, .int a4)] := hl
  have J29 : ∀  (P : PS), hm_X8_least_29   P = some (r0, T) → cGo p l e rmc_X8_least s m args below meth c 12 D cs t0 (pA P0) (cQI below D cs P0 args s 0 0 r0 T) 0 0 29 [] [] P := by
    intro  P h H locs ls hl w
    unfold hm_X8_least_29 at h
    refine lv_iconst (v := (-1 : Int32)) hx hb dX8_least_29 (by decide) ?_
    exact cw_iret cx (rt_e h) w dX8_least_30
  have J154 : ∀ (k62 : Nat → Int32 → Int32 → Int32 → Nat → Int32 → Int32 → Int32 → Int32 → Int32 → PS → Option (Int32 × PS)) (hk62 : ∀ (o0 : Nat) (x2 : Int32) (x3 : Int32) (x4 : Int32) (o5 : Nat) (x6 : Int32) (x7 : Int32) (x8 : Int32) (x9 : Int32) (x10 : Int32) (P : PS), k62 o0 x2 x3 x4 o5 x6 x7 x8 x9 x10 P = some (r0, T) → cGo p l e rmc_X8_least s m args below meth c 12 D cs t0 (pA P0) (cQI below D cs P0 args s 0 0 r0 T) 0 0 62 [(0, .ref o0), (2, .int x2), (3, .int x3), (4, .int x4), (5, .ref o5), (6, .int x6), (7, .int x7), (8, .int x8), (9, .int x9), (10, .int x10)] [] P) (o0 : Nat) (x2 : Int32) (x3 : Int32) (x4 : Int32) (o5 : Nat) (x6 : Int32) (x7 : Int32) (x8 : Int32) (x9 : Int32) (x10 : Int32) (P : PS), hm_X8_least_154 k62 o0 x2 x3 x4 o5 x6 x7 x8 x9 x10 P = some (r0, T) → cGo p l e rmc_X8_least s m args below meth c 12 D cs t0 (pA P0) (cQI below D cs P0 args s 0 0 r0 T) 0 0 154 [(0, .ref o0), (2, .int x2), (3, .int x3), (4, .int x4), (5, .ref o5), (6, .int x6), (7, .int x7), (8, .int x8), (9, .int x9), (10, .int x10)] [] P := by
    intro k62 hk62 o0 x2 x3 x4 o5 x6 x7 x8 x9 x10 P h H locs ls hl w
    unfold hm_X8_least_154 at h
    replace h := lt_e h
    obtain ⟨x10_201, ex10_201, h⟩ := h
    refine lv_iinc (v := x10_201) (lv' := [(10, .int x10_201), (0, .ref o0), (2, .int x2), (3, .int x3), (4, .int x4), (5, .ref o5), (6, .int x6), (7, .int x7), (8, .int x8), (9, .int x9)]) hx hb dX8_least_154 hl (k := 9) rfl (by rw [ex10_201]; rfl) (by decide) (rfl) (fun ls hl => ?_)
    refine lv_goto (tgt := 62) hx hb dX8_least_157 (by decide) ?_
    exact hk62 o0 x2 x3 x4 o5 x6 x7 x8 x9 x10_201 P h _ _ _ (lv_sub hl [1, 2, 3, 4, 5, 6, 7, 8, 9, 0] rfl) w
  have J151 : ∀ (k62 : Nat → Int32 → Int32 → Int32 → Nat → Int32 → Int32 → Int32 → Int32 → Int32 → PS → Option (Int32 × PS)) (hk62 : ∀ (o0 : Nat) (x2 : Int32) (x3 : Int32) (x4 : Int32) (o5 : Nat) (x6 : Int32) (x7 : Int32) (x8 : Int32) (x9 : Int32) (x10 : Int32) (P : PS), k62 o0 x2 x3 x4 o5 x6 x7 x8 x9 x10 P = some (r0, T) → cGo p l e rmc_X8_least s m args below meth c 12 D cs t0 (pA P0) (cQI below D cs P0 args s 0 0 r0 T) 0 0 62 [(0, .ref o0), (2, .int x2), (3, .int x3), (4, .int x4), (5, .ref o5), (6, .int x6), (7, .int x7), (8, .int x8), (9, .int x9), (10, .int x10)] [] P) (o0 : Nat) (x2 : Int32) (x3 : Int32) (x4 : Int32) (o5 : Nat) (x6 : Int32) (x7 : Int32) (x8 : Int32) (x9 : Int32) (x10 : Int32) (P : PS), hm_X8_least_151 k62 o0 x2 x3 x4 o5 x6 x7 x8 x9 x10 P = some (r0, T) → cGo p l e rmc_X8_least s m args below meth c 12 D cs t0 (pA P0) (cQI below D cs P0 args s 0 0 r0 T) 0 0 151 [(0, .ref o0), (2, .int x2), (3, .int x3), (4, .int x4), (5, .ref o5), (6, .int x6), (7, .int x7), (8, .int x8), (9, .int x9), (10, .int x10)] [] P := by
    intro k62 hk62 o0 x2 x3 x4 o5 x6 x7 x8 x9 x10 P h H locs ls hl w
    unfold hm_X8_least_151 at h
    replace h := lt_e h
    obtain ⟨x9_302, ex9_302, h⟩ := h
    refine lv_iinc (v := x9_302) (lv' := [(9, .int x9_302), (0, .ref o0), (2, .int x2), (3, .int x3), (4, .int x4), (5, .ref o5), (6, .int x6), (7, .int x7), (8, .int x8), (10, .int x10)]) hx hb dX8_least_151 hl (k := 8) rfl (by rw [ex9_302]; rfl) (by decide) (rfl) (fun ls hl => ?_)
    exact J154 k62 hk62 o0 x2 x3 x4 o5 x6 x7 x8 x9_302 x10 P h _ _ _ (lv_sub hl [1, 2, 3, 4, 5, 6, 7, 8, 0, 9] rfl) w
  have L62 : ∀ (n : Nat) (o0 : Nat) (x2 : Int32) (x3 : Int32) (x4 : Int32) (o5 : Nat) (x6 : Int32) (x7 : Int32) (x8 : Int32) (x9 : Int32) (x10 : Int32) (P : PS), hm_X8_least_62L  n o0 x2 x3 x4 o5 x6 x7 x8 x9 x10 P = some (r0, T) → cGo p l e rmc_X8_least s m args below meth c 12 D cs t0 (pA P0) (cQI below D cs P0 args s 0 0 r0 T) 0 0 62 [(0, .ref o0), (2, .int x2), (3, .int x3), (4, .int x4), (5, .ref o5), (6, .int x6), (7, .int x7), (8, .int x8), (9, .int x9), (10, .int x10)] [] P := by
    intro n
    induction n with
    | zero =>
      intro o0 x2 x3 x4 o5 x6 x7 x8 x9 x10 P h
      have h : none = some (r0, T) := h
      cases h
    | succ n hk62 =>
      intro o0 x2 x3 x4 o5 x6 x7 x8 x9 x10 P h H locs ls hl w
      have h : hm_X8_least_62  (hm_X8_least_62L  n) o0 x2 x3 x4 o5 x6 x7 x8 x9 x10 P = some (r0, T) := h
      generalize hm_X8_least_62L  n = k62 at h hk62
      unfold hm_X8_least_62 at h
      refine lv_iload hx hb dX8_least_62 (lv_at hl 9 rfl) ?_
      refine lv_sipush (v := (1024 : Int32)) hx hb dX8_least_64 (by decide) ?_
      refine lv_icmp_ge (tgt := 160) hx hb dX8_least_67 (by decide) (fun q => ?_) (fun q => ?_)
      · replace h := br_p q h
        refine lv_iload hx hb dX8_least_160 (lv_at hl 3 rfl) ?_
        refine lv_if_ne (tgt := 170) hx hb dX8_least_162 (by decide) (fun q => ?_) (fun q => ?_)
        · replace h := br_n q h
          refine lv_iload hx hb dX8_least_170 (lv_at hl 8 rfl) ?_
          exact cw_iret cx (rt_e h) w dX8_least_172
        · replace h := br_p q h
          refine lv_iload hx hb dX8_least_165 (lv_at hl 7 rfl) ?_
          refine lv_goto (tgt := 172) hx hb dX8_least_167 (by decide) ?_
          exact cw_iret cx (rt_e h) w dX8_least_172
      · replace h := br_n q h
        refine lv_iload hx hb dX8_least_70 (lv_at hl 9 rfl) ?_
        replace h := bd_e h
        obtain ⟨r_404, P_403, hc_405, h⟩ := h
        refine cc_i (cr_S (As := [.int x10]) (rest := []) cx (hcc_J6_bitCount_0f7a4 l D cs t0  P P_403 x10 r_404 hc_405) (va_cwS 1 hts (uGS uw_J6_bitCount_0f7a4 ul_RX8_191 ut_J6_bitCount_0f7a4 un_RJ6) rfl rfl rfl ud_J6_bitCount_0f7a4.2 ⟨Nat.le_of_ble_eq_true rfl, Nat.le_of_ble_eq_true rfl⟩) w rfl hl.1 rfl (Nat.le_of_ble_eq_true rfl) dX8_least_72 ⟨(Nat.le_of_ble_eq_true rfl), (Nat.le_of_ble_eq_true rfl)⟩) (fun H locs w => ?_)
        refine lv_istore (lv' := [(11, .int r_404), (0, .ref o0), (2, .int x2), (3, .int x3), (4, .int x4), (5, .ref o5), (6, .int x6), (7, .int x7), (8, .int x8), (9, .int x9), (10, .int x10)]) hx hb dX8_least_75 hl (by decide) (rfl) (fun ls hl => ?_)
        refine lv_iload hx hb dX8_least_77 (lv_at hl 10 rfl) ?_
        refine lv_iload hx hb dX8_least_79 (lv_at hl 6 rfl) ?_
        refine lv_iconst (v := (-1 : Int32)) hx hb dX8_least_81 (by decide) ?_
        refine lv_ixor hx hb dX8_least_82 ?_
        refine lv_iand hx hb dX8_least_83 ?_
        refine lv_if_ne (tgt := 154) hx hb dX8_least_84 (by decide) (fun q => ?_) (fun q => ?_)
        · replace h := br_n q h
          exact J154 k62 hk62 o0 x2 x3 x4 o5 x6 x7 x8 x9 x10 P_403 h _ _ _ (lv_sub hl [1, 2, 3, 4, 5, 6, 7, 8, 9, 10] rfl) w
        · replace h := br_p q h
          refine lv_iload hx hb dX8_least_87 (lv_at hl 0 rfl) ?_
          refine lv_iload hx hb dX8_least_89 (lv_at hl 7 rfl) ?_
          refine lv_icmp_le (tgt := 97) hx hb dX8_least_91 (by decide) (fun q => ?_) (fun q => ?_)
          · replace h := br_p q h
            refine lv_aload_n hx hb dX8_least_97 rfl (lv_at hl 1 rfl) ?_
            refine lv_aload hx hb dX8_least_98 (lv_at hl 5 rfl) ?_
            refine lv_iload_n hx hb dX8_least_100 rfl (lv_at hl 2 rfl) ?_
            refine lv_iload_n hx hb dX8_least_101 rfl (lv_at hl 3 rfl) ?_
            refine lv_aload_n hx hb dX8_least_102 rfl (lv_at hl 1 rfl) ?_
            refine lv_aload_n hx hb dX8_least_103 rfl (lv_at hl 1 rfl) ?_
            replace h := ck_e h
            obtain ⟨hk_406, h⟩ := h
            replace h := nn_e h
            obtain ⟨b_407, hbb_407, h⟩ := h
            refine cw_getS cx hsub w kT9 hk_406 4 (by decide) hbb_407 ⟨hsub _ uf_RX8_37, Or.inl rfl⟩ dX8_least_104 ?_
            replace h := ck_e h
            obtain ⟨hk_408, h⟩ := h
            refine cw_getI cx hsub w kT6 hk_408 0 (by decide) ⟨hsub _ uf_RX8_128, Or.inl rfl⟩ dX8_least_107 ?_
            refine lv_iload hx hb dX8_least_110 (lv_at hl 10 rfl) ?_
            refine lv_ior hx hb dX8_least_112 ?_
            refine lv_aload_n hx hb dX8_least_113 rfl (lv_at hl 1 rfl) ?_
            replace h := nn_e h
            obtain ⟨b_409, hbb_409, h⟩ := h
            refine cw_getS cx hsub w kT9 hk_406 4 (by decide) hbb_409 ⟨hsub _ uf_RX8_37, Or.inl rfl⟩ dX8_least_114 ?_
            replace h := ck_e h
            obtain ⟨hk_410, h⟩ := h
            refine cw_getI cx hsub w kT6 hk_410 1 (by decide) ⟨hsub _ uf_RX8_145, Or.inl rfl⟩ dX8_least_117 ?_
            refine lv_iconst (v := (0 : Int32)) hx hb dX8_least_120 (by decide) ?_
            replace h := bd_e h
            obtain ⟨o_412, P_411, hc_413, h⟩ := h
            refine cc_q (cr_V (As := [.int ((pI P_403 b_407 0) ||| x10), .int (pI P_403 b_409 1), .int (0 : Int32)]) (rest := [.int x3, .int x2, .ref o5, .ref o0]) cx (hcc_X8_suppose l D cs t0  P_403 P_411 o0 ((pI P_403 b_407 0) ||| x10) (pI P_403 b_409 1) (0 : Int32) o_412 hc_413) kT9 hk_406 (cwV 3 hts (uG uw_X8_suppose ul_RX8_196 ui_X8_suppose us_RX8_X8_suppose un_RX8) rfl rfl rfl ud_X8_suppose ⟨Nat.le_of_ble_eq_true rfl, Nat.le_of_ble_eq_true rfl⟩) w rfl hl.1 rfl (Nat.le_of_ble_eq_true rfl) dX8_least_121 ⟨(Nat.le_of_ble_eq_true rfl), (Nat.le_of_ble_eq_true rfl)⟩) (fun H locs w => ?_)
            replace h := nn_e h
            obtain ⟨b_414, hbb_414, h⟩ := h
            subst hbb_414
            have hl : lv_has ls 12 [(11, .int r_404), (0, .ref o0), (2, .int x2), (3, .int x3), (4, .int x4), (5, .ref o5), (6, .int x6), (7, .int x7), (8, .int x8), (9, .int x9), (10, .int x10)] := hl
            refine W.eq (g2 := F0 m _ ls [.ref b_414, .int x3, .int x2, .ref o5, .ref o0]) rfl ?_
            replace h := bd_e h
            obtain ⟨r_416, P_415, hc_417, h⟩ := h
            replace h := ck_e h
            obtain ⟨hk_418, h⟩ := h
            refine cc_i (cr_V (As := [.ref o5, .int x2, .int x3, .ref b_414]) (rest := []) cx (hcc_X8_isHeard l D cs t0  P_411 P_415 o0 o5 x2 x3 b_414 r_416 hc_417) kT9 hk_418 (cwV 4 hts (uG uw_X8_isHeard ul_RX8_169 ui_X8_isHeard us_RX8_X8_isHeard un_RX8) rfl rfl rfl ud_X8_isHeard ⟨Nat.le_of_ble_eq_true rfl, Nat.le_of_ble_eq_true rfl⟩) w rfl hl.1 rfl (Nat.le_of_ble_eq_true rfl) dX8_least_124 ⟨(Nat.le_of_ble_eq_true rfl), (Nat.le_of_ble_eq_true rfl)⟩) (fun H locs w => ?_)
            refine lv_if_ne (tgt := 133) hx hb dX8_least_127 (by decide) (fun q => ?_) (fun q => ?_)
            · replace h := br_n q h
              refine lv_iload hx hb dX8_least_133 (lv_at hl 0 rfl) ?_
              refine lv_iload hx hb dX8_least_135 (lv_at hl 7 rfl) ?_
              refine lv_icmp_ge (tgt := 151) hx hb dX8_least_137 (by decide) (fun q => ?_) (fun q => ?_)
              · replace h := br_p q h
                exact J151 k62 hk62 o0 x2 x3 x4 o5 x6 x7 x8 x9 x10 P_415 h _ _ _ (lv_sub hl [1, 2, 3, 4, 5, 6, 7, 8, 9, 10] rfl) w
              · replace h := br_n q h
                refine lv_iload hx hb dX8_least_140 (lv_at hl 0 rfl) ?_
                refine lv_istore (lv' := [(7, .int r_404), (11, .int r_404), (0, .ref o0), (2, .int x2), (3, .int x3), (4, .int x4), (5, .ref o5), (6, .int x6), (8, .int x8), (9, .int x9), (10, .int x10)]) hx hb dX8_least_142 hl (by decide) (rfl) (fun ls hl => ?_)
                refine lv_iload hx hb dX8_least_144 (lv_at hl 10 rfl) ?_
                refine lv_istore (lv' := [(8, .int x10), (7, .int r_404), (11, .int r_404), (0, .ref o0), (2, .int x2), (3, .int x3), (4, .int x4), (5, .ref o5), (6, .int x6), (9, .int x9), (10, .int x10)]) hx hb dX8_least_146 hl (by decide) (rfl) (fun ls hl => ?_)
                refine lv_iconst (v := (0 : Int32)) hx hb dX8_least_148 (by decide) ?_
                replace h := lt_e h
                obtain ⟨x9_419, ex9_419, h⟩ := h
                refine top_i ex9_419 ?_
                refine lv_istore (lv' := [(9, .int x9_419), (8, .int x10), (7, .int r_404), (11, .int r_404), (0, .ref o0), (2, .int x2), (3, .int x3), (4, .int x4), (5, .ref o5), (6, .int x6), (10, .int x10)]) hx hb dX8_least_149 hl (by decide) (rfl) (fun ls hl => ?_)
                exact J151 k62 hk62 o0 x2 x3 x4 o5 x6 r_404 x10 x9_419 x10 P_415 h _ _ _ (lv_sub hl [4, 5, 6, 7, 8, 9, 2, 1, 0, 10] rfl) w
            · replace h := br_p q h
              refine lv_goto (tgt := 154) hx hb dX8_least_130 (by decide) ?_
              exact J154 k62 hk62 o0 x2 x3 x4 o5 x6 x7 x8 x9 x10 P_415 h _ _ _ (lv_sub hl [1, 2, 3, 4, 5, 6, 7, 8, 9, 10] rfl) w
          · replace h := br_n q h
            refine lv_goto (tgt := 154) hx hb dX8_least_94 (by decide) ?_
            exact J154 k62 hk62 o0 x2 x3 x4 o5 x6 x7 x8 x9 x10 P_403 h _ _ _ (lv_sub hl [1, 2, 3, 4, 5, 6, 7, 8, 9, 10] rfl) w
  have hP0 : P0 = P0 := rfl
  unfold hm_X8_least at h
  refine lv_aload_n hx hb dX8_least_0 rfl (lv_at hl 0 rfl) ?_
  refine lv_iload_n hx hb dX8_least_1 rfl (lv_at hl 1 rfl) ?_
  replace h := bd_e h
  obtain ⟨o_521, P_520, hc_522, h⟩ := h
  replace h := ck_e h
  obtain ⟨hk_523, h⟩ := h
  refine cc_q (cr_V (As := [.int a1]) (rest := []) cx (hcc_X8_wordAt l D cs t0  P0 P_520 th a1 o_521 hc_522) kT9 hk_523 (cwV 1 hts (uG uw_X8_wordAt ul_RX8_95 ui_X8_wordAt us_RX8_X8_wordAt un_RX8) rfl rfl rfl ud_X8_wordAt ⟨Nat.le_of_ble_eq_true rfl, Nat.le_of_ble_eq_true rfl⟩) w rfl hl.1 rfl (Nat.le_of_ble_eq_true rfl) dX8_least_2 ⟨(Nat.le_of_ble_eq_true rfl), (Nat.le_of_ble_eq_true rfl)⟩) (fun H locs w => ?_)
  refine lq_astore (lv' := [(5, va_rf o_521), (0, .ref th), (1, .int a1), (2, .int a2), (3, .int a3), (4, .int a4)]) hx hb dX8_least_5 hl (by decide) (fun v hv => by subst hv; exact (rfl)) (fun ls hl => ?_)
  refine lq_aload hx hb dX8_least_7 (lv_at hl 0 rfl) ?_
  cases o_521 with
  | none =>
    replace h := nl_n h
    have hl : lv_has ls 12 [(5, .null), (0, .ref th), (1, .int a1), (2, .int a2), (3, .int a3), (4, .int a4)] := hl
    refine lv_ifnullN (tgt := 29) hx hb dX8_least_9 (by decide) ?_
    exact J29   P_520 h _ _ _ (lv_sub hl [] rfl) w
  | some b_524 =>
    replace h := nl_s h
    have hl : lv_has ls 12 [(5, .ref b_524), (0, .ref th), (1, .int a1), (2, .int a2), (3, .int a3), (4, .int a4)] := hl
    refine lv_ifnull hx hb dX8_least_9 ?_
    refine lv_iload_n hx hb dX8_least_12 rfl (lv_at hl 3 rfl) ?_
    refine lv_iload_n hx hb dX8_least_13 rfl (lv_at hl 4 rfl) ?_
    replace h := bd_e h
    obtain ⟨r_526, P_525, hc_527, h⟩ := h
    refine cc_i (cr_S (As := [.int a2, .int a3]) (rest := []) cx (hcc_X8_isOffer l D cs t0  P_520 P_525 a2 a3 r_526 hc_527) (va_cwS 2 hts (uGS uw_X8_isOffer ul_RX8_166 ut_X8_isOffer un_RX8) rfl rfl rfl ud_X8_isOffer.2 ⟨Nat.le_of_ble_eq_true rfl, Nat.le_of_ble_eq_true rfl⟩) w rfl hl.1 rfl (Nat.le_of_ble_eq_true rfl) dX8_least_14 ⟨(Nat.le_of_ble_eq_true rfl), (Nat.le_of_ble_eq_true rfl)⟩) (fun H locs w => ?_)
    refine lv_if_eq (tgt := 29) hx hb dX8_least_17 (by decide) (fun q => ?_) (fun q => ?_)
    · replace h := br_p q h
      exact J29   P_525 h _ _ _ (lv_sub hl [] rfl) w
    · replace h := br_n q h
      refine lv_iload hx hb dX8_least_20 (lv_at hl 5 rfl) ?_
      refine lv_iconst (v := (2 : Int32)) hx hb dX8_least_22 (by decide) ?_
      replace h := bd_e h
      obtain ⟨r_529, P_528, hc_530, h⟩ := h
      refine cc_i (cr_S (As := [.int a4, .int (2 : Int32)]) (rest := []) cx (hcc_X8_within l D cs t0  P_525 P_528 a4 (2 : Int32) r_529 hc_530) (va_cwS 2 hts (uGS uw_X8_within ul_RX8_72 ut_X8_within un_RX8) rfl rfl rfl ud_X8_within.2 ⟨Nat.le_of_ble_eq_true rfl, Nat.le_of_ble_eq_true rfl⟩) w rfl hl.1 rfl (Nat.le_of_ble_eq_true rfl) dX8_least_23 ⟨(Nat.le_of_ble_eq_true rfl), (Nat.le_of_ble_eq_true rfl)⟩) (fun H locs w => ?_)
      refine lv_if_ne (tgt := 31) hx hb dX8_least_26 (by decide) (fun q => ?_) (fun q => ?_)
      · replace h := br_n q h
        refine lv_aload_n hx hb dX8_least_31 rfl (lv_at hl 1 rfl) ?_
        refine lv_iload_n hx hb dX8_least_32 rfl (lv_at hl 4 rfl) ?_
        replace h := bd_e h
        obtain ⟨r_532, P_531, hc_533, h⟩ := h
        replace h := ck_e h
        obtain ⟨hk_534, h⟩ := h
        refine cc_i (cr_V (As := [.int a3]) (rest := []) cx (hcc_X8_factsAsked l D cs t0  P_528 P_531 th a3 r_532 hc_533) kT9 hk_534 (cwV 1 hts (uG uw_X8_factsAsked ul_RX8_188 ui_X8_factsAsked us_RX8_X8_factsAsked un_RX8) rfl rfl rfl ud_X8_factsAsked ⟨Nat.le_of_ble_eq_true rfl, Nat.le_of_ble_eq_true rfl⟩) w rfl hl.1 rfl (Nat.le_of_ble_eq_true rfl) dX8_least_33 ⟨(Nat.le_of_ble_eq_true rfl), (Nat.le_of_ble_eq_true rfl)⟩) (fun H locs w => ?_)
        refine lv_aload_n hx hb dX8_least_36 rfl (lv_at hl 1 rfl) ?_
        replace h := ck_e h
        obtain ⟨hk_535, h⟩ := h
        replace h := nn_e h
        obtain ⟨b_536, hbb_536, h⟩ := h
        refine cw_getS cx hsub w kT9 hk_535 4 (by decide) hbb_536 ⟨hsub _ uf_RX8_37, Or.inl rfl⟩ dX8_least_37 ?_
        replace h := ck_e h
        obtain ⟨hk_537, h⟩ := h
        refine cw_getI cx hsub w kT6 hk_537 0 (by decide) ⟨hsub _ uf_RX8_128, Or.inl rfl⟩ dX8_least_40 ?_
        refine lv_iconst (v := (-1 : Int32)) hx hb dX8_least_43 (by decide) ?_
        refine lv_ixor hx hb dX8_least_44 ?_
        refine lv_iand hx hb dX8_least_45 ?_
        replace h := lt_e h
        obtain ⟨x6_538, ex6_538, h⟩ := h
        refine top_i ex6_538 ?_
        refine lv_istore (lv' := [(6, .int x6_538), (5, .ref b_524), (0, .ref th), (1, .int a1), (2, .int a2), (3, .int a3), (4, .int a4)]) hx hb dX8_least_46 hl (by decide) (rfl) (fun ls hl => ?_)
        refine lv_bipush (v := (11 : Int32)) hx hb dX8_least_48 (by decide) ?_
        replace h := lt_e h
        obtain ⟨x7_539, ex7_539, h⟩ := h
        refine top_i ex7_539 ?_
        refine lv_istore (lv' := [(7, .int x7_539), (6, .int x6_538), (5, .ref b_524), (0, .ref th), (1, .int a1), (2, .int a2), (3, .int a3), (4, .int a4)]) hx hb dX8_least_50 hl (by decide) (rfl) (fun ls hl => ?_)
        refine lv_bipush (v := (-5 : Int32)) hx hb dX8_least_52 (by decide) ?_
        replace h := lt_e h
        obtain ⟨x8_540, ex8_540, h⟩ := h
        refine top_i ex8_540 ?_
        refine lv_istore (lv' := [(8, .int x8_540), (7, .int x7_539), (6, .int x6_538), (5, .ref b_524), (0, .ref th), (1, .int a1), (2, .int a2), (3, .int a3), (4, .int a4)]) hx hb dX8_least_54 hl (by decide) (rfl) (fun ls hl => ?_)
        refine lv_iconst (v := (0 : Int32)) hx hb dX8_least_56 (by decide) ?_
        replace h := lt_e h
        obtain ⟨x9_541, ex9_541, h⟩ := h
        refine top_i ex9_541 ?_
        refine lv_istore (lv' := [(9, .int x9_541), (8, .int x8_540), (7, .int x7_539), (6, .int x6_538), (5, .ref b_524), (0, .ref th), (1, .int a1), (2, .int a2), (3, .int a3), (4, .int a4)]) hx hb dX8_least_57 hl (by decide) (rfl) (fun ls hl => ?_)
        refine lv_iconst (v := (0 : Int32)) hx hb dX8_least_59 (by decide) ?_
        replace h := lt_e h
        obtain ⟨x10_542, ex10_542, h⟩ := h
        refine top_i ex10_542 ?_
        refine lv_istore (lv' := [(10, .int x10_542), (9, .int x9_541), (8, .int x8_540), (7, .int x7_539), (6, .int x6_538), (5, .ref b_524), (0, .ref th), (1, .int a1), (2, .int a2), (3, .int a3), (4, .int a4)]) hx hb dX8_least_60 hl (by decide) (rfl) (fun ls hl => ?_)
        exact L62  4000 th a2 a3 a4 b_524 x6_538 x7_539 x8_540 x9_541 x10_542 P_531 h _ _ _ (lv_sub hl [6, 8, 9, 10, 5, 4, 3, 2, 1, 0] rfl) w
      · replace h := br_p q h
        exact J29   P_528 h _ _ _ (lv_sub hl [] rfl) w
def hm_X8_ends_18  (P : PS) : Option (Int32 × PS) := some ((-1 : Int32), P)
def hm_X8_ends_56 (k26 : Nat → Int32 → Nat → Int32 → Int32 → PS → Option (Int32 × PS)) (o0 : Nat) (x2 : Int32) (o3 : Nat) (x4 : Int32) (x5 : Int32) (P : PS) : Option (Int32 × PS) := lt_ (x5 + (1 : Int32)) (fun x5_201 => k26 o0 x2 o3 x4 x5_201 P)
def hm_X8_ends_26 (k26 : Nat → Int32 → Nat → Int32 → Int32 → PS → Option (Int32 × PS)) (o0 : Nat) (x2 : Int32) (o3 : Nat) (x4 : Int32) (x5 : Int32) (P : PS) : Option (Int32 × PS) := if (4 : Int32) ≤ x5 then (some (x4, P)) else (ck (kk P o0 9) (nn (pR P o0 4) (fun b_303 => bd (hm_X8_isHeard  P o0 o3 x5 x2 b_303) (fun r_305 P_304 => if r_305 = (0 : Int32) then (hm_X8_ends_56 k26 o0 x2 o3 x4 x5 P_304) else (lt_ ((x4 ||| ((1 : Int32) <<< (x5 &&& 31)))) (fun x4_307 => hm_X8_ends_56 k26 o0 x2 o3 x4_307 x5 P_304))))))
def hm_X8_ends_26L : Nat → Nat → Int32 → Nat → Int32 → Int32 → PS → Option (Int32 × PS)
  | 0, _, _, _, _, _, _ => none
  | n + 1, o0, x2, o3, x4, x5, P => hm_X8_ends_26  (hm_X8_ends_26L  n) o0 x2 o3 x4 x5 P
def hm_X8_ends (P : PS) (th : Nat) (a1 : Int32) (a2 : Int32) : Option (Int32 × PS) := bd (hm_X8_wordAt  P th a1) (fun o_409 P_408 => ck (kk P th 9) (nl o_409 (hm_X8_ends_18   P_408) (fun b_412 => bd (hm_X8_within  P_408 a2 (2 : Int32)) (fun r_414 P_413 => if r_414 = (0 : Int32) then (hm_X8_ends_18   P_413) else (lt_ ((0 : Int32)) (fun x4_416 => lt_ ((0 : Int32)) (fun x5_417 => hm_X8_ends_26L  4000 th a2 b_412 x4_416 x5_417 P_413)))))))
abbrev wu_X8_ends : List Cond := .code yX8_ends cX8_ends 6 (some .int) :: wsL_law
theorem ud_X8_ends : yX8_ends.cls = RX8 ∧ yX8_ends.cls ≠ "java/lang/invoke/MethodHandle" ∧ yX8_ends.cls ≠ "java/lang/invoke/VarHandle" ∧ (parseMethodDescriptor yX8_ends.desc).map (fun d => d.parameters.length) = some 2 := by decide +kernel
abbrev rmc_X8_ends : Room := { frames := 7, cells := 0, slots := 0, locals := 162 }
set_option maxHeartbeats 4000000 in
set_option maxRecDepth 100000 in
theorem hcc_X8_ends (l : Launch) (D : va_G) (cs : Nat → ClassId) (t0 : TS) (P0 T : PS) (th : Nat) (a1 : Int32) (a2 : Int32) (r0 : Int32) (h : hm_X8_ends P0 th a1 a2 = some (r0, T)) : MetCI l yX8_ends wu_X8_ends rmc_X8_ends D cs t0 [.ref th, .int a1, .int a2] P0 T r0 0 0 := by
  refine co_start (own := RX8) (ty := (some .int)) (cc := cX8_ends) (maxL := 6) ⟨by decide, rfl⟩ rfl (Nat.le_of_ble_eq_true rfl) ?_
  intro p e s m args below meth c ls cx hnm hl w
  have hx := cx.1
  have hb := cx.2.1
  have hts := cx.2.2.2.1
  have hown := cx.2.2.2.2.1
  have hml := cx.2.2.2.2.2.2
  have hsub : ∀ w ∈ wsL_law, w ∈ wu_X8_ends := fun _ hq => List.mem_cons_of_mem _ hq
  have hl : lv_has ls 6 [(0, .ref th), (1, .int a1), (2, .int a2)] := hl
  have J18 : ∀  (P : PS), hm_X8_ends_18   P = some (r0, T) → cGo p l e rmc_X8_ends s m args below meth c 6 D cs t0 (pA P0) (cQI below D cs P0 args s 0 0 r0 T) 0 0 18 [] [] P := by
    intro  P h H locs ls hl w
    unfold hm_X8_ends_18 at h
    refine lv_iconst (v := (-1 : Int32)) hx hb dX8_ends_18 (by decide) ?_
    exact cw_iret cx (rt_e h) w dX8_ends_19
  have J56 : ∀ (k26 : Nat → Int32 → Nat → Int32 → Int32 → PS → Option (Int32 × PS)) (hk26 : ∀ (o0 : Nat) (x2 : Int32) (o3 : Nat) (x4 : Int32) (x5 : Int32) (P : PS), k26 o0 x2 o3 x4 x5 P = some (r0, T) → cGo p l e rmc_X8_ends s m args below meth c 6 D cs t0 (pA P0) (cQI below D cs P0 args s 0 0 r0 T) 0 0 26 [(0, .ref o0), (2, .int x2), (3, .ref o3), (4, .int x4), (5, .int x5)] [] P) (o0 : Nat) (x2 : Int32) (o3 : Nat) (x4 : Int32) (x5 : Int32) (P : PS), hm_X8_ends_56 k26 o0 x2 o3 x4 x5 P = some (r0, T) → cGo p l e rmc_X8_ends s m args below meth c 6 D cs t0 (pA P0) (cQI below D cs P0 args s 0 0 r0 T) 0 0 56 [(0, .ref o0), (2, .int x2), (3, .ref o3), (4, .int x4), (5, .int x5)] [] P := by
    intro k26 hk26 o0 x2 o3 x4 x5 P h H locs ls hl w
    unfold hm_X8_ends_56 at h
    replace h := lt_e h
    obtain ⟨x5_201, ex5_201, h⟩ := h
    refine lv_iinc (v := x5_201) (lv' := [(5, .int x5_201), (0, .ref o0), (2, .int x2), (3, .ref o3), (4, .int x4)]) hx hb dX8_ends_56 hl (k := 4) rfl (by rw [ex5_201]; rfl) (by decide) (rfl) (fun ls hl => ?_)
    refine lv_goto (tgt := 26) hx hb dX8_ends_59 (by decide) ?_
    exact hk26 o0 x2 o3 x4 x5_201 P h _ _ _ (lv_sub hl [1, 2, 3, 4, 0] rfl) w
  have L26 : ∀ (n : Nat) (o0 : Nat) (x2 : Int32) (o3 : Nat) (x4 : Int32) (x5 : Int32) (P : PS), hm_X8_ends_26L  n o0 x2 o3 x4 x5 P = some (r0, T) → cGo p l e rmc_X8_ends s m args below meth c 6 D cs t0 (pA P0) (cQI below D cs P0 args s 0 0 r0 T) 0 0 26 [(0, .ref o0), (2, .int x2), (3, .ref o3), (4, .int x4), (5, .int x5)] [] P := by
    intro n
    induction n with
    | zero =>
      intro o0 x2 o3 x4 x5 P h
      have h : none = some (r0, T) := h
      cases h
    | succ n hk26 =>
      intro o0 x2 o3 x4 x5 P h H locs ls hl w
      have h : hm_X8_ends_26  (hm_X8_ends_26L  n) o0 x2 o3 x4 x5 P = some (r0, T) := h
      generalize hm_X8_ends_26L  n = k26 at h hk26
      unfold hm_X8_ends_26 at h
      refine lv_iload hx hb dX8_ends_26 (lv_at hl 4 rfl) ?_
      refine lv_iconst (v := (4 : Int32)) hx hb dX8_ends_28 (by decide) ?_
      refine lv_icmp_ge (tgt := 62) hx hb dX8_ends_29 (by decide) (fun q => ?_) (fun q => ?_)
      · replace h := br_p q h
        refine lv_iload hx hb dX8_ends_62 (lv_at hl 3 rfl) ?_
        exact cw_iret cx (rt_e h) w dX8_ends_64
      · replace h := br_n q h
        refine lv_aload_n hx hb dX8_ends_32 rfl (lv_at hl 0 rfl) ?_
        refine lv_aload_n hx hb dX8_ends_33 rfl (lv_at hl 2 rfl) ?_
        refine lv_iload hx hb dX8_ends_34 (lv_at hl 4 rfl) ?_
        refine lv_iload_n hx hb dX8_ends_36 rfl (lv_at hl 1 rfl) ?_
        refine lv_aload_n hx hb dX8_ends_37 rfl (lv_at hl 0 rfl) ?_
        replace h := ck_e h
        obtain ⟨hk_302, h⟩ := h
        replace h := nn_e h
        obtain ⟨b_303, hbb_303, h⟩ := h
        refine cw_getS cx hsub w kT9 hk_302 4 (by decide) hbb_303 ⟨hsub _ uf_RX8_37, Or.inl rfl⟩ dX8_ends_38 ?_
        replace h := bd_e h
        obtain ⟨r_305, P_304, hc_306, h⟩ := h
        refine cc_i (cr_V (As := [.ref o3, .int x5, .int x2, .ref b_303]) (rest := []) cx (hcc_X8_isHeard l D cs t0  P P_304 o0 o3 x5 x2 b_303 r_305 hc_306) kT9 hk_302 (cwV 4 hts (uG uw_X8_isHeard ul_RX8_169 ui_X8_isHeard us_RX8_X8_isHeard un_RX8) rfl rfl rfl ud_X8_isHeard ⟨Nat.le_of_ble_eq_true rfl, Nat.le_of_ble_eq_true rfl⟩) w rfl hl.1 rfl (Nat.le_of_ble_eq_true rfl) dX8_ends_41 ⟨(Nat.le_of_ble_eq_true rfl), (Nat.le_of_ble_eq_true rfl)⟩) (fun H locs w => ?_)
        refine lv_if_eq (tgt := 56) hx hb dX8_ends_44 (by decide) (fun q => ?_) (fun q => ?_)
        · replace h := br_p q h
          exact J56 k26 hk26 o0 x2 o3 x4 x5 P_304 h _ _ _ (lv_sub hl [0, 1, 2, 3, 4] rfl) w
        · replace h := br_n q h
          refine lv_iload hx hb dX8_ends_47 (lv_at hl 3 rfl) ?_
          refine lv_iconst (v := (1 : Int32)) hx hb dX8_ends_49 (by decide) ?_
          refine lv_iload hx hb dX8_ends_50 (lv_at hl 4 rfl) ?_
          refine lv_ishl hx hb dX8_ends_52 ?_
          refine lv_ior hx hb dX8_ends_53 ?_
          replace h := lt_e h
          obtain ⟨x4_307, ex4_307, h⟩ := h
          refine top_i ex4_307 ?_
          refine lv_istore (lv' := [(4, .int x4_307), (0, .ref o0), (2, .int x2), (3, .ref o3), (5, .int x5)]) hx hb dX8_ends_54 hl (by decide) (rfl) (fun ls hl => ?_)
          exact J56 k26 hk26 o0 x2 o3 x4_307 x5 P_304 h _ _ _ (lv_sub hl [1, 2, 3, 0, 4] rfl) w
  have hP0 : P0 = P0 := rfl
  unfold hm_X8_ends at h
  refine lv_aload_n hx hb dX8_ends_0 rfl (lv_at hl 0 rfl) ?_
  refine lv_iload_n hx hb dX8_ends_1 rfl (lv_at hl 1 rfl) ?_
  replace h := bd_e h
  obtain ⟨o_409, P_408, hc_410, h⟩ := h
  replace h := ck_e h
  obtain ⟨hk_411, h⟩ := h
  refine cc_q (cr_V (As := [.int a1]) (rest := []) cx (hcc_X8_wordAt l D cs t0  P0 P_408 th a1 o_409 hc_410) kT9 hk_411 (cwV 1 hts (uG uw_X8_wordAt ul_RX8_95 ui_X8_wordAt us_RX8_X8_wordAt un_RX8) rfl rfl rfl ud_X8_wordAt ⟨Nat.le_of_ble_eq_true rfl, Nat.le_of_ble_eq_true rfl⟩) w rfl hl.1 rfl (Nat.le_of_ble_eq_true rfl) dX8_ends_2 ⟨(Nat.le_of_ble_eq_true rfl), (Nat.le_of_ble_eq_true rfl)⟩) (fun H locs w => ?_)
  refine lq_astore_n (lv' := [(3, va_rf o_409), (0, .ref th), (1, .int a1), (2, .int a2)]) hx hb dX8_ends_5 rfl hl (by decide) (fun v hv => by subst hv; exact (rfl)) (fun ls hl => ?_)
  refine lq_aload_n hx hb dX8_ends_6 rfl (lv_at hl 0 rfl) ?_
  cases o_409 with
  | none =>
    replace h := nl_n h
    have hl : lv_has ls 6 [(3, .null), (0, .ref th), (1, .int a1), (2, .int a2)] := hl
    refine lv_ifnullN (tgt := 18) hx hb dX8_ends_7 (by decide) ?_
    exact J18   P_408 h _ _ _ (lv_sub hl [] rfl) w
  | some b_412 =>
    replace h := nl_s h
    have hl : lv_has ls 6 [(3, .ref b_412), (0, .ref th), (1, .int a1), (2, .int a2)] := hl
    refine lv_ifnull hx hb dX8_ends_7 ?_
    refine lv_iload_n hx hb dX8_ends_10 rfl (lv_at hl 3 rfl) ?_
    refine lv_iconst (v := (2 : Int32)) hx hb dX8_ends_11 (by decide) ?_
    replace h := bd_e h
    obtain ⟨r_414, P_413, hc_415, h⟩ := h
    refine cc_i (cr_S (As := [.int a2, .int (2 : Int32)]) (rest := []) cx (hcc_X8_within l D cs t0  P_408 P_413 a2 (2 : Int32) r_414 hc_415) (va_cwS 2 hts (uGS uw_X8_within ul_RX8_72 ut_X8_within un_RX8) rfl rfl rfl ud_X8_within.2 ⟨Nat.le_of_ble_eq_true rfl, Nat.le_of_ble_eq_true rfl⟩) w rfl hl.1 rfl (Nat.le_of_ble_eq_true rfl) dX8_ends_12 ⟨(Nat.le_of_ble_eq_true rfl), (Nat.le_of_ble_eq_true rfl)⟩) (fun H locs w => ?_)
    refine lv_if_ne (tgt := 20) hx hb dX8_ends_15 (by decide) (fun q => ?_) (fun q => ?_)
    · replace h := br_n q h
      refine lv_iconst (v := (0 : Int32)) hx hb dX8_ends_20 (by decide) ?_
      replace h := lt_e h
      obtain ⟨x4_416, ex4_416, h⟩ := h
      refine top_i ex4_416 ?_
      refine lv_istore (lv' := [(4, .int x4_416), (3, .ref b_412), (0, .ref th), (1, .int a1), (2, .int a2)]) hx hb dX8_ends_21 hl (by decide) (rfl) (fun ls hl => ?_)
      refine lv_iconst (v := (0 : Int32)) hx hb dX8_ends_23 (by decide) ?_
      replace h := lt_e h
      obtain ⟨x5_417, ex5_417, h⟩ := h
      refine top_i ex5_417 ?_
      refine lv_istore (lv' := [(5, .int x5_417), (4, .int x4_416), (3, .ref b_412), (0, .ref th), (1, .int a1), (2, .int a2)]) hx hb dX8_ends_24 hl (by decide) (rfl) (fun ls hl => ?_)
      exact L26  4000 th a2 b_412 x4_416 x5_417 P_413 h _ _ _ (lv_sub hl [3, 5, 2, 1, 0] rfl) w
    · replace h := br_p q h
      exact J18   P_413 h _ _ _ (lv_sub hl [] rfl) w
def hm_X8_unheardPlaces_42 (k4 : Nat → Int32 → Int32 → Int32 → PS → Option (Int32 × PS)) (o0 : Nat) (x1 : Int32) (x2 : Int32) (x3 : Int32) (P : PS) : Option (Int32 × PS) := lt_ (x3 + (1 : Int32)) (fun x3_101 => k4 o0 x1 x2 x3_101 P)
def hm_X8_unheardPlaces_4 (k4 : Nat → Int32 → Int32 → Int32 → PS → Option (Int32 × PS)) (o0 : Nat) (x1 : Int32) (x2 : Int32) (x3 : Int32) (P : PS) : Option (Int32 × PS) := ck (kk P o0 8) (nn (pR P o0 5) (fun b_203 => bd (hm_Jx4a65c_size_8abf5  P b_203) (fun r_205 P_204 => ck (kk P b_203 0) (if r_205 ≤ x3 then (some (x2, P_204)) else (ck (kk P_204 o0 8) (nn (pR P_204 o0 5) (fun b_209 => bd (hm_Jx4a65c_get_915e3  P_204 b_209 x3) (fun o_211 P_210 => ck (kk P_204 b_209 0) (nn o_211 (fun b_214 => ck (kk P_210 b_214 8) (bd (hm_X8_has  P_210 x1 (pI P_210 b_214 0)) (fun r_217 P_216 => if r_217 = (0 : Int32) then (lt_ ((x2 ||| ((1 : Int32) <<< (x3 &&& 31)))) (fun x2_219 => hm_X8_unheardPlaces_42 k4 o0 x1 x2_219 x3 P_216)) else (hm_X8_unheardPlaces_42 k4 o0 x1 x2 x3 P_216)))))))))))))
def hm_X8_unheardPlaces_4L : Nat → Nat → Int32 → Int32 → Int32 → PS → Option (Int32 × PS)
  | 0, _, _, _, _, _ => none
  | n + 1, o0, x1, x2, x3, P => hm_X8_unheardPlaces_4  (hm_X8_unheardPlaces_4L  n) o0 x1 x2 x3 P
def hm_X8_unheardPlaces (P : PS) (a1 : Nat) (a2 : Int32) : Option (Int32 × PS) := lt_ ((0 : Int32)) (fun x2_320 => lt_ ((0 : Int32)) (fun x3_321 => hm_X8_unheardPlaces_4L  4000 a1 a2 x2_320 x3_321 P))
abbrev wu_X8_unheardPlaces : List Cond := .code yX8_unheardPlaces cX8_unheardPlaces 4 (some .int) :: wsL_law
theorem ud_X8_unheardPlaces : yX8_unheardPlaces.cls = RX8 ∧ yX8_unheardPlaces.cls ≠ "java/lang/invoke/MethodHandle" ∧ yX8_unheardPlaces.cls ≠ "java/lang/invoke/VarHandle" ∧ (parseMethodDescriptor yX8_unheardPlaces.desc).map (fun d => d.parameters.length) = some 2 := by decide +kernel
abbrev rmc_X8_unheardPlaces : Room := { frames := 3, cells := 0, slots := 0, locals := 64 }
set_option maxHeartbeats 4000000 in
set_option maxRecDepth 100000 in
theorem hcc_X8_unheardPlaces (l : Launch) (D : va_G) (cs : Nat → ClassId) (t0 : TS) (P0 T : PS) (a1 : Nat) (a2 : Int32) (r0 : Int32) (h : hm_X8_unheardPlaces P0 a1 a2 = some (r0, T)) : MetCI l yX8_unheardPlaces wu_X8_unheardPlaces rmc_X8_unheardPlaces D cs t0 [.ref a1, .int a2] P0 T r0 0 0 := by
  refine co_start (own := RX8) (ty := (some .int)) (cc := cX8_unheardPlaces) (maxL := 4) ⟨by decide, rfl⟩ rfl (Nat.le_of_ble_eq_true rfl) ?_
  intro p e s m args below meth c ls cx hnm hl w
  have hx := cx.1
  have hb := cx.2.1
  have hts := cx.2.2.2.1
  have hown := cx.2.2.2.2.1
  have hml := cx.2.2.2.2.2.2
  have hsub : ∀ w ∈ wsL_law, w ∈ wu_X8_unheardPlaces := fun _ hq => List.mem_cons_of_mem _ hq
  have hl : lv_has ls 4 [(0, .ref a1), (1, .int a2)] := hl
  have J42 : ∀ (k4 : Nat → Int32 → Int32 → Int32 → PS → Option (Int32 × PS)) (hk4 : ∀ (o0 : Nat) (x1 : Int32) (x2 : Int32) (x3 : Int32) (P : PS), k4 o0 x1 x2 x3 P = some (r0, T) → cGo p l e rmc_X8_unheardPlaces s m args below meth c 4 D cs t0 (pA P0) (cQI below D cs P0 args s 0 0 r0 T) 0 0 4 [(0, .ref o0), (1, .int x1), (2, .int x2), (3, .int x3)] [] P) (o0 : Nat) (x1 : Int32) (x2 : Int32) (x3 : Int32) (P : PS), hm_X8_unheardPlaces_42 k4 o0 x1 x2 x3 P = some (r0, T) → cGo p l e rmc_X8_unheardPlaces s m args below meth c 4 D cs t0 (pA P0) (cQI below D cs P0 args s 0 0 r0 T) 0 0 42 [(0, .ref o0), (1, .int x1), (2, .int x2), (3, .int x3)] [] P := by
    intro k4 hk4 o0 x1 x2 x3 P h H locs ls hl w
    unfold hm_X8_unheardPlaces_42 at h
    replace h := lt_e h
    obtain ⟨x3_101, ex3_101, h⟩ := h
    refine lv_iinc (v := x3_101) (lv' := [(3, .int x3_101), (0, .ref o0), (1, .int x1), (2, .int x2)]) hx hb dX8_unheardPlaces_42 hl (k := 3) rfl (by rw [ex3_101]; rfl) (by decide) (rfl) (fun ls hl => ?_)
    refine lv_goto (tgt := 4) hx hb dX8_unheardPlaces_45 (by decide) ?_
    exact hk4 o0 x1 x2 x3_101 P h _ _ _ (lv_sub hl [1, 2, 3, 0] rfl) w
  have L4 : ∀ (n : Nat) (o0 : Nat) (x1 : Int32) (x2 : Int32) (x3 : Int32) (P : PS), hm_X8_unheardPlaces_4L  n o0 x1 x2 x3 P = some (r0, T) → cGo p l e rmc_X8_unheardPlaces s m args below meth c 4 D cs t0 (pA P0) (cQI below D cs P0 args s 0 0 r0 T) 0 0 4 [(0, .ref o0), (1, .int x1), (2, .int x2), (3, .int x3)] [] P := by
    intro n
    induction n with
    | zero =>
      intro o0 x1 x2 x3 P h
      have h : none = some (r0, T) := h
      cases h
    | succ n hk4 =>
      intro o0 x1 x2 x3 P h H locs ls hl w
      have h : hm_X8_unheardPlaces_4  (hm_X8_unheardPlaces_4L  n) o0 x1 x2 x3 P = some (r0, T) := h
      generalize hm_X8_unheardPlaces_4L  n = k4 at h hk4
      unfold hm_X8_unheardPlaces_4 at h
      refine lv_iload_n hx hb dX8_unheardPlaces_4 rfl (lv_at hl 3 rfl) ?_
      refine lv_aload_n hx hb dX8_unheardPlaces_5 rfl (lv_at hl 0 rfl) ?_
      replace h := ck_e h
      obtain ⟨hk_202, h⟩ := h
      replace h := nn_e h
      obtain ⟨b_203, hbb_203, h⟩ := h
      refine cw_getS cx hsub w kT8 hk_202 5 (by decide) hbb_203 ⟨hsub _ uf_RX8_108, Or.inl rfl⟩ dX8_unheardPlaces_6 ?_
      replace h := bd_e h
      obtain ⟨r_205, P_204, hc_206, h⟩ := h
      replace h := ck_e h
      obtain ⟨hk_207, h⟩ := h
      refine cc_i (cr_V (As := []) (rest := [.int x3]) cx (hcc_Jx4a65c_size_8abf5 l D cs t0  P P_204 b_203 r_205 hc_206) kT0 hk_207 (cwV 0 hts (uG uw_Jx4a65c_size_8abf5 ul_RX8_80 ui_Jx4a65c_size_8abf5 us_RJx4a65c_Jx4a65c_size_8abf5 un_RJx4a65c) rfl rfl rfl ud_Jx4a65c_size_8abf5 ⟨Nat.le_of_ble_eq_true rfl, Nat.le_of_ble_eq_true rfl⟩) w rfl hl.1 rfl (Nat.le_of_ble_eq_true rfl) dX8_unheardPlaces_9 ⟨(Nat.le_of_ble_eq_true rfl), (Nat.le_of_ble_eq_true rfl)⟩) (fun H locs w => ?_)
      refine lv_icmp_ge (tgt := 48) hx hb dX8_unheardPlaces_12 (by decide) (fun q => ?_) (fun q => ?_)
      · replace h := br_p q h
        refine lv_iload_n hx hb dX8_unheardPlaces_48 rfl (lv_at hl 2 rfl) ?_
        exact cw_iret cx (rt_e h) w dX8_unheardPlaces_49
      · replace h := br_n q h
        refine lv_iload_n hx hb dX8_unheardPlaces_15 rfl (lv_at hl 1 rfl) ?_
        refine lv_aload_n hx hb dX8_unheardPlaces_16 rfl (lv_at hl 0 rfl) ?_
        replace h := ck_e h
        obtain ⟨hk_208, h⟩ := h
        replace h := nn_e h
        obtain ⟨b_209, hbb_209, h⟩ := h
        refine cw_getS cx hsub w kT8 hk_208 5 (by decide) hbb_209 ⟨hsub _ uf_RX8_108, Or.inl rfl⟩ dX8_unheardPlaces_17 ?_
        refine lv_iload_n hx hb dX8_unheardPlaces_20 rfl (lv_at hl 3 rfl) ?_
        replace h := bd_e h
        obtain ⟨o_211, P_210, hc_212, h⟩ := h
        replace h := ck_e h
        obtain ⟨hk_213, h⟩ := h
        refine cc_q (cr_V (As := [.int x3]) (rest := [.int x1]) cx (hcc_Jx4a65c_get_915e3 l D cs t0  P_204 P_210 b_209 x3 o_211 hc_212) kT0 hk_213 (cwV 1 hts (uG uw_Jx4a65c_get_915e3 ul_RX8_220 ui_Jx4a65c_get_915e3 us_RJx4a65c_Jx4a65c_get_915e3 un_RJx4a65c) rfl rfl rfl ud_Jx4a65c_get_915e3 ⟨Nat.le_of_ble_eq_true rfl, Nat.le_of_ble_eq_true rfl⟩) w rfl hl.1 rfl (Nat.le_of_ble_eq_true rfl) dX8_unheardPlaces_21 ⟨(Nat.le_of_ble_eq_true rfl), (Nat.le_of_ble_eq_true rfl)⟩) (fun H locs w => ?_)
        replace h := nn_e h
        obtain ⟨b_214, hbb_214, h⟩ := h
        subst hbb_214
        have hl : lv_has ls 4 [(0, .ref o0), (1, .int x1), (2, .int x2), (3, .int x3)] := hl
        refine W.eq (g2 := F0 m _ ls [.ref b_214, .int x1]) rfl ?_
        replace h := ck_e h
        obtain ⟨hk_215, h⟩ := h
        refine cw_cast cx w kT8 hk_215 (hsub _ ucl_RX8_84) dX8_unheardPlaces_24 ?_
        refine cw_getI cx hsub w kT8 hk_215 0 (by decide) ⟨hsub _ uf_RX8_127, Or.inl rfl⟩ dX8_unheardPlaces_27 ?_
        replace h := bd_e h
        obtain ⟨r_217, P_216, hc_218, h⟩ := h
        refine cc_i (cr_S (As := [.int x1, .int (pI P_210 b_214 0)]) (rest := []) cx (hcc_X8_has l D cs t0  P_210 P_216 x1 (pI P_210 b_214 0) r_217 hc_218) (va_cwS 2 hts (uGS uw_X8_has ul_RX8_105 ut_X8_has un_RX8) rfl rfl rfl ud_X8_has.2 ⟨Nat.le_of_ble_eq_true rfl, Nat.le_of_ble_eq_true rfl⟩) w rfl hl.1 rfl (Nat.le_of_ble_eq_true rfl) dX8_unheardPlaces_30 ⟨(Nat.le_of_ble_eq_true rfl), (Nat.le_of_ble_eq_true rfl)⟩) (fun H locs w => ?_)
        refine lv_if_ne (tgt := 42) hx hb dX8_unheardPlaces_33 (by decide) (fun q => ?_) (fun q => ?_)
        · replace h := br_n q h
          exact J42 k4 hk4 o0 x1 x2 x3 P_216 h _ _ _ (lv_sub hl [0, 1, 2, 3] rfl) w
        · replace h := br_p q h
          refine lv_iload_n hx hb dX8_unheardPlaces_36 rfl (lv_at hl 2 rfl) ?_
          refine lv_iconst (v := (1 : Int32)) hx hb dX8_unheardPlaces_37 (by decide) ?_
          refine lv_iload_n hx hb dX8_unheardPlaces_38 rfl (lv_at hl 3 rfl) ?_
          refine lv_ishl hx hb dX8_unheardPlaces_39 ?_
          refine lv_ior hx hb dX8_unheardPlaces_40 ?_
          replace h := lt_e h
          obtain ⟨x2_219, ex2_219, h⟩ := h
          refine top_i ex2_219 ?_
          refine lv_istore_n (lv' := [(2, .int x2_219), (0, .ref o0), (1, .int x1), (3, .int x3)]) hx hb dX8_unheardPlaces_41 rfl hl (by decide) (rfl) (fun ls hl => ?_)
          exact J42 k4 hk4 o0 x1 x2_219 x3 P_216 h _ _ _ (lv_sub hl [1, 2, 0, 3] rfl) w
  have hP0 : P0 = P0 := rfl
  unfold hm_X8_unheardPlaces at h
  refine lv_iconst (v := (0 : Int32)) hx hb dX8_unheardPlaces_0 (by decide) ?_
  replace h := lt_e h
  obtain ⟨x2_320, ex2_320, h⟩ := h
  refine top_i ex2_320 ?_
  refine lv_istore_n (lv' := [(2, .int x2_320), (0, .ref a1), (1, .int a2)]) hx hb dX8_unheardPlaces_1 rfl hl (by decide) (rfl) (fun ls hl => ?_)
  refine lv_iconst (v := (0 : Int32)) hx hb dX8_unheardPlaces_2 (by decide) ?_
  replace h := lt_e h
  obtain ⟨x3_321, ex3_321, h⟩ := h
  refine top_i ex3_321 ?_
  refine lv_istore_n (lv' := [(3, .int x3_321), (2, .int x2_320), (0, .ref a1), (1, .int a2)]) hx hb dX8_unheardPlaces_3 rfl hl (by decide) (rfl) (fun ls hl => ?_)
  exact L4  4000 a1 a2 x2_320 x3_321 P0 h _ _ _ (lv_sub hl [2, 3, 1, 0] rfl) w
def hm_X8_cut_29  (P : PS) : Option (Int32 × PS) := some ((-1 : Int32), P)
def hm_X8_cut_85 (x4 : Int32) (o5 : Nat) (sv0 : Int32) (P : PS) : Option (Int32 × PS) := if x4 = (0 : Int32) then (some (sv0, P)) else (bd (hm_X7_factsLeft  P o5 sv0) (fun r_202 P_201 => ck (kk P o5 8) (some (r_202, P_201))))
def hm_X8_cut (P : PS) (th : Nat) (a1 : Int32) (a2 : Int32) (a3 : Int32) (a4 : Int32) : Option (Int32 × PS) := bd (hm_X8_wordAt  P th a1) (fun o_306 P_305 => ck (kk P th 9) (nl o_306 (hm_X8_cut_29   P_305) (fun b_309 => bd (hm_X8_isOffer  P_305 a2 a3) (fun r_311 P_310 => if r_311 = (0 : Int32) then (hm_X8_cut_29   P_310) else (bd (hm_X8_within  P_310 a4 (2 : Int32)) (fun r_314 P_313 => if r_314 = (0 : Int32) then (hm_X8_cut_29   P_313) else (ck (kk P_313 th 9) (nn (pR P_313 th 4) (fun b_317 => bd (hm_X8_keeper  P_313 th b_309 a2 a3 b_317) (fun r_319 P_318 => if r_319 < (0 : Int32) then (ck (kk P_318 b_309 8) (bd (hm_X8_withParts  P_318 th (pI P_318 b_309 6)) (fun r_323 P_322 => ck (kk P_318 th 9) (ck (kk P_322 th 9) (nn (pR P_322 th 4) (fun b_327 => bd (hm_X8_heardToPartsEnd  P_322 th r_323 a3 b_327) (fun r_329 P_328 => if a2 = (1 : Int32) then (hm_X8_cut_85  a4 b_309 (0 : Int32) P_328) else (bd (hm_X8_unheardPlaces  P_328 b_309 r_329) (fun r_332 P_331 => hm_X8_cut_85  a4 b_309 r_332 P_331))))))))) else (some ((-5 : Int32), P_318))))))))))))
abbrev wu_X8_cut : List Cond := .code yX8_cut cX8_cut 8 (some .int) :: wsL_law
theorem ud_X8_cut : yX8_cut.cls = RX8 ∧ yX8_cut.cls ≠ "java/lang/invoke/MethodHandle" ∧ yX8_cut.cls ≠ "java/lang/invoke/VarHandle" ∧ (parseMethodDescriptor yX8_cut.desc).map (fun d => d.parameters.length) = some 4 := by decide +kernel
abbrev rmc_X8_cut : Room := { frames := 7, cells := 0, slots := 0, locals := 162 }
set_option maxHeartbeats 4000000 in
set_option maxRecDepth 100000 in
theorem hcc_X8_cut (l : Launch) (D : va_G) (cs : Nat → ClassId) (t0 : TS) (P0 T : PS) (th : Nat) (a1 : Int32) (a2 : Int32) (a3 : Int32) (a4 : Int32) (r0 : Int32) (h : hm_X8_cut P0 th a1 a2 a3 a4 = some (r0, T)) : MetCI l yX8_cut wu_X8_cut rmc_X8_cut D cs t0 [.ref th, .int a1, .int a2, .int a3, .int a4] P0 T r0 0 0 := by
  refine co_start (own := RX8) (ty := (some .int)) (cc := cX8_cut) (maxL := 8) ⟨by decide, rfl⟩ rfl (Nat.le_of_ble_eq_true rfl) ?_
  intro p e s m args below meth c ls cx hnm hl w
  have hx := cx.1
  have hb := cx.2.1
  have hts := cx.2.2.2.1
  have hown := cx.2.2.2.2.1
  have hml := cx.2.2.2.2.2.2
  have hsub : ∀ w ∈ wsL_law, w ∈ wu_X8_cut := fun _ hq => List.mem_cons_of_mem _ hq
  have hl : lv_has ls 8 [(0, .ref th), (1, .int a1), (2, .int a2), (3, .int a3), (4, .int a4)] := hl
  have J29 : ∀  (P : PS), hm_X8_cut_29   P = some (r0, T) → cGo p l e rmc_X8_cut s m args below meth c 8 D cs t0 (pA P0) (cQI below D cs P0 args s 0 0 r0 T) 0 0 29 [] [] P := by
    intro  P h H locs ls hl w
    unfold hm_X8_cut_29 at h
    refine lv_iconst (v := (-1 : Int32)) hx hb dX8_cut_29 (by decide) ?_
    exact cw_iret cx (rt_e h) w dX8_cut_30
  have J85 : ∀ (x4 : Int32) (o5 : Nat) (sv0 : Int32) (P : PS), hm_X8_cut_85  x4 o5 sv0 P = some (r0, T) → cGo p l e rmc_X8_cut s m args below meth c 8 D cs t0 (pA P0) (cQI below D cs P0 args s 0 0 r0 T) 0 0 85 [(4, .int x4), (5, .ref o5)] [.int sv0] P := by
    intro x4 o5 sv0 P h H locs ls hl w
    unfold hm_X8_cut_85 at h
    refine lv_istore (lv' := [(7, .int sv0), (4, .int x4), (5, .ref o5)]) hx hb dX8_cut_85 hl (by decide) (rfl) (fun ls hl => ?_)
    refine lv_iload hx hb dX8_cut_87 (lv_at hl 1 rfl) ?_
    refine lv_if_ne (tgt := 97) hx hb dX8_cut_89 (by decide) (fun q => ?_) (fun q => ?_)
    · replace h := br_n q h
      refine lv_aload hx hb dX8_cut_97 (lv_at hl 2 rfl) ?_
      refine lv_iload hx hb dX8_cut_99 (lv_at hl 0 rfl) ?_
      replace h := bd_e h
      obtain ⟨r_202, P_201, hc_203, h⟩ := h
      replace h := ck_e h
      obtain ⟨hk_204, h⟩ := h
      refine cc_i (cr_V (As := [.int sv0]) (rest := []) cx (hcc_X7_factsLeft l D cs t0  P P_201 o5 sv0 r_202 hc_203) kT8 hk_204 (cwV 1 hts (uG uw_X7_factsLeft ul_RX8_204 ui_X7_factsLeft us_RX7_X7_factsLeft un_RX7) rfl rfl rfl ud_X7_factsLeft ⟨Nat.le_of_ble_eq_true rfl, Nat.le_of_ble_eq_true rfl⟩) w rfl hl.1 rfl (Nat.le_of_ble_eq_true rfl) dX8_cut_101 ⟨(Nat.le_of_ble_eq_true rfl), (Nat.le_of_ble_eq_true rfl)⟩) (fun H locs w => ?_)
      exact cw_iret cx (rt_e h) w dX8_cut_104
    · replace h := br_p q h
      refine lv_iload hx hb dX8_cut_92 (lv_at hl 0 rfl) ?_
      refine lv_goto (tgt := 104) hx hb dX8_cut_94 (by decide) ?_
      exact cw_iret cx (rt_e h) w dX8_cut_104
  have hP0 : P0 = P0 := rfl
  unfold hm_X8_cut at h
  refine lv_aload_n hx hb dX8_cut_0 rfl (lv_at hl 0 rfl) ?_
  refine lv_iload_n hx hb dX8_cut_1 rfl (lv_at hl 1 rfl) ?_
  replace h := bd_e h
  obtain ⟨o_306, P_305, hc_307, h⟩ := h
  replace h := ck_e h
  obtain ⟨hk_308, h⟩ := h
  refine cc_q (cr_V (As := [.int a1]) (rest := []) cx (hcc_X8_wordAt l D cs t0  P0 P_305 th a1 o_306 hc_307) kT9 hk_308 (cwV 1 hts (uG uw_X8_wordAt ul_RX8_95 ui_X8_wordAt us_RX8_X8_wordAt un_RX8) rfl rfl rfl ud_X8_wordAt ⟨Nat.le_of_ble_eq_true rfl, Nat.le_of_ble_eq_true rfl⟩) w rfl hl.1 rfl (Nat.le_of_ble_eq_true rfl) dX8_cut_2 ⟨(Nat.le_of_ble_eq_true rfl), (Nat.le_of_ble_eq_true rfl)⟩) (fun H locs w => ?_)
  refine lq_astore (lv' := [(5, va_rf o_306), (0, .ref th), (1, .int a1), (2, .int a2), (3, .int a3), (4, .int a4)]) hx hb dX8_cut_5 hl (by decide) (fun v hv => by subst hv; exact (rfl)) (fun ls hl => ?_)
  refine lq_aload hx hb dX8_cut_7 (lv_at hl 0 rfl) ?_
  cases o_306 with
  | none =>
    replace h := nl_n h
    have hl : lv_has ls 8 [(5, .null), (0, .ref th), (1, .int a1), (2, .int a2), (3, .int a3), (4, .int a4)] := hl
    refine lv_ifnullN (tgt := 29) hx hb dX8_cut_9 (by decide) ?_
    exact J29   P_305 h _ _ _ (lv_sub hl [] rfl) w
  | some b_309 =>
    replace h := nl_s h
    have hl : lv_has ls 8 [(5, .ref b_309), (0, .ref th), (1, .int a1), (2, .int a2), (3, .int a3), (4, .int a4)] := hl
    refine lv_ifnull hx hb dX8_cut_9 ?_
    refine lv_iload_n hx hb dX8_cut_12 rfl (lv_at hl 3 rfl) ?_
    refine lv_iload_n hx hb dX8_cut_13 rfl (lv_at hl 4 rfl) ?_
    replace h := bd_e h
    obtain ⟨r_311, P_310, hc_312, h⟩ := h
    refine cc_i (cr_S (As := [.int a2, .int a3]) (rest := []) cx (hcc_X8_isOffer l D cs t0  P_305 P_310 a2 a3 r_311 hc_312) (va_cwS 2 hts (uGS uw_X8_isOffer ul_RX8_166 ut_X8_isOffer un_RX8) rfl rfl rfl ud_X8_isOffer.2 ⟨Nat.le_of_ble_eq_true rfl, Nat.le_of_ble_eq_true rfl⟩) w rfl hl.1 rfl (Nat.le_of_ble_eq_true rfl) dX8_cut_14 ⟨(Nat.le_of_ble_eq_true rfl), (Nat.le_of_ble_eq_true rfl)⟩) (fun H locs w => ?_)
    refine lv_if_eq (tgt := 29) hx hb dX8_cut_17 (by decide) (fun q => ?_) (fun q => ?_)
    · replace h := br_p q h
      exact J29   P_310 h _ _ _ (lv_sub hl [] rfl) w
    · replace h := br_n q h
      refine lv_iload hx hb dX8_cut_20 (lv_at hl 5 rfl) ?_
      refine lv_iconst (v := (2 : Int32)) hx hb dX8_cut_22 (by decide) ?_
      replace h := bd_e h
      obtain ⟨r_314, P_313, hc_315, h⟩ := h
      refine cc_i (cr_S (As := [.int a4, .int (2 : Int32)]) (rest := []) cx (hcc_X8_within l D cs t0  P_310 P_313 a4 (2 : Int32) r_314 hc_315) (va_cwS 2 hts (uGS uw_X8_within ul_RX8_72 ut_X8_within un_RX8) rfl rfl rfl ud_X8_within.2 ⟨Nat.le_of_ble_eq_true rfl, Nat.le_of_ble_eq_true rfl⟩) w rfl hl.1 rfl (Nat.le_of_ble_eq_true rfl) dX8_cut_23 ⟨(Nat.le_of_ble_eq_true rfl), (Nat.le_of_ble_eq_true rfl)⟩) (fun H locs w => ?_)
      refine lv_if_ne (tgt := 31) hx hb dX8_cut_26 (by decide) (fun q => ?_) (fun q => ?_)
      · replace h := br_n q h
        refine lv_aload_n hx hb dX8_cut_31 rfl (lv_at hl 1 rfl) ?_
        refine lv_aload hx hb dX8_cut_32 (lv_at hl 0 rfl) ?_
        refine lv_iload_n hx hb dX8_cut_34 rfl (lv_at hl 3 rfl) ?_
        refine lv_iload_n hx hb dX8_cut_35 rfl (lv_at hl 4 rfl) ?_
        refine lv_aload_n hx hb dX8_cut_36 rfl (lv_at hl 1 rfl) ?_
        replace h := ck_e h
        obtain ⟨hk_316, h⟩ := h
        replace h := nn_e h
        obtain ⟨b_317, hbb_317, h⟩ := h
        refine cw_getS cx hsub w kT9 hk_316 4 (by decide) hbb_317 ⟨hsub _ uf_RX8_37, Or.inl rfl⟩ dX8_cut_37 ?_
        replace h := bd_e h
        obtain ⟨r_319, P_318, hc_320, h⟩ := h
        refine cc_i (cr_V (As := [.ref b_309, .int a2, .int a3, .ref b_317]) (rest := []) cx (hcc_X8_keeper l D cs t0  P_313 P_318 th b_309 a2 a3 b_317 r_319 hc_320) kT9 hk_316 (cwV 4 hts (uG uw_X8_keeper ul_RX8_173 ui_X8_keeper us_RX8_X8_keeper un_RX8) rfl rfl rfl ud_X8_keeper ⟨Nat.le_of_ble_eq_true rfl, Nat.le_of_ble_eq_true rfl⟩) w rfl hl.1 rfl (Nat.le_of_ble_eq_true rfl) dX8_cut_40 ⟨(Nat.le_of_ble_eq_true rfl), (Nat.le_of_ble_eq_true rfl)⟩) (fun H locs w => ?_)
        refine lv_if_lt (tgt := 49) hx hb dX8_cut_43 (by decide) (fun q => ?_) (fun q => ?_)
        · replace h := br_p q h
          refine lv_aload_n hx hb dX8_cut_49 rfl (lv_at hl 1 rfl) ?_
          refine lv_aload_n hx hb dX8_cut_50 rfl (lv_at hl 1 rfl) ?_
          refine lv_aload hx hb dX8_cut_51 (lv_at hl 0 rfl) ?_
          replace h := ck_e h
          obtain ⟨hk_321, h⟩ := h
          refine cw_getI cx hsub w kT8 hk_321 6 (by decide) ⟨hsub _ uf_RX8_102, Or.inl rfl⟩ dX8_cut_53 ?_
          replace h := bd_e h
          obtain ⟨r_323, P_322, hc_324, h⟩ := h
          replace h := ck_e h
          obtain ⟨hk_325, h⟩ := h
          refine cc_i (cr_V (As := [.int (pI P_318 b_309 6)]) (rest := [.ref th]) cx (hcc_X8_withParts l D cs t0  P_318 P_322 th (pI P_318 b_309 6) r_323 hc_324) kT9 hk_325 (cwV 1 hts (uG uw_X8_withParts ul_RX8_177 ui_X8_withParts us_RX8_X8_withParts un_RX8) rfl rfl rfl ud_X8_withParts ⟨Nat.le_of_ble_eq_true rfl, Nat.le_of_ble_eq_true rfl⟩) w rfl hl.1 rfl (Nat.le_of_ble_eq_true rfl) dX8_cut_56 ⟨(Nat.le_of_ble_eq_true rfl), (Nat.le_of_ble_eq_true rfl)⟩) (fun H locs w => ?_)
          refine lv_iload_n hx hb dX8_cut_59 rfl (lv_at hl 4 rfl) ?_
          refine lv_aload_n hx hb dX8_cut_60 rfl (lv_at hl 1 rfl) ?_
          replace h := ck_e h
          obtain ⟨hk_326, h⟩ := h
          replace h := nn_e h
          obtain ⟨b_327, hbb_327, h⟩ := h
          refine cw_getS cx hsub w kT9 hk_326 4 (by decide) hbb_327 ⟨hsub _ uf_RX8_37, Or.inl rfl⟩ dX8_cut_61 ?_
          replace h := bd_e h
          obtain ⟨r_329, P_328, hc_330, h⟩ := h
          refine cc_i (cr_V (As := [.int r_323, .int a3, .ref b_327]) (rest := []) cx (hcc_X8_heardToPartsEnd l D cs t0  P_322 P_328 th r_323 a3 b_327 r_329 hc_330) kT9 hk_326 (cwV 3 hts (uG uw_X8_heardToPartsEnd ul_RX8_180 ui_X8_heardToPartsEnd us_RX8_X8_heardToPartsEnd un_RX8) rfl rfl rfl ud_X8_heardToPartsEnd ⟨Nat.le_of_ble_eq_true rfl, Nat.le_of_ble_eq_true rfl⟩) w rfl hl.1 rfl (Nat.le_of_ble_eq_true rfl) dX8_cut_64 ⟨(Nat.le_of_ble_eq_true rfl), (Nat.le_of_ble_eq_true rfl)⟩) (fun H locs w => ?_)
          refine lv_istore (lv' := [(6, .int r_329), (5, .ref b_309), (0, .ref th), (1, .int a1), (2, .int a2), (3, .int a3), (4, .int a4)]) hx hb dX8_cut_67 hl (by decide) (rfl) (fun ls hl => ?_)
          refine lv_iload_n hx hb dX8_cut_69 rfl (lv_at hl 4 rfl) ?_
          refine lv_iconst (v := (1 : Int32)) hx hb dX8_cut_70 (by decide) ?_
          refine lv_icmp_ne (tgt := 78) hx hb dX8_cut_71 (by decide) (fun q => ?_) (fun q => ?_)
          · replace h := br_n q h
            refine lv_aload hx hb dX8_cut_78 (lv_at hl 1 rfl) ?_
            refine lv_iload hx hb dX8_cut_80 (lv_at hl 0 rfl) ?_
            replace h := bd_e h
            obtain ⟨r_332, P_331, hc_333, h⟩ := h
            refine cc_i (cr_S (As := [.ref b_309, .int r_329]) (rest := []) cx (hcc_X8_unheardPlaces l D cs t0  P_328 P_331 b_309 r_329 r_332 hc_333) (va_cwS 2 hts (uGS uw_X8_unheardPlaces ul_RX8_200 ut_X8_unheardPlaces un_RX8) rfl rfl rfl ud_X8_unheardPlaces.2 ⟨Nat.le_of_ble_eq_true rfl, Nat.le_of_ble_eq_true rfl⟩) w rfl hl.1 rfl (Nat.le_of_ble_eq_true rfl) dX8_cut_82 ⟨(Nat.le_of_ble_eq_true rfl), (Nat.le_of_ble_eq_true rfl)⟩) (fun H locs w => ?_)
            exact J85  a4 b_309 r_332 P_331 h _ _ _ (lv_sub hl [6, 1] rfl) w
          · replace h := br_p q h
            refine lv_iconst (v := (0 : Int32)) hx hb dX8_cut_74 (by decide) ?_
            refine lv_goto (tgt := 85) hx hb dX8_cut_75 (by decide) ?_
            exact J85  a4 b_309 (0 : Int32) P_328 h _ _ _ (lv_sub hl [6, 1] rfl) w
        · replace h := br_n q h
          refine lv_bipush (v := (-5 : Int32)) hx hb dX8_cut_46 (by decide) ?_
          exact cw_iret cx (rt_e h) w dX8_cut_48
      · replace h := br_p q h
        exact J29   P_313 h _ _ _ (lv_sub hl [] rfl) w
def hm_X8_allWords (P : PS) (th : Nat) : Option (Int32 × PS) := ck (kk P th 9) (nn (pR P th 1) (fun b_102 => bd (hm_Jx4a65c_size_8abf5  P b_102) (fun r_104 P_103 => ck (kk P b_102 0) (some ((((1 : Int32) <<< (r_104 &&& 31)) - (1 : Int32)), P_103)))))
abbrev wu_X8_allWords : List Cond := .code yX8_allWords cX8_allWords 1 (some .int) :: wsL_law
theorem ud_X8_allWords : yX8_allWords.cls = RX8 ∧ yX8_allWords.cls ≠ "java/lang/invoke/MethodHandle" ∧ yX8_allWords.cls ≠ "java/lang/invoke/VarHandle" ∧ (parseMethodDescriptor yX8_allWords.desc).map (fun d => d.parameters.length) = some 0 := by decide +kernel
abbrev rmc_X8_allWords : Room := { frames := 1, cells := 0, slots := 0, locals := 20 }
set_option maxHeartbeats 4000000 in
set_option maxRecDepth 100000 in
theorem hcc_X8_allWords (l : Launch) (D : va_G) (cs : Nat → ClassId) (t0 : TS) (P0 T : PS) (th : Nat) (r0 : Int32) (h : hm_X8_allWords P0 th = some (r0, T)) : MetCI l yX8_allWords wu_X8_allWords rmc_X8_allWords D cs t0 [.ref th] P0 T r0 0 0 := by
  refine co_start (own := RX8) (ty := (some .int)) (cc := cX8_allWords) (maxL := 1) ⟨by decide, rfl⟩ rfl (Nat.le_of_ble_eq_true rfl) ?_
  intro p e s m args below meth c ls cx hnm hl w
  have hx := cx.1
  have hb := cx.2.1
  have hts := cx.2.2.2.1
  have hown := cx.2.2.2.2.1
  have hml := cx.2.2.2.2.2.2
  have hsub : ∀ w ∈ wsL_law, w ∈ wu_X8_allWords := fun _ hq => List.mem_cons_of_mem _ hq
  have hl : lv_has ls 1 [(0, .ref th)] := hl
  have hP0 : P0 = P0 := rfl
  unfold hm_X8_allWords at h
  refine lv_iconst (v := (1 : Int32)) hx hb dX8_allWords_0 (by decide) ?_
  refine lv_aload_n hx hb dX8_allWords_1 rfl (lv_at hl 0 rfl) ?_
  replace h := ck_e h
  obtain ⟨hk_101, h⟩ := h
  replace h := nn_e h
  obtain ⟨b_102, hbb_102, h⟩ := h
  refine cw_getS cx hsub w kT9 hk_101 1 (by decide) hbb_102 ⟨hsub _ uf_RX8_20, Or.inl rfl⟩ dX8_allWords_2 ?_
  replace h := bd_e h
  obtain ⟨r_104, P_103, hc_105, h⟩ := h
  replace h := ck_e h
  obtain ⟨hk_106, h⟩ := h
  refine cc_i (cr_V (As := []) (rest := [.int (1 : Int32)]) cx (hcc_Jx4a65c_size_8abf5 l D cs t0  P0 P_103 b_102 r_104 hc_105) kT0 hk_106 (cwV 0 hts (uG uw_Jx4a65c_size_8abf5 ul_RX8_80 ui_Jx4a65c_size_8abf5 us_RJx4a65c_Jx4a65c_size_8abf5 un_RJx4a65c) rfl rfl rfl ud_Jx4a65c_size_8abf5 ⟨Nat.le_of_ble_eq_true rfl, Nat.le_of_ble_eq_true rfl⟩) w rfl hl.1 rfl (Nat.le_of_ble_eq_true rfl) dX8_allWords_5 ⟨(Nat.le_of_ble_eq_true rfl), (Nat.le_of_ble_eq_true rfl)⟩) (fun H locs w => ?_)
  refine lv_ishl hx hb dX8_allWords_8 ?_
  refine lv_iconst (v := (1 : Int32)) hx hb dX8_allWords_9 (by decide) ?_
  refine lv_isub hx hb dX8_allWords_10 ?_
  exact cw_iret cx (rt_e h) w dX8_allWords_11
def hm_X8_opened_18  (P : PS) : Option (Int32 × PS) := some ((-1 : Int32), P)
def hm_X8_opened (P : PS) (th : Nat) (a1 : Int32) (a2 : Int32) : Option (Int32 × PS) := bd (hm_X8_wordAt  P th a1) (fun o_202 P_201 => ck (kk P th 9) (nl o_202 (hm_X8_opened_18   P_201) (fun b_205 => bd (hm_X8_within  P_201 a2 (2 : Int32)) (fun r_207 P_206 => if r_207 = (0 : Int32) then (hm_X8_opened_18   P_206) else (bd (hm_X8_allWords  P_206 th) (fun r_210 P_209 => ck (kk P_206 th 9) (ck (kk P_209 th 9) (nn (pR P_209 th 4) (fun b_214 => bd (hm_X8_heardToPartsEnd  P_209 th r_210 a2 b_214) (fun r_216 P_215 => bd (hm_X8_has  P_215 r_216 a1) (fun r_219 P_218 => if r_219 = (0 : Int32) then (some ((-3 : Int32), P_218)) else (ck (kk P_218 th 9) (nn (pR P_218 th 4) (fun b_222 => ck (kk P_218 b_222 6) (ck (kk P_218 b_205 8) (nn (pR P_218 th 4) (fun b_225 => ck (kk P_218 b_225 6) (bd (hm_X8_suppose  P_218 th ((pI P_218 b_222 0) ||| (pI P_218 b_205 4)) (pI P_218 b_225 1) ((1 : Int32) <<< (a1 &&& 31))) (fun o_228 P_227 => bd (hm_X8_allWords  P_227 th) (fun r_231 P_230 => ck (kk P_227 th 9) (nn o_228 (fun b_234 => bd (hm_X8_heardToPartsEnd  P_230 th r_231 a2 b_234) (fun r_236 P_235 => ck (kk P_230 th 9) (some ((r_236 &&& (r_216 ^^^ (-1 : Int32))), P_235)))))))))))))))))))))))))
abbrev wu_X8_opened : List Cond := .code yX8_opened cX8_opened 6 (some .int) :: wsL_law
theorem ud_X8_opened : yX8_opened.cls = RX8 ∧ yX8_opened.cls ≠ "java/lang/invoke/MethodHandle" ∧ yX8_opened.cls ≠ "java/lang/invoke/VarHandle" ∧ (parseMethodDescriptor yX8_opened.desc).map (fun d => d.parameters.length) = some 2 := by decide +kernel
abbrev rmc_X8_opened : Room := { frames := 7, cells := 0, slots := 0, locals := 162 }
set_option maxHeartbeats 4000000 in
set_option maxRecDepth 100000 in
theorem hcc_X8_opened (l : Launch) (D : va_G) (cs : Nat → ClassId) (t0 : TS) (P0 T : PS) (th : Nat) (a1 : Int32) (a2 : Int32) (r0 : Int32) (h : hm_X8_opened P0 th a1 a2 = some (r0, T)) : MetCI l yX8_opened wu_X8_opened rmc_X8_opened D cs t0 [.ref th, .int a1, .int a2] P0 T r0 0 0 := by
  refine co_start (own := RX8) (ty := (some .int)) (cc := cX8_opened) (maxL := 6) ⟨by decide, rfl⟩ rfl (Nat.le_of_ble_eq_true rfl) ?_
  intro p e s m args below meth c ls cx hnm hl w
  have hx := cx.1
  have hb := cx.2.1
  have hts := cx.2.2.2.1
  have hown := cx.2.2.2.2.1
  have hml := cx.2.2.2.2.2.2
  have hsub : ∀ w ∈ wsL_law, w ∈ wu_X8_opened := fun _ hq => List.mem_cons_of_mem _ hq
  have hl : lv_has ls 6 [(0, .ref th), (1, .int a1), (2, .int a2)] := hl
  have J18 : ∀  (P : PS), hm_X8_opened_18   P = some (r0, T) → cGo p l e rmc_X8_opened s m args below meth c 6 D cs t0 (pA P0) (cQI below D cs P0 args s 0 0 r0 T) 0 0 18 [] [] P := by
    intro  P h H locs ls hl w
    unfold hm_X8_opened_18 at h
    refine lv_iconst (v := (-1 : Int32)) hx hb dX8_opened_18 (by decide) ?_
    exact cw_iret cx (rt_e h) w dX8_opened_19
  have hP0 : P0 = P0 := rfl
  unfold hm_X8_opened at h
  refine lv_aload_n hx hb dX8_opened_0 rfl (lv_at hl 0 rfl) ?_
  refine lv_iload_n hx hb dX8_opened_1 rfl (lv_at hl 1 rfl) ?_
  replace h := bd_e h
  obtain ⟨o_202, P_201, hc_203, h⟩ := h
  replace h := ck_e h
  obtain ⟨hk_204, h⟩ := h
  refine cc_q (cr_V (As := [.int a1]) (rest := []) cx (hcc_X8_wordAt l D cs t0  P0 P_201 th a1 o_202 hc_203) kT9 hk_204 (cwV 1 hts (uG uw_X8_wordAt ul_RX8_95 ui_X8_wordAt us_RX8_X8_wordAt un_RX8) rfl rfl rfl ud_X8_wordAt ⟨Nat.le_of_ble_eq_true rfl, Nat.le_of_ble_eq_true rfl⟩) w rfl hl.1 rfl (Nat.le_of_ble_eq_true rfl) dX8_opened_2 ⟨(Nat.le_of_ble_eq_true rfl), (Nat.le_of_ble_eq_true rfl)⟩) (fun H locs w => ?_)
  refine lq_astore_n (lv' := [(3, va_rf o_202), (0, .ref th), (1, .int a1), (2, .int a2)]) hx hb dX8_opened_5 rfl hl (by decide) (fun v hv => by subst hv; exact (rfl)) (fun ls hl => ?_)
  refine lq_aload_n hx hb dX8_opened_6 rfl (lv_at hl 0 rfl) ?_
  cases o_202 with
  | none =>
    replace h := nl_n h
    have hl : lv_has ls 6 [(3, .null), (0, .ref th), (1, .int a1), (2, .int a2)] := hl
    refine lv_ifnullN (tgt := 18) hx hb dX8_opened_7 (by decide) ?_
    exact J18   P_201 h _ _ _ (lv_sub hl [] rfl) w
  | some b_205 =>
    replace h := nl_s h
    have hl : lv_has ls 6 [(3, .ref b_205), (0, .ref th), (1, .int a1), (2, .int a2)] := hl
    refine lv_ifnull hx hb dX8_opened_7 ?_
    refine lv_iload_n hx hb dX8_opened_10 rfl (lv_at hl 3 rfl) ?_
    refine lv_iconst (v := (2 : Int32)) hx hb dX8_opened_11 (by decide) ?_
    replace h := bd_e h
    obtain ⟨r_207, P_206, hc_208, h⟩ := h
    refine cc_i (cr_S (As := [.int a2, .int (2 : Int32)]) (rest := []) cx (hcc_X8_within l D cs t0  P_201 P_206 a2 (2 : Int32) r_207 hc_208) (va_cwS 2 hts (uGS uw_X8_within ul_RX8_72 ut_X8_within un_RX8) rfl rfl rfl ud_X8_within.2 ⟨Nat.le_of_ble_eq_true rfl, Nat.le_of_ble_eq_true rfl⟩) w rfl hl.1 rfl (Nat.le_of_ble_eq_true rfl) dX8_opened_12 ⟨(Nat.le_of_ble_eq_true rfl), (Nat.le_of_ble_eq_true rfl)⟩) (fun H locs w => ?_)
    refine lv_if_ne (tgt := 20) hx hb dX8_opened_15 (by decide) (fun q => ?_) (fun q => ?_)
    · replace h := br_n q h
      refine lv_aload_n hx hb dX8_opened_20 rfl (lv_at hl 1 rfl) ?_
      refine lv_aload_n hx hb dX8_opened_21 rfl (lv_at hl 1 rfl) ?_
      replace h := bd_e h
      obtain ⟨r_210, P_209, hc_211, h⟩ := h
      replace h := ck_e h
      obtain ⟨hk_212, h⟩ := h
      refine cc_i (cr_V (As := []) (rest := [.ref th]) cx (hcc_X8_allWords l D cs t0  P_206 P_209 th r_210 hc_211) kT9 hk_212 (cwV 0 hts (uG uw_X8_allWords ul_RX8_207 ui_X8_allWords us_RX8_X8_allWords un_RX8) rfl rfl rfl ud_X8_allWords ⟨Nat.le_of_ble_eq_true rfl, Nat.le_of_ble_eq_true rfl⟩) w rfl hl.1 rfl (Nat.le_of_ble_eq_true rfl) dX8_opened_22 ⟨(Nat.le_of_ble_eq_true rfl), (Nat.le_of_ble_eq_true rfl)⟩) (fun H locs w => ?_)
      refine lv_iload_n hx hb dX8_opened_25 rfl (lv_at hl 3 rfl) ?_
      refine lv_aload_n hx hb dX8_opened_26 rfl (lv_at hl 1 rfl) ?_
      replace h := ck_e h
      obtain ⟨hk_213, h⟩ := h
      replace h := nn_e h
      obtain ⟨b_214, hbb_214, h⟩ := h
      refine cw_getS cx hsub w kT9 hk_213 4 (by decide) hbb_214 ⟨hsub _ uf_RX8_37, Or.inl rfl⟩ dX8_opened_27 ?_
      replace h := bd_e h
      obtain ⟨r_216, P_215, hc_217, h⟩ := h
      refine cc_i (cr_V (As := [.int r_210, .int a2, .ref b_214]) (rest := []) cx (hcc_X8_heardToPartsEnd l D cs t0  P_209 P_215 th r_210 a2 b_214 r_216 hc_217) kT9 hk_213 (cwV 3 hts (uG uw_X8_heardToPartsEnd ul_RX8_180 ui_X8_heardToPartsEnd us_RX8_X8_heardToPartsEnd un_RX8) rfl rfl rfl ud_X8_heardToPartsEnd ⟨Nat.le_of_ble_eq_true rfl, Nat.le_of_ble_eq_true rfl⟩) w rfl hl.1 rfl (Nat.le_of_ble_eq_true rfl) dX8_opened_30 ⟨(Nat.le_of_ble_eq_true rfl), (Nat.le_of_ble_eq_true rfl)⟩) (fun H locs w => ?_)
      refine lv_istore (lv' := [(4, .int r_216), (3, .ref b_205), (0, .ref th), (1, .int a1), (2, .int a2)]) hx hb dX8_opened_33 hl (by decide) (rfl) (fun ls hl => ?_)
      refine lv_iload hx hb dX8_opened_35 (lv_at hl 0 rfl) ?_
      refine lv_iload_n hx hb dX8_opened_37 rfl (lv_at hl 3 rfl) ?_
      replace h := bd_e h
      obtain ⟨r_219, P_218, hc_220, h⟩ := h
      refine cc_i (cr_S (As := [.int r_216, .int a1]) (rest := []) cx (hcc_X8_has l D cs t0  P_215 P_218 r_216 a1 r_219 hc_220) (va_cwS 2 hts (uGS uw_X8_has ul_RX8_105 ut_X8_has un_RX8) rfl rfl rfl ud_X8_has.2 ⟨Nat.le_of_ble_eq_true rfl, Nat.le_of_ble_eq_true rfl⟩) w rfl hl.1 rfl (Nat.le_of_ble_eq_true rfl) dX8_opened_38 ⟨(Nat.le_of_ble_eq_true rfl), (Nat.le_of_ble_eq_true rfl)⟩) (fun H locs w => ?_)
      refine lv_if_ne (tgt := 47) hx hb dX8_opened_41 (by decide) (fun q => ?_) (fun q => ?_)
      · replace h := br_n q h
        refine lv_aload_n hx hb dX8_opened_47 rfl (lv_at hl 2 rfl) ?_
        refine lv_aload_n hx hb dX8_opened_48 rfl (lv_at hl 2 rfl) ?_
        replace h := ck_e h
        obtain ⟨hk_221, h⟩ := h
        replace h := nn_e h
        obtain ⟨b_222, hbb_222, h⟩ := h
        refine cw_getS cx hsub w kT9 hk_221 4 (by decide) hbb_222 ⟨hsub _ uf_RX8_37, Or.inl rfl⟩ dX8_opened_49 ?_
        replace h := ck_e h
        obtain ⟨hk_223, h⟩ := h
        refine cw_getI cx hsub w kT6 hk_223 0 (by decide) ⟨hsub _ uf_RX8_128, Or.inl rfl⟩ dX8_opened_52 ?_
        refine lv_aload_n hx hb dX8_opened_55 rfl (lv_at hl 1 rfl) ?_
        replace h := ck_e h
        obtain ⟨hk_224, h⟩ := h
        refine cw_getI cx hsub w kT8 hk_224 4 (by decide) ⟨hsub _ uf_RX8_121, Or.inl rfl⟩ dX8_opened_56 ?_
        refine lv_ior hx hb dX8_opened_59 ?_
        refine lv_aload_n hx hb dX8_opened_60 rfl (lv_at hl 2 rfl) ?_
        replace h := nn_e h
        obtain ⟨b_225, hbb_225, h⟩ := h
        refine cw_getS cx hsub w kT9 hk_221 4 (by decide) hbb_225 ⟨hsub _ uf_RX8_37, Or.inl rfl⟩ dX8_opened_61 ?_
        replace h := ck_e h
        obtain ⟨hk_226, h⟩ := h
        refine cw_getI cx hsub w kT6 hk_226 1 (by decide) ⟨hsub _ uf_RX8_145, Or.inl rfl⟩ dX8_opened_64 ?_
        refine lv_iconst (v := (1 : Int32)) hx hb dX8_opened_67 (by decide) ?_
        refine lv_iload_n hx hb dX8_opened_68 rfl (lv_at hl 3 rfl) ?_
        refine lv_ishl hx hb dX8_opened_69 ?_
        replace h := bd_e h
        obtain ⟨o_228, P_227, hc_229, h⟩ := h
        refine cc_q (cr_V (As := [.int ((pI P_218 b_222 0) ||| (pI P_218 b_205 4)), .int (pI P_218 b_225 1), .int ((1 : Int32) <<< (a1 &&& 31))]) (rest := []) cx (hcc_X8_suppose l D cs t0  P_218 P_227 th ((pI P_218 b_222 0) ||| (pI P_218 b_205 4)) (pI P_218 b_225 1) ((1 : Int32) <<< (a1 &&& 31)) o_228 hc_229) kT9 hk_221 (cwV 3 hts (uG uw_X8_suppose ul_RX8_196 ui_X8_suppose us_RX8_X8_suppose un_RX8) rfl rfl rfl ud_X8_suppose ⟨Nat.le_of_ble_eq_true rfl, Nat.le_of_ble_eq_true rfl⟩) w rfl hl.1 rfl (Nat.le_of_ble_eq_true rfl) dX8_opened_70 ⟨(Nat.le_of_ble_eq_true rfl), (Nat.le_of_ble_eq_true rfl)⟩) (fun H locs w => ?_)
        refine lq_astore (lv' := [(5, va_rf o_228), (4, .int r_216), (3, .ref b_205), (0, .ref th), (1, .int a1), (2, .int a2)]) hx hb dX8_opened_73 hl (by decide) (fun v hv => by subst hv; exact (rfl)) (fun ls hl => ?_)
        refine lv_aload_n hx hb dX8_opened_75 rfl (lv_at hl 3 rfl) ?_
        refine lv_aload_n hx hb dX8_opened_76 rfl (lv_at hl 3 rfl) ?_
        replace h := bd_e h
        obtain ⟨r_231, P_230, hc_232, h⟩ := h
        replace h := ck_e h
        obtain ⟨hk_233, h⟩ := h
        refine cc_i (cr_V (As := []) (rest := [.ref th]) cx (hcc_X8_allWords l D cs t0  P_227 P_230 th r_231 hc_232) kT9 hk_233 (cwV 0 hts (uG uw_X8_allWords ul_RX8_207 ui_X8_allWords us_RX8_X8_allWords un_RX8) rfl rfl rfl ud_X8_allWords ⟨Nat.le_of_ble_eq_true rfl, Nat.le_of_ble_eq_true rfl⟩) w rfl hl.1 rfl (Nat.le_of_ble_eq_true rfl) dX8_opened_77 ⟨(Nat.le_of_ble_eq_true rfl), (Nat.le_of_ble_eq_true rfl)⟩) (fun H locs w => ?_)
        refine lv_iload_n hx hb dX8_opened_80 rfl (lv_at hl 5 rfl) ?_
        refine lq_aload hx hb dX8_opened_81 (lv_at hl 0 rfl) ?_
        replace h := nn_e h
        obtain ⟨b_234, hbb_234, h⟩ := h
        subst hbb_234
        have hl : lv_has ls 6 [(5, .ref b_234), (4, .int r_216), (3, .ref b_205), (0, .ref th), (1, .int a1), (2, .int a2)] := hl
        refine W.eq (g2 := F0 m _ ls [.ref b_234, .int a2, .int r_231, .ref th]) rfl ?_
        replace h := bd_e h
        obtain ⟨r_236, P_235, hc_237, h⟩ := h
        replace h := ck_e h
        obtain ⟨hk_238, h⟩ := h
        refine cc_i (cr_V (As := [.int r_231, .int a2, .ref b_234]) (rest := []) cx (hcc_X8_heardToPartsEnd l D cs t0  P_230 P_235 th r_231 a2 b_234 r_236 hc_237) kT9 hk_238 (cwV 3 hts (uG uw_X8_heardToPartsEnd ul_RX8_180 ui_X8_heardToPartsEnd us_RX8_X8_heardToPartsEnd un_RX8) rfl rfl rfl ud_X8_heardToPartsEnd ⟨Nat.le_of_ble_eq_true rfl, Nat.le_of_ble_eq_true rfl⟩) w rfl hl.1 rfl (Nat.le_of_ble_eq_true rfl) dX8_opened_83 ⟨(Nat.le_of_ble_eq_true rfl), (Nat.le_of_ble_eq_true rfl)⟩) (fun H locs w => ?_)
        refine lv_iload hx hb dX8_opened_86 (lv_at hl 1 rfl) ?_
        refine lv_iconst (v := (-1 : Int32)) hx hb dX8_opened_88 (by decide) ?_
        refine lv_ixor hx hb dX8_opened_89 ?_
        refine lv_iand hx hb dX8_opened_90 ?_
        exact cw_iret cx (rt_e h) w dX8_opened_91
      · replace h := br_p q h
        refine lv_bipush (v := (-3 : Int32)) hx hb dX8_opened_44 (by decide) ?_
        exact cw_iret cx (rt_e h) w dX8_opened_46
    · replace h := br_p q h
      exact J18   P_206 h _ _ _ (lv_sub hl [] rfl) w
def hm_X8_factsOf_40 (k4 : Nat → Int32 → Int32 → Int32 → PS → Option (Int32 × PS)) (o0 : Nat) (x1 : Int32) (x2 : Int32) (x3 : Int32) (P : PS) : Option (Int32 × PS) := lt_ (x3 + (1 : Int32)) (fun x3_101 => k4 o0 x1 x2 x3_101 P)
def hm_X8_factsOf_4 (k4 : Nat → Int32 → Int32 → Int32 → PS → Option (Int32 × PS)) (o0 : Nat) (x1 : Int32) (x2 : Int32) (x3 : Int32) (P : PS) : Option (Int32 × PS) := ck (kk P o0 9) (nn (pR P o0 1) (fun b_203 => bd (hm_Jx4a65c_size_8abf5  P b_203) (fun r_205 P_204 => ck (kk P b_203 0) (if r_205 ≤ x3 then (some (x2, P_204)) else (bd (hm_X8_has  P_204 x1 x3) (fun r_209 P_208 => if r_209 = (0 : Int32) then (hm_X8_factsOf_40 k4 o0 x1 x2 x3 P_208) else (ck (kk P_208 o0 9) (nn (pR P_208 o0 1) (fun b_212 => bd (hm_Jx4a65c_get_915e3  P_208 b_212 x3) (fun o_214 P_213 => ck (kk P_208 b_212 0) (nn o_214 (fun b_217 => ck (kk P_213 b_217 8) (lt_ ((x2 ||| (pI P_213 b_217 4))) (fun x2_219 => hm_X8_factsOf_40 k4 o0 x1 x2_219 x3 P_213))))))))))))))
def hm_X8_factsOf_4L : Nat → Nat → Int32 → Int32 → Int32 → PS → Option (Int32 × PS)
  | 0, _, _, _, _, _ => none
  | n + 1, o0, x1, x2, x3, P => hm_X8_factsOf_4  (hm_X8_factsOf_4L  n) o0 x1 x2 x3 P
def hm_X8_factsOf (P : PS) (th : Nat) (a1 : Int32) : Option (Int32 × PS) := lt_ ((0 : Int32)) (fun x2_320 => lt_ ((0 : Int32)) (fun x3_321 => hm_X8_factsOf_4L  4000 th a1 x2_320 x3_321 P))
abbrev wu_X8_factsOf : List Cond := .code yX8_factsOf cX8_factsOf 4 (some .int) :: wsL_law
theorem ud_X8_factsOf : yX8_factsOf.cls = RX8 ∧ yX8_factsOf.cls ≠ "java/lang/invoke/MethodHandle" ∧ yX8_factsOf.cls ≠ "java/lang/invoke/VarHandle" ∧ (parseMethodDescriptor yX8_factsOf.desc).map (fun d => d.parameters.length) = some 1 := by decide +kernel
abbrev rmc_X8_factsOf : Room := { frames := 3, cells := 0, slots := 0, locals := 64 }
set_option maxHeartbeats 4000000 in
set_option maxRecDepth 100000 in
theorem hcc_X8_factsOf (l : Launch) (D : va_G) (cs : Nat → ClassId) (t0 : TS) (P0 T : PS) (th : Nat) (a1 : Int32) (r0 : Int32) (h : hm_X8_factsOf P0 th a1 = some (r0, T)) : MetCI l yX8_factsOf wu_X8_factsOf rmc_X8_factsOf D cs t0 [.ref th, .int a1] P0 T r0 0 0 := by
  refine co_start (own := RX8) (ty := (some .int)) (cc := cX8_factsOf) (maxL := 4) ⟨by decide, rfl⟩ rfl (Nat.le_of_ble_eq_true rfl) ?_
  intro p e s m args below meth c ls cx hnm hl w
  have hx := cx.1
  have hb := cx.2.1
  have hts := cx.2.2.2.1
  have hown := cx.2.2.2.2.1
  have hml := cx.2.2.2.2.2.2
  have hsub : ∀ w ∈ wsL_law, w ∈ wu_X8_factsOf := fun _ hq => List.mem_cons_of_mem _ hq
  have hl : lv_has ls 4 [(0, .ref th), (1, .int a1)] := hl
  have J40 : ∀ (k4 : Nat → Int32 → Int32 → Int32 → PS → Option (Int32 × PS)) (hk4 : ∀ (o0 : Nat) (x1 : Int32) (x2 : Int32) (x3 : Int32) (P : PS), k4 o0 x1 x2 x3 P = some (r0, T) → cGo p l e rmc_X8_factsOf s m args below meth c 4 D cs t0 (pA P0) (cQI below D cs P0 args s 0 0 r0 T) 0 0 4 [(0, .ref o0), (1, .int x1), (2, .int x2), (3, .int x3)] [] P) (o0 : Nat) (x1 : Int32) (x2 : Int32) (x3 : Int32) (P : PS), hm_X8_factsOf_40 k4 o0 x1 x2 x3 P = some (r0, T) → cGo p l e rmc_X8_factsOf s m args below meth c 4 D cs t0 (pA P0) (cQI below D cs P0 args s 0 0 r0 T) 0 0 40 [(0, .ref o0), (1, .int x1), (2, .int x2), (3, .int x3)] [] P := by
    intro k4 hk4 o0 x1 x2 x3 P h H locs ls hl w
    unfold hm_X8_factsOf_40 at h
    replace h := lt_e h
    obtain ⟨x3_101, ex3_101, h⟩ := h
    refine lv_iinc (v := x3_101) (lv' := [(3, .int x3_101), (0, .ref o0), (1, .int x1), (2, .int x2)]) hx hb dX8_factsOf_40 hl (k := 3) rfl (by rw [ex3_101]; rfl) (by decide) (rfl) (fun ls hl => ?_)
    refine lv_goto (tgt := 4) hx hb dX8_factsOf_43 (by decide) ?_
    exact hk4 o0 x1 x2 x3_101 P h _ _ _ (lv_sub hl [1, 2, 3, 0] rfl) w
  have L4 : ∀ (n : Nat) (o0 : Nat) (x1 : Int32) (x2 : Int32) (x3 : Int32) (P : PS), hm_X8_factsOf_4L  n o0 x1 x2 x3 P = some (r0, T) → cGo p l e rmc_X8_factsOf s m args below meth c 4 D cs t0 (pA P0) (cQI below D cs P0 args s 0 0 r0 T) 0 0 4 [(0, .ref o0), (1, .int x1), (2, .int x2), (3, .int x3)] [] P := by
    intro n
    induction n with
    | zero =>
      intro o0 x1 x2 x3 P h
      have h : none = some (r0, T) := h
      cases h
    | succ n hk4 =>
      intro o0 x1 x2 x3 P h H locs ls hl w
      have h : hm_X8_factsOf_4  (hm_X8_factsOf_4L  n) o0 x1 x2 x3 P = some (r0, T) := h
      generalize hm_X8_factsOf_4L  n = k4 at h hk4
      unfold hm_X8_factsOf_4 at h
      refine lv_iload_n hx hb dX8_factsOf_4 rfl (lv_at hl 3 rfl) ?_
      refine lv_aload_n hx hb dX8_factsOf_5 rfl (lv_at hl 0 rfl) ?_
      replace h := ck_e h
      obtain ⟨hk_202, h⟩ := h
      replace h := nn_e h
      obtain ⟨b_203, hbb_203, h⟩ := h
      refine cw_getS cx hsub w kT9 hk_202 1 (by decide) hbb_203 ⟨hsub _ uf_RX8_20, Or.inl rfl⟩ dX8_factsOf_6 ?_
      replace h := bd_e h
      obtain ⟨r_205, P_204, hc_206, h⟩ := h
      replace h := ck_e h
      obtain ⟨hk_207, h⟩ := h
      refine cc_i (cr_V (As := []) (rest := [.int x3]) cx (hcc_Jx4a65c_size_8abf5 l D cs t0  P P_204 b_203 r_205 hc_206) kT0 hk_207 (cwV 0 hts (uG uw_Jx4a65c_size_8abf5 ul_RX8_80 ui_Jx4a65c_size_8abf5 us_RJx4a65c_Jx4a65c_size_8abf5 un_RJx4a65c) rfl rfl rfl ud_Jx4a65c_size_8abf5 ⟨Nat.le_of_ble_eq_true rfl, Nat.le_of_ble_eq_true rfl⟩) w rfl hl.1 rfl (Nat.le_of_ble_eq_true rfl) dX8_factsOf_9 ⟨(Nat.le_of_ble_eq_true rfl), (Nat.le_of_ble_eq_true rfl)⟩) (fun H locs w => ?_)
      refine lv_icmp_ge (tgt := 46) hx hb dX8_factsOf_12 (by decide) (fun q => ?_) (fun q => ?_)
      · replace h := br_p q h
        refine lv_iload_n hx hb dX8_factsOf_46 rfl (lv_at hl 2 rfl) ?_
        exact cw_iret cx (rt_e h) w dX8_factsOf_47
      · replace h := br_n q h
        refine lv_iload_n hx hb dX8_factsOf_15 rfl (lv_at hl 1 rfl) ?_
        refine lv_iload_n hx hb dX8_factsOf_16 rfl (lv_at hl 3 rfl) ?_
        replace h := bd_e h
        obtain ⟨r_209, P_208, hc_210, h⟩ := h
        refine cc_i (cr_S (As := [.int x1, .int x3]) (rest := []) cx (hcc_X8_has l D cs t0  P_204 P_208 x1 x3 r_209 hc_210) (va_cwS 2 hts (uGS uw_X8_has ul_RX8_105 ut_X8_has un_RX8) rfl rfl rfl ud_X8_has.2 ⟨Nat.le_of_ble_eq_true rfl, Nat.le_of_ble_eq_true rfl⟩) w rfl hl.1 rfl (Nat.le_of_ble_eq_true rfl) dX8_factsOf_17 ⟨(Nat.le_of_ble_eq_true rfl), (Nat.le_of_ble_eq_true rfl)⟩) (fun H locs w => ?_)
        refine lv_if_eq (tgt := 40) hx hb dX8_factsOf_20 (by decide) (fun q => ?_) (fun q => ?_)
        · replace h := br_p q h
          exact J40 k4 hk4 o0 x1 x2 x3 P_208 h _ _ _ (lv_sub hl [0, 1, 2, 3] rfl) w
        · replace h := br_n q h
          refine lv_iload_n hx hb dX8_factsOf_23 rfl (lv_at hl 2 rfl) ?_
          refine lv_aload_n hx hb dX8_factsOf_24 rfl (lv_at hl 0 rfl) ?_
          replace h := ck_e h
          obtain ⟨hk_211, h⟩ := h
          replace h := nn_e h
          obtain ⟨b_212, hbb_212, h⟩ := h
          refine cw_getS cx hsub w kT9 hk_211 1 (by decide) hbb_212 ⟨hsub _ uf_RX8_20, Or.inl rfl⟩ dX8_factsOf_25 ?_
          refine lv_iload_n hx hb dX8_factsOf_28 rfl (lv_at hl 3 rfl) ?_
          replace h := bd_e h
          obtain ⟨o_214, P_213, hc_215, h⟩ := h
          replace h := ck_e h
          obtain ⟨hk_216, h⟩ := h
          refine cc_q (cr_V (As := [.int x3]) (rest := [.int x2]) cx (hcc_Jx4a65c_get_915e3 l D cs t0  P_208 P_213 b_212 x3 o_214 hc_215) kT0 hk_216 (cwV 1 hts (uG uw_Jx4a65c_get_915e3 ul_RX8_220 ui_Jx4a65c_get_915e3 us_RJx4a65c_Jx4a65c_get_915e3 un_RJx4a65c) rfl rfl rfl ud_Jx4a65c_get_915e3 ⟨Nat.le_of_ble_eq_true rfl, Nat.le_of_ble_eq_true rfl⟩) w rfl hl.1 rfl (Nat.le_of_ble_eq_true rfl) dX8_factsOf_29 ⟨(Nat.le_of_ble_eq_true rfl), (Nat.le_of_ble_eq_true rfl)⟩) (fun H locs w => ?_)
          replace h := nn_e h
          obtain ⟨b_217, hbb_217, h⟩ := h
          subst hbb_217
          have hl : lv_has ls 4 [(0, .ref o0), (1, .int x1), (2, .int x2), (3, .int x3)] := hl
          refine W.eq (g2 := F0 m _ ls [.ref b_217, .int x2]) rfl ?_
          replace h := ck_e h
          obtain ⟨hk_218, h⟩ := h
          refine cw_cast cx w kT8 hk_218 (hsub _ ucl_RX8_84) dX8_factsOf_32 ?_
          refine cw_getI cx hsub w kT8 hk_218 4 (by decide) ⟨hsub _ uf_RX8_121, Or.inl rfl⟩ dX8_factsOf_35 ?_
          refine lv_ior hx hb dX8_factsOf_38 ?_
          replace h := lt_e h
          obtain ⟨x2_219, ex2_219, h⟩ := h
          refine top_i ex2_219 ?_
          refine lv_istore_n (lv' := [(2, .int x2_219), (0, .ref o0), (1, .int x1), (3, .int x3)]) hx hb dX8_factsOf_39 rfl hl (by decide) (rfl) (fun ls hl => ?_)
          exact J40 k4 hk4 o0 x1 x2_219 x3 P_213 h _ _ _ (lv_sub hl [1, 2, 0, 3] rfl) w
  have hP0 : P0 = P0 := rfl
  unfold hm_X8_factsOf at h
  refine lv_iconst (v := (0 : Int32)) hx hb dX8_factsOf_0 (by decide) ?_
  replace h := lt_e h
  obtain ⟨x2_320, ex2_320, h⟩ := h
  refine top_i ex2_320 ?_
  refine lv_istore_n (lv' := [(2, .int x2_320), (0, .ref th), (1, .int a1)]) hx hb dX8_factsOf_1 rfl hl (by decide) (rfl) (fun ls hl => ?_)
  refine lv_iconst (v := (0 : Int32)) hx hb dX8_factsOf_2 (by decide) ?_
  replace h := lt_e h
  obtain ⟨x3_321, ex3_321, h⟩ := h
  refine top_i ex3_321 ?_
  refine lv_istore_n (lv' := [(3, .int x3_321), (2, .int x2_320), (0, .ref th), (1, .int a1)]) hx hb dX8_factsOf_3 rfl hl (by decide) (rfl) (fun ls hl => ?_)
  exact L4  4000 th a1 x2_320 x3_321 P0 h _ _ _ (lv_sub hl [2, 3, 1, 0] rfl) w
def hm_X8_provedWithout_21 (k21 : Nat → Int32 → Int32 → Int32 → Int32 → PS → Option (Int32 × PS)) (o0 : Nat) (x2 : Int32) (x3 : Int32) (x4 : Int32) (x5 : Int32) (P : PS) : Option (Int32 × PS) := if (10 : Int32) < x5 then (some (x3, P)) else (ck (kk P o0 9) (nn (pR P o0 4) (fun b_102 => ck (kk P b_102 6) (bd (hm_X8_suppose  P o0 x3 (pI P b_102 1) (0 : Int32)) (fun o_105 P_104 => nn o_105 (fun b_107 => bd (hm_X8_heardToPartsEnd  P_104 o0 x4 x2 b_107) (fun r_109 P_108 => ck (kk P_104 o0 9) (bd (hm_X8_factsOf  P_108 o0 r_109) (fun r_113 P_112 => ck (kk P_108 o0 9) (lt_ ((x3 ||| r_113)) (fun x7_116 => if x7_116 = x3 then (some (x3, P_112)) else (lt_ (x5 + (1 : Int32)) (fun x5_117 => k21 o0 x2 x7_116 x4 x5_117 P_112)))))))))))))
def hm_X8_provedWithout_21L : Nat → Nat → Int32 → Int32 → Int32 → Int32 → PS → Option (Int32 × PS)
  | 0, _, _, _, _, _, _ => none
  | n + 1, o0, x2, x3, x4, x5, P => hm_X8_provedWithout_21  (hm_X8_provedWithout_21L  n) o0 x2 x3 x4 x5 P
def hm_X8_provedWithout (P : PS) (th : Nat) (a1 : Int32) (a2 : Int32) : Option (Int32 × PS) := ck (kk P th 9) (nn (pR P th 4) (fun b_219 => ck (kk P b_219 6) (lt_ ((pI P b_219 0)) (fun x3_221 => bd (hm_X8_allWords  P th) (fun r_223 P_222 => lt_ ((r_223 &&& (a1 ^^^ (-1 : Int32)))) (fun x4_225 => lt_ ((0 : Int32)) (fun x5_226 => hm_X8_provedWithout_21L  4000 th a2 x3_221 x4_225 x5_226 P_222)))))))
abbrev wu_X8_provedWithout : List Cond := .code yX8_provedWithout cX8_provedWithout 8 (some .int) :: wsL_law
theorem ud_X8_provedWithout : yX8_provedWithout.cls = RX8 ∧ yX8_provedWithout.cls ≠ "java/lang/invoke/MethodHandle" ∧ yX8_provedWithout.cls ≠ "java/lang/invoke/VarHandle" ∧ (parseMethodDescriptor yX8_provedWithout.desc).map (fun d => d.parameters.length) = some 2 := by decide +kernel
abbrev rmc_X8_provedWithout : Room := { frames := 7, cells := 0, slots := 0, locals := 162 }
set_option maxHeartbeats 4000000 in
set_option maxRecDepth 100000 in
theorem hcc_X8_provedWithout (l : Launch) (D : va_G) (cs : Nat → ClassId) (t0 : TS) (P0 T : PS) (th : Nat) (a1 : Int32) (a2 : Int32) (r0 : Int32) (h : hm_X8_provedWithout P0 th a1 a2 = some (r0, T)) : MetCI l yX8_provedWithout wu_X8_provedWithout rmc_X8_provedWithout D cs t0 [.ref th, .int a1, .int a2] P0 T r0 0 0 := by
  refine co_start (own := RX8) (ty := (some .int)) (cc := cX8_provedWithout) (maxL := 8) ⟨by decide, rfl⟩ rfl (Nat.le_of_ble_eq_true rfl) ?_
  intro p e s m args below meth c ls cx hnm hl w
  have hx := cx.1
  have hb := cx.2.1
  have hts := cx.2.2.2.1
  have hown := cx.2.2.2.2.1
  have hml := cx.2.2.2.2.2.2
  have hsub : ∀ w ∈ wsL_law, w ∈ wu_X8_provedWithout := fun _ hq => List.mem_cons_of_mem _ hq
  have hl : lv_has ls 8 [(0, .ref th), (1, .int a1), (2, .int a2)] := hl
  have L21 : ∀ (n : Nat) (o0 : Nat) (x2 : Int32) (x3 : Int32) (x4 : Int32) (x5 : Int32) (P : PS), hm_X8_provedWithout_21L  n o0 x2 x3 x4 x5 P = some (r0, T) → cGo p l e rmc_X8_provedWithout s m args below meth c 8 D cs t0 (pA P0) (cQI below D cs P0 args s 0 0 r0 T) 0 0 21 [(0, .ref o0), (2, .int x2), (3, .int x3), (4, .int x4), (5, .int x5)] [] P := by
    intro n
    induction n with
    | zero =>
      intro o0 x2 x3 x4 x5 P h
      have h : none = some (r0, T) := h
      cases h
    | succ n hk21 =>
      intro o0 x2 x3 x4 x5 P h H locs ls hl w
      have h : hm_X8_provedWithout_21  (hm_X8_provedWithout_21L  n) o0 x2 x3 x4 x5 P = some (r0, T) := h
      generalize hm_X8_provedWithout_21L  n = k21 at h hk21
      unfold hm_X8_provedWithout_21 at h
      refine lv_iload hx hb dX8_provedWithout_21 (lv_at hl 4 rfl) ?_
      refine lv_bipush (v := (10 : Int32)) hx hb dX8_provedWithout_23 (by decide) ?_
      refine lv_icmp_gt (tgt := 77) hx hb dX8_provedWithout_25 (by decide) (fun q => ?_) (fun q => ?_)
      · replace h := br_p q h
        refine lv_iload_n hx hb dX8_provedWithout_77 rfl (lv_at hl 2 rfl) ?_
        exact cw_iret cx (rt_e h) w dX8_provedWithout_78
      · replace h := br_n q h
        refine lv_aload_n hx hb dX8_provedWithout_28 rfl (lv_at hl 0 rfl) ?_
        refine lv_iload hx hb dX8_provedWithout_29 (lv_at hl 3 rfl) ?_
        refine lv_iload_n hx hb dX8_provedWithout_31 rfl (lv_at hl 1 rfl) ?_
        refine lv_aload_n hx hb dX8_provedWithout_32 rfl (lv_at hl 0 rfl) ?_
        refine lv_iload_n hx hb dX8_provedWithout_33 rfl (lv_at hl 2 rfl) ?_
        refine lv_aload_n hx hb dX8_provedWithout_34 rfl (lv_at hl 0 rfl) ?_
        replace h := ck_e h
        obtain ⟨hk_101, h⟩ := h
        replace h := nn_e h
        obtain ⟨b_102, hbb_102, h⟩ := h
        refine cw_getS cx hsub w kT9 hk_101 4 (by decide) hbb_102 ⟨hsub _ uf_RX8_37, Or.inl rfl⟩ dX8_provedWithout_35 ?_
        replace h := ck_e h
        obtain ⟨hk_103, h⟩ := h
        refine cw_getI cx hsub w kT6 hk_103 1 (by decide) ⟨hsub _ uf_RX8_145, Or.inl rfl⟩ dX8_provedWithout_38 ?_
        refine lv_iconst (v := (0 : Int32)) hx hb dX8_provedWithout_41 (by decide) ?_
        replace h := bd_e h
        obtain ⟨o_105, P_104, hc_106, h⟩ := h
        refine cc_q (cr_V (As := [.int x3, .int (pI P b_102 1), .int (0 : Int32)]) (rest := [.int x2, .int x4, .ref o0]) cx (hcc_X8_suppose l D cs t0  P P_104 o0 x3 (pI P b_102 1) (0 : Int32) o_105 hc_106) kT9 hk_101 (cwV 3 hts (uG uw_X8_suppose ul_RX8_196 ui_X8_suppose us_RX8_X8_suppose un_RX8) rfl rfl rfl ud_X8_suppose ⟨Nat.le_of_ble_eq_true rfl, Nat.le_of_ble_eq_true rfl⟩) w rfl hl.1 rfl (Nat.le_of_ble_eq_true rfl) dX8_provedWithout_42 ⟨(Nat.le_of_ble_eq_true rfl), (Nat.le_of_ble_eq_true rfl)⟩) (fun H locs w => ?_)
        replace h := nn_e h
        obtain ⟨b_107, hbb_107, h⟩ := h
        subst hbb_107
        have hl : lv_has ls 8 [(0, .ref o0), (2, .int x2), (3, .int x3), (4, .int x4), (5, .int x5)] := hl
        refine W.eq (g2 := F0 m _ ls [.ref b_107, .int x2, .int x4, .ref o0]) rfl ?_
        replace h := bd_e h
        obtain ⟨r_109, P_108, hc_110, h⟩ := h
        replace h := ck_e h
        obtain ⟨hk_111, h⟩ := h
        refine cc_i (cr_V (As := [.int x4, .int x2, .ref b_107]) (rest := []) cx (hcc_X8_heardToPartsEnd l D cs t0  P_104 P_108 o0 x4 x2 b_107 r_109 hc_110) kT9 hk_111 (cwV 3 hts (uG uw_X8_heardToPartsEnd ul_RX8_180 ui_X8_heardToPartsEnd us_RX8_X8_heardToPartsEnd un_RX8) rfl rfl rfl ud_X8_heardToPartsEnd ⟨Nat.le_of_ble_eq_true rfl, Nat.le_of_ble_eq_true rfl⟩) w rfl hl.1 rfl (Nat.le_of_ble_eq_true rfl) dX8_provedWithout_45 ⟨(Nat.le_of_ble_eq_true rfl), (Nat.le_of_ble_eq_true rfl)⟩) (fun H locs w => ?_)
        refine lv_istore (lv' := [(6, .int r_109), (0, .ref o0), (2, .int x2), (3, .int x3), (4, .int x4), (5, .int x5)]) hx hb dX8_provedWithout_48 hl (by decide) (rfl) (fun ls hl => ?_)
        refine lv_iload_n hx hb dX8_provedWithout_50 rfl (lv_at hl 3 rfl) ?_
        refine lv_aload_n hx hb dX8_provedWithout_51 rfl (lv_at hl 1 rfl) ?_
        refine lv_iload hx hb dX8_provedWithout_52 (lv_at hl 0 rfl) ?_
        replace h := bd_e h
        obtain ⟨r_113, P_112, hc_114, h⟩ := h
        replace h := ck_e h
        obtain ⟨hk_115, h⟩ := h
        refine cc_i (cr_V (As := [.int r_109]) (rest := [.int x3]) cx (hcc_X8_factsOf l D cs t0  P_108 P_112 o0 r_109 r_113 hc_114) kT9 hk_115 (cwV 1 hts (uG uw_X8_factsOf ul_RX8_310 ui_X8_factsOf us_RX8_X8_factsOf un_RX8) rfl rfl rfl ud_X8_factsOf ⟨Nat.le_of_ble_eq_true rfl, Nat.le_of_ble_eq_true rfl⟩) w rfl hl.1 rfl (Nat.le_of_ble_eq_true rfl) dX8_provedWithout_54 ⟨(Nat.le_of_ble_eq_true rfl), (Nat.le_of_ble_eq_true rfl)⟩) (fun H locs w => ?_)
        refine lv_ior hx hb dX8_provedWithout_57 ?_
        replace h := lt_e h
        obtain ⟨x7_116, ex7_116, h⟩ := h
        refine top_i ex7_116 ?_
        refine lv_istore (lv' := [(7, .int x7_116), (6, .int r_109), (0, .ref o0), (2, .int x2), (3, .int x3), (4, .int x4), (5, .int x5)]) hx hb dX8_provedWithout_58 hl (by decide) (rfl) (fun ls hl => ?_)
        refine lv_iload hx hb dX8_provedWithout_60 (lv_at hl 0 rfl) ?_
        refine lv_iload_n hx hb dX8_provedWithout_62 rfl (lv_at hl 4 rfl) ?_
        refine lv_icmp_ne (tgt := 68) hx hb dX8_provedWithout_63 (by decide) (fun q => ?_) (fun q => ?_)
        · replace h := br_n q h
          refine lv_iload hx hb dX8_provedWithout_68 (lv_at hl 0 rfl) ?_
          refine lv_istore_n (lv' := [(3, .int x7_116), (7, .int x7_116), (6, .int r_109), (0, .ref o0), (2, .int x2), (4, .int x4), (5, .int x5)]) hx hb dX8_provedWithout_70 rfl hl (by decide) (rfl) (fun ls hl => ?_)
          replace h := lt_e h
          obtain ⟨x5_117, ex5_117, h⟩ := h
          refine lv_iinc (v := x5_117) (lv' := [(5, .int x5_117), (3, .int x7_116), (7, .int x7_116), (6, .int r_109), (0, .ref o0), (2, .int x2), (4, .int x4)]) hx hb dX8_provedWithout_71 hl (k := 6) rfl (by rw [ex5_117]; rfl) (by decide) (rfl) (fun ls hl => ?_)
          refine lv_goto (tgt := 21) hx hb dX8_provedWithout_74 (by decide) ?_
          exact hk21 o0 x2 x7_116 x4 x5_117 P_112 h _ _ _ (lv_sub hl [4, 5, 1, 6, 0] rfl) w
        · replace h := br_p q h
          refine lv_iload_n hx hb dX8_provedWithout_66 rfl (lv_at hl 4 rfl) ?_
          exact cw_iret cx (rt_e h) w dX8_provedWithout_67
  have hP0 : P0 = P0 := rfl
  unfold hm_X8_provedWithout at h
  refine lv_aload_n hx hb dX8_provedWithout_0 rfl (lv_at hl 0 rfl) ?_
  replace h := ck_e h
  obtain ⟨hk_218, h⟩ := h
  replace h := nn_e h
  obtain ⟨b_219, hbb_219, h⟩ := h
  refine cw_getS cx hsub w kT9 hk_218 4 (by decide) hbb_219 ⟨hsub _ uf_RX8_37, Or.inl rfl⟩ dX8_provedWithout_1 ?_
  replace h := ck_e h
  obtain ⟨hk_220, h⟩ := h
  refine cw_getI cx hsub w kT6 hk_220 0 (by decide) ⟨hsub _ uf_RX8_128, Or.inl rfl⟩ dX8_provedWithout_4 ?_
  replace h := lt_e h
  obtain ⟨x3_221, ex3_221, h⟩ := h
  refine top_i ex3_221 ?_
  refine lv_istore_n (lv' := [(3, .int x3_221), (0, .ref th), (1, .int a1), (2, .int a2)]) hx hb dX8_provedWithout_7 rfl hl (by decide) (rfl) (fun ls hl => ?_)
  refine lv_aload_n hx hb dX8_provedWithout_8 rfl (lv_at hl 1 rfl) ?_
  replace h := bd_e h
  obtain ⟨r_223, P_222, hc_224, h⟩ := h
  refine cc_i (cr_V (As := []) (rest := []) cx (hcc_X8_allWords l D cs t0  P0 P_222 th r_223 hc_224) kT9 hk_218 (cwV 0 hts (uG uw_X8_allWords ul_RX8_207 ui_X8_allWords us_RX8_X8_allWords un_RX8) rfl rfl rfl ud_X8_allWords ⟨Nat.le_of_ble_eq_true rfl, Nat.le_of_ble_eq_true rfl⟩) w rfl hl.1 rfl (Nat.le_of_ble_eq_true rfl) dX8_provedWithout_9 ⟨(Nat.le_of_ble_eq_true rfl), (Nat.le_of_ble_eq_true rfl)⟩) (fun H locs w => ?_)
  refine lv_iload_n hx hb dX8_provedWithout_12 rfl (lv_at hl 2 rfl) ?_
  refine lv_iconst (v := (-1 : Int32)) hx hb dX8_provedWithout_13 (by decide) ?_
  refine lv_ixor hx hb dX8_provedWithout_14 ?_
  refine lv_iand hx hb dX8_provedWithout_15 ?_
  replace h := lt_e h
  obtain ⟨x4_225, ex4_225, h⟩ := h
  refine top_i ex4_225 ?_
  refine lv_istore (lv' := [(4, .int x4_225), (3, .int x3_221), (0, .ref th), (1, .int a1), (2, .int a2)]) hx hb dX8_provedWithout_16 hl (by decide) (rfl) (fun ls hl => ?_)
  refine lv_iconst (v := (0 : Int32)) hx hb dX8_provedWithout_18 (by decide) ?_
  replace h := lt_e h
  obtain ⟨x5_226, ex5_226, h⟩ := h
  refine top_i ex5_226 ?_
  refine lv_istore (lv' := [(5, .int x5_226), (4, .int x4_225), (3, .int x3_221), (0, .ref th), (1, .int a1), (2, .int a2)]) hx hb dX8_provedWithout_19 hl (by decide) (rfl) (fun ls hl => ?_)
  exact L21  4000 th a2 x3_221 x4_225 x5_226 P_222 h _ _ _ (lv_sub hl [3, 5, 2, 1, 0] rfl) w
def hm_X8_proved (P : PS) (th : Nat) (a1 : Int32) : Option (Int32 × PS) := bd (hm_X8_within  P a1 (2 : Int32)) (fun r_102 P_101 => if r_102 = (0 : Int32) then (some ((-1 : Int32), P_101)) else (bd (hm_X8_provedWithout  P_101 th (0 : Int32) a1) (fun r_105 P_104 => ck (kk P_101 th 9) (some (r_105, P_104)))))
abbrev wu_X8_proved : List Cond := .code yX8_proved cX8_proved 2 (some .int) :: wsL_law
theorem ud_X8_proved : yX8_proved.cls = RX8 ∧ yX8_proved.cls ≠ "java/lang/invoke/MethodHandle" ∧ yX8_proved.cls ≠ "java/lang/invoke/VarHandle" ∧ (parseMethodDescriptor yX8_proved.desc).map (fun d => d.parameters.length) = some 1 := by decide +kernel
abbrev rmc_X8_proved : Room := { frames := 8, cells := 0, slots := 0, locals := 189 }
set_option maxHeartbeats 4000000 in
set_option maxRecDepth 100000 in
theorem hcc_X8_proved (l : Launch) (D : va_G) (cs : Nat → ClassId) (t0 : TS) (P0 T : PS) (th : Nat) (a1 : Int32) (r0 : Int32) (h : hm_X8_proved P0 th a1 = some (r0, T)) : MetCI l yX8_proved wu_X8_proved rmc_X8_proved D cs t0 [.ref th, .int a1] P0 T r0 0 0 := by
  refine co_start (own := RX8) (ty := (some .int)) (cc := cX8_proved) (maxL := 2) ⟨by decide, rfl⟩ rfl (Nat.le_of_ble_eq_true rfl) ?_
  intro p e s m args below meth c ls cx hnm hl w
  have hx := cx.1
  have hb := cx.2.1
  have hts := cx.2.2.2.1
  have hown := cx.2.2.2.2.1
  have hml := cx.2.2.2.2.2.2
  have hsub : ∀ w ∈ wsL_law, w ∈ wu_X8_proved := fun _ hq => List.mem_cons_of_mem _ hq
  have hl : lv_has ls 2 [(0, .ref th), (1, .int a1)] := hl
  have hP0 : P0 = P0 := rfl
  unfold hm_X8_proved at h
  refine lv_iload_n hx hb dX8_proved_0 rfl (lv_at hl 1 rfl) ?_
  refine lv_iconst (v := (2 : Int32)) hx hb dX8_proved_1 (by decide) ?_
  replace h := bd_e h
  obtain ⟨r_102, P_101, hc_103, h⟩ := h
  refine cc_i (cr_S (As := [.int a1, .int (2 : Int32)]) (rest := []) cx (hcc_X8_within l D cs t0  P0 P_101 a1 (2 : Int32) r_102 hc_103) (va_cwS 2 hts (uGS uw_X8_within ul_RX8_72 ut_X8_within un_RX8) rfl rfl rfl ud_X8_within.2 ⟨Nat.le_of_ble_eq_true rfl, Nat.le_of_ble_eq_true rfl⟩) w rfl hl.1 rfl (Nat.le_of_ble_eq_true rfl) dX8_proved_2 ⟨(Nat.le_of_ble_eq_true rfl), (Nat.le_of_ble_eq_true rfl)⟩) (fun H locs w => ?_)
  refine lv_if_ne (tgt := 10) hx hb dX8_proved_5 (by decide) (fun q => ?_) (fun q => ?_)
  · replace h := br_n q h
    refine lv_aload_n hx hb dX8_proved_10 rfl (lv_at hl 0 rfl) ?_
    refine lv_iconst (v := (0 : Int32)) hx hb dX8_proved_11 (by decide) ?_
    refine lv_iload_n hx hb dX8_proved_12 rfl (lv_at hl 1 rfl) ?_
    replace h := bd_e h
    obtain ⟨r_105, P_104, hc_106, h⟩ := h
    replace h := ck_e h
    obtain ⟨hk_107, h⟩ := h
    refine cc_i (cr_V (As := [.int (0 : Int32), .int a1]) (rest := []) cx (hcc_X8_provedWithout l D cs t0  P_101 P_104 th (0 : Int32) a1 r_105 hc_106) kT9 hk_107 (cwV 2 hts (uG uw_X8_provedWithout ul_RX8_210 ui_X8_provedWithout us_RX8_X8_provedWithout un_RX8) rfl rfl rfl ud_X8_provedWithout ⟨Nat.le_of_ble_eq_true rfl, Nat.le_of_ble_eq_true rfl⟩) w rfl hl.1 rfl (Nat.le_of_ble_eq_true rfl) dX8_proved_13 ⟨(Nat.le_of_ble_eq_true rfl), (Nat.le_of_ble_eq_true rfl)⟩) (fun H locs w => ?_)
    exact cw_iret cx (rt_e h) w dX8_proved_16
  · replace h := br_p q h
    refine lv_iconst (v := (-1 : Int32)) hx hb dX8_proved_8 (by decide) ?_
    exact cw_iret cx (rt_e h) w dX8_proved_9
def hm_X8_needed_79 (k44 : Nat → Int32 → Int32 → Int32 → Int32 → PS → Option (Int32 × PS)) (o0 : Nat) (x1 : Int32) (x2 : Int32) (x3 : Int32) (x4 : Int32) (P : PS) : Option (Int32 × PS) := lt_ (x4 + (1 : Int32)) (fun x4_101 => k44 o0 x1 x2 x3 x4_101 P)
def hm_X8_needed_44 (k44 : Nat → Int32 → Int32 → Int32 → Int32 → PS → Option (Int32 × PS)) (o0 : Nat) (x1 : Int32) (x2 : Int32) (x3 : Int32) (x4 : Int32) (P : PS) : Option (Int32 × PS) := ck (kk P o0 9) (nn (pR P o0 1) (fun b_203 => bd (hm_Jx4a65c_size_8abf5  P b_203) (fun r_205 P_204 => ck (kk P b_203 0) (if r_205 ≤ x4 then (some (x3, P_204)) else (bd (hm_X8_provedWithout  P_204 o0 ((1 : Int32) <<< (x4 &&& 31)) x2) (fun r_209 P_208 => ck (kk P_204 o0 9) (if (x1 &&& (r_209 ^^^ (-1 : Int32))) = (0 : Int32) then (hm_X8_needed_79 k44 o0 x1 x2 x3 x4 P_208) else (lt_ ((x3 ||| ((1 : Int32) <<< (x4 &&& 31)))) (fun x3_212 => hm_X8_needed_79 k44 o0 x1 x2 x3_212 x4 P_208)))))))))
def hm_X8_needed_44L : Nat → Nat → Int32 → Int32 → Int32 → Int32 → PS → Option (Int32 × PS)
  | 0, _, _, _, _, _, _ => none
  | n + 1, o0, x1, x2, x3, x4, P => hm_X8_needed_44  (hm_X8_needed_44L  n) o0 x1 x2 x3 x4 P
def hm_X8_needed (P : PS) (th : Nat) (a1 : Int32) (a2 : Int32) : Option (Int32 × PS) := bd (hm_X8_within  P a2 (2 : Int32)) (fun r_314 P_313 => if r_314 = (0 : Int32) then (some ((-1 : Int32), P_313)) else (bd (hm_X8_within  P_313 a1 (1024 : Int32)) (fun r_317 P_316 => if r_317 = (0 : Int32) then (some ((-2 : Int32), P_316)) else (bd (hm_X8_provedWithout  P_316 th (0 : Int32) a2) (fun r_320 P_319 => ck (kk P_316 th 9) (if (a1 &&& (r_320 ^^^ (-1 : Int32))) = (0 : Int32) then (lt_ ((0 : Int32)) (fun x3_323 => lt_ ((0 : Int32)) (fun x4_324 => hm_X8_needed_44L  4000 th a1 a2 x3_323 x4_324 P_319))) else (some ((-5 : Int32), P_319))))))))
abbrev wu_X8_needed : List Cond := .code yX8_needed cX8_needed 5 (some .int) :: wsL_law
theorem ud_X8_needed : yX8_needed.cls = RX8 ∧ yX8_needed.cls ≠ "java/lang/invoke/MethodHandle" ∧ yX8_needed.cls ≠ "java/lang/invoke/VarHandle" ∧ (parseMethodDescriptor yX8_needed.desc).map (fun d => d.parameters.length) = some 2 := by decide +kernel
abbrev rmc_X8_needed : Room := { frames := 8, cells := 0, slots := 0, locals := 189 }
set_option maxHeartbeats 4000000 in
set_option maxRecDepth 100000 in
theorem hcc_X8_needed (l : Launch) (D : va_G) (cs : Nat → ClassId) (t0 : TS) (P0 T : PS) (th : Nat) (a1 : Int32) (a2 : Int32) (r0 : Int32) (h : hm_X8_needed P0 th a1 a2 = some (r0, T)) : MetCI l yX8_needed wu_X8_needed rmc_X8_needed D cs t0 [.ref th, .int a1, .int a2] P0 T r0 0 0 := by
  refine co_start (own := RX8) (ty := (some .int)) (cc := cX8_needed) (maxL := 5) ⟨by decide, rfl⟩ rfl (Nat.le_of_ble_eq_true rfl) ?_
  intro p e s m args below meth c ls cx hnm hl w
  have hx := cx.1
  have hb := cx.2.1
  have hts := cx.2.2.2.1
  have hown := cx.2.2.2.2.1
  have hml := cx.2.2.2.2.2.2
  have hsub : ∀ w ∈ wsL_law, w ∈ wu_X8_needed := fun _ hq => List.mem_cons_of_mem _ hq
  have hl : lv_has ls 5 [(0, .ref th), (1, .int a1), (2, .int a2)] := hl
  have J79 : ∀ (k44 : Nat → Int32 → Int32 → Int32 → Int32 → PS → Option (Int32 × PS)) (hk44 : ∀ (o0 : Nat) (x1 : Int32) (x2 : Int32) (x3 : Int32) (x4 : Int32) (P : PS), k44 o0 x1 x2 x3 x4 P = some (r0, T) → cGo p l e rmc_X8_needed s m args below meth c 5 D cs t0 (pA P0) (cQI below D cs P0 args s 0 0 r0 T) 0 0 44 [(0, .ref o0), (1, .int x1), (2, .int x2), (3, .int x3), (4, .int x4)] [] P) (o0 : Nat) (x1 : Int32) (x2 : Int32) (x3 : Int32) (x4 : Int32) (P : PS), hm_X8_needed_79 k44 o0 x1 x2 x3 x4 P = some (r0, T) → cGo p l e rmc_X8_needed s m args below meth c 5 D cs t0 (pA P0) (cQI below D cs P0 args s 0 0 r0 T) 0 0 79 [(0, .ref o0), (1, .int x1), (2, .int x2), (3, .int x3), (4, .int x4)] [] P := by
    intro k44 hk44 o0 x1 x2 x3 x4 P h H locs ls hl w
    unfold hm_X8_needed_79 at h
    replace h := lt_e h
    obtain ⟨x4_101, ex4_101, h⟩ := h
    refine lv_iinc (v := x4_101) (lv' := [(4, .int x4_101), (0, .ref o0), (1, .int x1), (2, .int x2), (3, .int x3)]) hx hb dX8_needed_79 hl (k := 4) rfl (by rw [ex4_101]; rfl) (by decide) (rfl) (fun ls hl => ?_)
    refine lv_goto (tgt := 44) hx hb dX8_needed_82 (by decide) ?_
    exact hk44 o0 x1 x2 x3 x4_101 P h _ _ _ (lv_sub hl [1, 2, 3, 4, 0] rfl) w
  have L44 : ∀ (n : Nat) (o0 : Nat) (x1 : Int32) (x2 : Int32) (x3 : Int32) (x4 : Int32) (P : PS), hm_X8_needed_44L  n o0 x1 x2 x3 x4 P = some (r0, T) → cGo p l e rmc_X8_needed s m args below meth c 5 D cs t0 (pA P0) (cQI below D cs P0 args s 0 0 r0 T) 0 0 44 [(0, .ref o0), (1, .int x1), (2, .int x2), (3, .int x3), (4, .int x4)] [] P := by
    intro n
    induction n with
    | zero =>
      intro o0 x1 x2 x3 x4 P h
      have h : none = some (r0, T) := h
      cases h
    | succ n hk44 =>
      intro o0 x1 x2 x3 x4 P h H locs ls hl w
      have h : hm_X8_needed_44  (hm_X8_needed_44L  n) o0 x1 x2 x3 x4 P = some (r0, T) := h
      generalize hm_X8_needed_44L  n = k44 at h hk44
      unfold hm_X8_needed_44 at h
      refine lv_iload hx hb dX8_needed_44 (lv_at hl 4 rfl) ?_
      refine lv_aload_n hx hb dX8_needed_46 rfl (lv_at hl 0 rfl) ?_
      replace h := ck_e h
      obtain ⟨hk_202, h⟩ := h
      replace h := nn_e h
      obtain ⟨b_203, hbb_203, h⟩ := h
      refine cw_getS cx hsub w kT9 hk_202 1 (by decide) hbb_203 ⟨hsub _ uf_RX8_20, Or.inl rfl⟩ dX8_needed_47 ?_
      replace h := bd_e h
      obtain ⟨r_205, P_204, hc_206, h⟩ := h
      replace h := ck_e h
      obtain ⟨hk_207, h⟩ := h
      refine cc_i (cr_V (As := []) (rest := [.int x4]) cx (hcc_Jx4a65c_size_8abf5 l D cs t0  P P_204 b_203 r_205 hc_206) kT0 hk_207 (cwV 0 hts (uG uw_Jx4a65c_size_8abf5 ul_RX8_80 ui_Jx4a65c_size_8abf5 us_RJx4a65c_Jx4a65c_size_8abf5 un_RJx4a65c) rfl rfl rfl ud_Jx4a65c_size_8abf5 ⟨Nat.le_of_ble_eq_true rfl, Nat.le_of_ble_eq_true rfl⟩) w rfl hl.1 rfl (Nat.le_of_ble_eq_true rfl) dX8_needed_50 ⟨(Nat.le_of_ble_eq_true rfl), (Nat.le_of_ble_eq_true rfl)⟩) (fun H locs w => ?_)
      refine lv_icmp_ge (tgt := 85) hx hb dX8_needed_53 (by decide) (fun q => ?_) (fun q => ?_)
      · replace h := br_p q h
        refine lv_iload_n hx hb dX8_needed_85 rfl (lv_at hl 3 rfl) ?_
        exact cw_iret cx (rt_e h) w dX8_needed_86
      · replace h := br_n q h
        refine lv_iload_n hx hb dX8_needed_56 rfl (lv_at hl 1 rfl) ?_
        refine lv_aload_n hx hb dX8_needed_57 rfl (lv_at hl 0 rfl) ?_
        refine lv_iconst (v := (1 : Int32)) hx hb dX8_needed_58 (by decide) ?_
        refine lv_iload hx hb dX8_needed_59 (lv_at hl 4 rfl) ?_
        refine lv_ishl hx hb dX8_needed_61 ?_
        refine lv_iload_n hx hb dX8_needed_62 rfl (lv_at hl 2 rfl) ?_
        replace h := bd_e h
        obtain ⟨r_209, P_208, hc_210, h⟩ := h
        replace h := ck_e h
        obtain ⟨hk_211, h⟩ := h
        refine cc_i (cr_V (As := [.int ((1 : Int32) <<< (x4 &&& 31)), .int x2]) (rest := [.int x1]) cx (hcc_X8_provedWithout l D cs t0  P_204 P_208 o0 ((1 : Int32) <<< (x4 &&& 31)) x2 r_209 hc_210) kT9 hk_211 (cwV 2 hts (uG uw_X8_provedWithout ul_RX8_210 ui_X8_provedWithout us_RX8_X8_provedWithout un_RX8) rfl rfl rfl ud_X8_provedWithout ⟨Nat.le_of_ble_eq_true rfl, Nat.le_of_ble_eq_true rfl⟩) w rfl hl.1 rfl (Nat.le_of_ble_eq_true rfl) dX8_needed_63 ⟨(Nat.le_of_ble_eq_true rfl), (Nat.le_of_ble_eq_true rfl)⟩) (fun H locs w => ?_)
        refine lv_iconst (v := (-1 : Int32)) hx hb dX8_needed_66 (by decide) ?_
        refine lv_ixor hx hb dX8_needed_67 ?_
        refine lv_iand hx hb dX8_needed_68 ?_
        refine lv_if_eq (tgt := 79) hx hb dX8_needed_69 (by decide) (fun q => ?_) (fun q => ?_)
        · replace h := br_p q h
          exact J79 k44 hk44 o0 x1 x2 x3 x4 P_208 h _ _ _ (lv_sub hl [0, 1, 2, 3, 4] rfl) w
        · replace h := br_n q h
          refine lv_iload_n hx hb dX8_needed_72 rfl (lv_at hl 3 rfl) ?_
          refine lv_iconst (v := (1 : Int32)) hx hb dX8_needed_73 (by decide) ?_
          refine lv_iload hx hb dX8_needed_74 (lv_at hl 4 rfl) ?_
          refine lv_ishl hx hb dX8_needed_76 ?_
          refine lv_ior hx hb dX8_needed_77 ?_
          replace h := lt_e h
          obtain ⟨x3_212, ex3_212, h⟩ := h
          refine top_i ex3_212 ?_
          refine lv_istore_n (lv' := [(3, .int x3_212), (0, .ref o0), (1, .int x1), (2, .int x2), (4, .int x4)]) hx hb dX8_needed_78 rfl hl (by decide) (rfl) (fun ls hl => ?_)
          exact J79 k44 hk44 o0 x1 x2 x3_212 x4 P_208 h _ _ _ (lv_sub hl [1, 2, 3, 0, 4] rfl) w
  have hP0 : P0 = P0 := rfl
  unfold hm_X8_needed at h
  refine lv_iload_n hx hb dX8_needed_0 rfl (lv_at hl 2 rfl) ?_
  refine lv_iconst (v := (2 : Int32)) hx hb dX8_needed_1 (by decide) ?_
  replace h := bd_e h
  obtain ⟨r_314, P_313, hc_315, h⟩ := h
  refine cc_i (cr_S (As := [.int a2, .int (2 : Int32)]) (rest := []) cx (hcc_X8_within l D cs t0  P0 P_313 a2 (2 : Int32) r_314 hc_315) (va_cwS 2 hts (uGS uw_X8_within ul_RX8_72 ut_X8_within un_RX8) rfl rfl rfl ud_X8_within.2 ⟨Nat.le_of_ble_eq_true rfl, Nat.le_of_ble_eq_true rfl⟩) w rfl hl.1 rfl (Nat.le_of_ble_eq_true rfl) dX8_needed_2 ⟨(Nat.le_of_ble_eq_true rfl), (Nat.le_of_ble_eq_true rfl)⟩) (fun H locs w => ?_)
  refine lv_if_ne (tgt := 10) hx hb dX8_needed_5 (by decide) (fun q => ?_) (fun q => ?_)
  · replace h := br_n q h
    refine lv_iload_n hx hb dX8_needed_10 rfl (lv_at hl 1 rfl) ?_
    refine lv_sipush (v := (1024 : Int32)) hx hb dX8_needed_11 (by decide) ?_
    replace h := bd_e h
    obtain ⟨r_317, P_316, hc_318, h⟩ := h
    refine cc_i (cr_S (As := [.int a1, .int (1024 : Int32)]) (rest := []) cx (hcc_X8_within l D cs t0  P_313 P_316 a1 (1024 : Int32) r_317 hc_318) (va_cwS 2 hts (uGS uw_X8_within ul_RX8_72 ut_X8_within un_RX8) rfl rfl rfl ud_X8_within.2 ⟨Nat.le_of_ble_eq_true rfl, Nat.le_of_ble_eq_true rfl⟩) w rfl hl.1 rfl (Nat.le_of_ble_eq_true rfl) dX8_needed_14 ⟨(Nat.le_of_ble_eq_true rfl), (Nat.le_of_ble_eq_true rfl)⟩) (fun H locs w => ?_)
    refine lv_if_ne (tgt := 23) hx hb dX8_needed_17 (by decide) (fun q => ?_) (fun q => ?_)
    · replace h := br_n q h
      refine lv_iload_n hx hb dX8_needed_23 rfl (lv_at hl 1 rfl) ?_
      refine lv_aload_n hx hb dX8_needed_24 rfl (lv_at hl 0 rfl) ?_
      refine lv_iconst (v := (0 : Int32)) hx hb dX8_needed_25 (by decide) ?_
      refine lv_iload_n hx hb dX8_needed_26 rfl (lv_at hl 2 rfl) ?_
      replace h := bd_e h
      obtain ⟨r_320, P_319, hc_321, h⟩ := h
      replace h := ck_e h
      obtain ⟨hk_322, h⟩ := h
      refine cc_i (cr_V (As := [.int (0 : Int32), .int a2]) (rest := [.int a1]) cx (hcc_X8_provedWithout l D cs t0  P_316 P_319 th (0 : Int32) a2 r_320 hc_321) kT9 hk_322 (cwV 2 hts (uG uw_X8_provedWithout ul_RX8_210 ui_X8_provedWithout us_RX8_X8_provedWithout un_RX8) rfl rfl rfl ud_X8_provedWithout ⟨Nat.le_of_ble_eq_true rfl, Nat.le_of_ble_eq_true rfl⟩) w rfl hl.1 rfl (Nat.le_of_ble_eq_true rfl) dX8_needed_27 ⟨(Nat.le_of_ble_eq_true rfl), (Nat.le_of_ble_eq_true rfl)⟩) (fun H locs w => ?_)
      refine lv_iconst (v := (-1 : Int32)) hx hb dX8_needed_30 (by decide) ?_
      refine lv_ixor hx hb dX8_needed_31 ?_
      refine lv_iand hx hb dX8_needed_32 ?_
      refine lv_if_eq (tgt := 39) hx hb dX8_needed_33 (by decide) (fun q => ?_) (fun q => ?_)
      · replace h := br_p q h
        refine lv_iconst (v := (0 : Int32)) hx hb dX8_needed_39 (by decide) ?_
        replace h := lt_e h
        obtain ⟨x3_323, ex3_323, h⟩ := h
        refine top_i ex3_323 ?_
        refine lv_istore_n (lv' := [(3, .int x3_323), (0, .ref th), (1, .int a1), (2, .int a2)]) hx hb dX8_needed_40 rfl hl (by decide) (rfl) (fun ls hl => ?_)
        refine lv_iconst (v := (0 : Int32)) hx hb dX8_needed_41 (by decide) ?_
        replace h := lt_e h
        obtain ⟨x4_324, ex4_324, h⟩ := h
        refine top_i ex4_324 ?_
        refine lv_istore (lv' := [(4, .int x4_324), (3, .int x3_323), (0, .ref th), (1, .int a1), (2, .int a2)]) hx hb dX8_needed_42 hl (by decide) (rfl) (fun ls hl => ?_)
        exact L44  4000 th a1 a2 x3_323 x4_324 P_319 h _ _ _ (lv_sub hl [2, 3, 4, 1, 0] rfl) w
      · replace h := br_n q h
        refine lv_bipush (v := (-5 : Int32)) hx hb dX8_needed_36 (by decide) ?_
        exact cw_iret cx (rt_e h) w dX8_needed_38
    · replace h := br_p q h
      refine lv_bipush (v := (-2 : Int32)) hx hb dX8_needed_20 (by decide) ?_
      exact cw_iret cx (rt_e h) w dX8_needed_22
  · replace h := br_p q h
    refine lv_iconst (v := (-1 : Int32)) hx hb dX8_needed_8 (by decide) ?_
    exact cw_iret cx (rt_e h) w dX8_needed_9
def hm_X8_ordersOn_27  (P : PS) : Option (Int32 × PS) := some ((1 : Int32), P)
def hm_X8_ordersOn_31  (P : PS) : Option (Int32 × PS) := some ((0 : Int32), P)
def hm_X8_ordersOn (P : PS) (th : Nat) (a1 : Int32) (a2 : Int32) : Option (Int32 × PS) := if a1 = a2 then (hm_X8_ordersOn_27   P) else (if a1 < (0 : Int32) then (hm_X8_ordersOn_31   P) else (ck (kk P th 9) (nn (pR P th 9) (fun b_302 => ck (kk P b_302 12) (if (nI (pN P b_302)) ≤ a1 then (hm_X8_ordersOn_31   P) else (nn (pR P th 9) (fun b_304 => ck (kk P b_304 12) (ck (vin a1 (pN P b_304)) (if (pI P b_304 (a1).toNatClampNeg) < (0 : Int32) then (hm_X8_ordersOn_31   P) else (hm_X8_ordersOn_27   P))))))))))
abbrev wu_X8_ordersOn : List Cond := .code yX8_ordersOn cX8_ordersOn 3 (some .boolean) :: wsL_law
theorem ud_X8_ordersOn : yX8_ordersOn.cls = RX8 ∧ yX8_ordersOn.cls ≠ "java/lang/invoke/MethodHandle" ∧ yX8_ordersOn.cls ≠ "java/lang/invoke/VarHandle" ∧ (parseMethodDescriptor yX8_ordersOn.desc).map (fun d => d.parameters.length) = some 2 := by decide +kernel
abbrev rmc_X8_ordersOn : Room := { frames := 0, cells := 0, slots := 0, locals := 0 }
set_option maxHeartbeats 4000000 in
set_option maxRecDepth 100000 in
theorem hcc_X8_ordersOn (l : Launch) (D : va_G) (cs : Nat → ClassId) (t0 : TS) (P0 T : PS) (th : Nat) (a1 : Int32) (a2 : Int32) (r0 : Int32) (h : hm_X8_ordersOn P0 th a1 a2 = some (r0, T)) : MetCI l yX8_ordersOn wu_X8_ordersOn rmc_X8_ordersOn D cs t0 [.ref th, .int a1, .int a2] P0 T r0 0 0 := by
  refine co_start (own := RX8) (ty := (some .boolean)) (cc := cX8_ordersOn) (maxL := 3) ⟨by decide, rfl⟩ rfl (Nat.le_of_ble_eq_true rfl) ?_
  intro p e s m args below meth c ls cx hnm hl w
  have hx := cx.1
  have hb := cx.2.1
  have hts := cx.2.2.2.1
  have hown := cx.2.2.2.2.1
  have hml := cx.2.2.2.2.2.2
  have hsub : ∀ w ∈ wsL_law, w ∈ wu_X8_ordersOn := fun _ hq => List.mem_cons_of_mem _ hq
  have hl : lv_has ls 3 [(0, .ref th), (1, .int a1), (2, .int a2)] := hl
  have J27 : ∀  (P : PS), hm_X8_ordersOn_27   P = some (r0, T) → cGo p l e rmc_X8_ordersOn s m args below meth c 3 D cs t0 (pA P0) (cQI below D cs P0 args s 0 0 r0 T) 0 0 27 [] [] P := by
    intro  P h H locs ls hl w
    unfold hm_X8_ordersOn_27 at h
    refine lv_iconst (v := (1 : Int32)) hx hb dX8_ordersOn_27 (by decide) ?_
    refine lv_goto (tgt := 32) hx hb dX8_ordersOn_28 (by decide) ?_
    exact cw_zret cx (Or.inr rfl) (rt_e h) w dX8_ordersOn_32
  have J31 : ∀  (P : PS), hm_X8_ordersOn_31   P = some (r0, T) → cGo p l e rmc_X8_ordersOn s m args below meth c 3 D cs t0 (pA P0) (cQI below D cs P0 args s 0 0 r0 T) 0 0 31 [] [] P := by
    intro  P h H locs ls hl w
    unfold hm_X8_ordersOn_31 at h
    refine lv_iconst (v := (0 : Int32)) hx hb dX8_ordersOn_31 (by decide) ?_
    exact cw_zret cx (Or.inl rfl) (rt_e h) w dX8_ordersOn_32
  have hP0 : P0 = P0 := rfl
  unfold hm_X8_ordersOn at h
  refine lv_iload_n hx hb dX8_ordersOn_0 rfl (lv_at hl 1 rfl) ?_
  refine lv_iload_n hx hb dX8_ordersOn_1 rfl (lv_at hl 2 rfl) ?_
  refine lv_icmp_eq (tgt := 27) hx hb dX8_ordersOn_2 (by decide) (fun q => ?_) (fun q => ?_)
  · replace h := br_p q h
    exact J27   P0 h _ _ _ (lv_sub hl [] rfl) w
  · replace h := br_n q h
    refine lv_iload_n hx hb dX8_ordersOn_5 rfl (lv_at hl 1 rfl) ?_
    refine lv_if_lt (tgt := 31) hx hb dX8_ordersOn_6 (by decide) (fun q => ?_) (fun q => ?_)
    · replace h := br_p q h
      exact J31   P0 h _ _ _ (lv_sub hl [] rfl) w
    · replace h := br_n q h
      refine lv_iload_n hx hb dX8_ordersOn_9 rfl (lv_at hl 1 rfl) ?_
      refine lv_aload_n hx hb dX8_ordersOn_10 rfl (lv_at hl 0 rfl) ?_
      replace h := ck_e h
      obtain ⟨hk_301, h⟩ := h
      replace h := nn_e h
      obtain ⟨b_302, hbb_302, h⟩ := h
      refine cw_getS cx hsub w kT9 hk_301 9 (by decide) hbb_302 ⟨hsub _ uf_RX8_60, Or.inl rfl⟩ dX8_ordersOn_11 ?_
      replace h := ck_e h
      obtain ⟨hk_303, h⟩ := h
      refine cw_alen cx w hk_303 rfl dX8_ordersOn_14 ?_
      refine lv_icmp_ge (tgt := 31) hx hb dX8_ordersOn_15 (by decide) (fun q => ?_) (fun q => ?_)
      · replace h := br_p q h
        exact J31   P0 h _ _ _ (lv_sub hl [] rfl) w
      · replace h := br_n q h
        refine lv_aload_n hx hb dX8_ordersOn_18 rfl (lv_at hl 0 rfl) ?_
        replace h := nn_e h
        obtain ⟨b_304, hbb_304, h⟩ := h
        refine cw_getS cx hsub w kT9 hk_301 9 (by decide) hbb_304 ⟨hsub _ uf_RX8_60, Or.inl rfl⟩ dX8_ordersOn_19 ?_
        refine lv_iload_n hx hb dX8_ordersOn_22 rfl (lv_at hl 1 rfl) ?_
        replace h := ck_e h
        obtain ⟨hk_305, h⟩ := h
        replace h := ck_e h
        obtain ⟨hq_306, h⟩ := h
        refine cw_iald cx w hk_305 hq_306 dX8_ordersOn_23 ?_
        refine lv_if_lt (tgt := 31) hx hb dX8_ordersOn_24 (by decide) (fun q => ?_) (fun q => ?_)
        · replace h := br_p q h
          exact J31   P0 h _ _ _ (lv_sub hl [] rfl) w
        · replace h := br_n q h
          exact J27   P0 h _ _ _ (lv_sub hl [] rfl) w
def hm_X8_wordAtPlace_28 (k4 : Int32 → Int32 → Int32 → Int32 → PS → Option (Int32 × PS)) (x0 : Int32) (x1 : Int32) (x2 : Int32) (x3 : Int32) (P : PS) : Option (Int32 × PS) := lt_ (x3 + (1 : Int32)) (fun x3_101 => k4 x0 x1 x2 x3_101 P)
def hm_X8_wordAtPlace_4 (k4 : Int32 → Int32 → Int32 → Int32 → PS → Option (Int32 × PS)) (x0 : Int32) (x1 : Int32) (x2 : Int32) (x3 : Int32) (P : PS) : Option (Int32 × PS) := if (14 : Int32) ≤ x3 then (some ((-1 : Int32), P)) else (bd (hm_X8_has  P x0 x3) (fun r_203 P_202 => if r_203 = (0 : Int32) then (hm_X8_wordAtPlace_28 k4 x0 x1 x2 x3 P_202) else (if x2 = x1 then (some (x3, P_202)) else (lt_ (x2 + (1 : Int32)) (fun x2_205 => hm_X8_wordAtPlace_28 k4 x0 x1 x2_205 x3 P_202)))))
def hm_X8_wordAtPlace_4L : Nat → Int32 → Int32 → Int32 → Int32 → PS → Option (Int32 × PS)
  | 0, _, _, _, _, _ => none
  | n + 1, x0, x1, x2, x3, P => hm_X8_wordAtPlace_4  (hm_X8_wordAtPlace_4L  n) x0 x1 x2 x3 P
def hm_X8_wordAtPlace (P : PS) (a1 : Int32) (a2 : Int32) : Option (Int32 × PS) := lt_ ((0 : Int32)) (fun x2_306 => lt_ ((0 : Int32)) (fun x3_307 => hm_X8_wordAtPlace_4L  4000 a1 a2 x2_306 x3_307 P))
abbrev wu_X8_wordAtPlace : List Cond := .code yX8_wordAtPlace cX8_wordAtPlace 4 (some .int) :: wsL_law
theorem ud_X8_wordAtPlace : yX8_wordAtPlace.cls = RX8 ∧ yX8_wordAtPlace.cls ≠ "java/lang/invoke/MethodHandle" ∧ yX8_wordAtPlace.cls ≠ "java/lang/invoke/VarHandle" ∧ (parseMethodDescriptor yX8_wordAtPlace.desc).map (fun d => d.parameters.length) = some 2 := by decide +kernel
abbrev rmc_X8_wordAtPlace : Room := { frames := 1, cells := 0, slots := 0, locals := 21 }
set_option maxHeartbeats 4000000 in
set_option maxRecDepth 100000 in
theorem hcc_X8_wordAtPlace (l : Launch) (D : va_G) (cs : Nat → ClassId) (t0 : TS) (P0 T : PS) (a1 : Int32) (a2 : Int32) (r0 : Int32) (h : hm_X8_wordAtPlace P0 a1 a2 = some (r0, T)) : MetCI l yX8_wordAtPlace wu_X8_wordAtPlace rmc_X8_wordAtPlace D cs t0 [.int a1, .int a2] P0 T r0 0 0 := by
  refine co_start (own := RX8) (ty := (some .int)) (cc := cX8_wordAtPlace) (maxL := 4) ⟨by decide, rfl⟩ rfl (Nat.le_of_ble_eq_true rfl) ?_
  intro p e s m args below meth c ls cx hnm hl w
  have hx := cx.1
  have hb := cx.2.1
  have hts := cx.2.2.2.1
  have hown := cx.2.2.2.2.1
  have hml := cx.2.2.2.2.2.2
  have hsub : ∀ w ∈ wsL_law, w ∈ wu_X8_wordAtPlace := fun _ hq => List.mem_cons_of_mem _ hq
  have hl : lv_has ls 4 [(0, .int a1), (1, .int a2)] := hl
  have J28 : ∀ (k4 : Int32 → Int32 → Int32 → Int32 → PS → Option (Int32 × PS)) (hk4 : ∀ (x0 : Int32) (x1 : Int32) (x2 : Int32) (x3 : Int32) (P : PS), k4 x0 x1 x2 x3 P = some (r0, T) → cGo p l e rmc_X8_wordAtPlace s m args below meth c 4 D cs t0 (pA P0) (cQI below D cs P0 args s 0 0 r0 T) 0 0 4 [(0, .int x0), (1, .int x1), (2, .int x2), (3, .int x3)] [] P) (x0 : Int32) (x1 : Int32) (x2 : Int32) (x3 : Int32) (P : PS), hm_X8_wordAtPlace_28 k4 x0 x1 x2 x3 P = some (r0, T) → cGo p l e rmc_X8_wordAtPlace s m args below meth c 4 D cs t0 (pA P0) (cQI below D cs P0 args s 0 0 r0 T) 0 0 28 [(0, .int x0), (1, .int x1), (2, .int x2), (3, .int x3)] [] P := by
    intro k4 hk4 x0 x1 x2 x3 P h H locs ls hl w
    unfold hm_X8_wordAtPlace_28 at h
    replace h := lt_e h
    obtain ⟨x3_101, ex3_101, h⟩ := h
    refine lv_iinc (v := x3_101) (lv' := [(3, .int x3_101), (0, .int x0), (1, .int x1), (2, .int x2)]) hx hb dX8_wordAtPlace_28 hl (k := 3) rfl (by rw [ex3_101]; rfl) (by decide) (rfl) (fun ls hl => ?_)
    refine lv_goto (tgt := 4) hx hb dX8_wordAtPlace_31 (by decide) ?_
    exact hk4 x0 x1 x2 x3_101 P h _ _ _ (lv_sub hl [1, 2, 3, 0] rfl) w
  have L4 : ∀ (n : Nat) (x0 : Int32) (x1 : Int32) (x2 : Int32) (x3 : Int32) (P : PS), hm_X8_wordAtPlace_4L  n x0 x1 x2 x3 P = some (r0, T) → cGo p l e rmc_X8_wordAtPlace s m args below meth c 4 D cs t0 (pA P0) (cQI below D cs P0 args s 0 0 r0 T) 0 0 4 [(0, .int x0), (1, .int x1), (2, .int x2), (3, .int x3)] [] P := by
    intro n
    induction n with
    | zero =>
      intro x0 x1 x2 x3 P h
      have h : none = some (r0, T) := h
      cases h
    | succ n hk4 =>
      intro x0 x1 x2 x3 P h H locs ls hl w
      have h : hm_X8_wordAtPlace_4  (hm_X8_wordAtPlace_4L  n) x0 x1 x2 x3 P = some (r0, T) := h
      generalize hm_X8_wordAtPlace_4L  n = k4 at h hk4
      unfold hm_X8_wordAtPlace_4 at h
      refine lv_iload_n hx hb dX8_wordAtPlace_4 rfl (lv_at hl 3 rfl) ?_
      refine lv_bipush (v := (14 : Int32)) hx hb dX8_wordAtPlace_5 (by decide) ?_
      refine lv_icmp_ge (tgt := 34) hx hb dX8_wordAtPlace_7 (by decide) (fun q => ?_) (fun q => ?_)
      · replace h := br_p q h
        refine lv_iconst (v := (-1 : Int32)) hx hb dX8_wordAtPlace_34 (by decide) ?_
        exact cw_iret cx (rt_e h) w dX8_wordAtPlace_35
      · replace h := br_n q h
        refine lv_iload_n hx hb dX8_wordAtPlace_10 rfl (lv_at hl 0 rfl) ?_
        refine lv_iload_n hx hb dX8_wordAtPlace_11 rfl (lv_at hl 3 rfl) ?_
        replace h := bd_e h
        obtain ⟨r_203, P_202, hc_204, h⟩ := h
        refine cc_i (cr_S (As := [.int x0, .int x3]) (rest := []) cx (hcc_X8_has l D cs t0  P P_202 x0 x3 r_203 hc_204) (va_cwS 2 hts (uGS uw_X8_has ul_RX8_105 ut_X8_has un_RX8) rfl rfl rfl ud_X8_has.2 ⟨Nat.le_of_ble_eq_true rfl, Nat.le_of_ble_eq_true rfl⟩) w rfl hl.1 rfl (Nat.le_of_ble_eq_true rfl) dX8_wordAtPlace_12 ⟨(Nat.le_of_ble_eq_true rfl), (Nat.le_of_ble_eq_true rfl)⟩) (fun H locs w => ?_)
        refine lv_if_eq (tgt := 28) hx hb dX8_wordAtPlace_15 (by decide) (fun q => ?_) (fun q => ?_)
        · replace h := br_p q h
          exact J28 k4 hk4 x0 x1 x2 x3 P_202 h _ _ _ (lv_sub hl [0, 1, 2, 3] rfl) w
        · replace h := br_n q h
          refine lv_iload_n hx hb dX8_wordAtPlace_18 rfl (lv_at hl 2 rfl) ?_
          refine lv_iload_n hx hb dX8_wordAtPlace_19 rfl (lv_at hl 1 rfl) ?_
          refine lv_icmp_ne (tgt := 25) hx hb dX8_wordAtPlace_20 (by decide) (fun q => ?_) (fun q => ?_)
          · replace h := br_n q h
            replace h := lt_e h
            obtain ⟨x2_205, ex2_205, h⟩ := h
            refine lv_iinc (v := x2_205) (lv' := [(2, .int x2_205), (0, .int x0), (1, .int x1), (3, .int x3)]) hx hb dX8_wordAtPlace_25 hl (k := 2) rfl (by rw [ex2_205]; rfl) (by decide) (rfl) (fun ls hl => ?_)
            exact J28 k4 hk4 x0 x1 x2_205 x3 P_202 h _ _ _ (lv_sub hl [1, 2, 0, 3] rfl) w
          · replace h := br_p q h
            refine lv_iload_n hx hb dX8_wordAtPlace_23 rfl (lv_at hl 3 rfl) ?_
            exact cw_iret cx (rt_e h) w dX8_wordAtPlace_24
  have hP0 : P0 = P0 := rfl
  unfold hm_X8_wordAtPlace at h
  refine lv_iconst (v := (0 : Int32)) hx hb dX8_wordAtPlace_0 (by decide) ?_
  replace h := lt_e h
  obtain ⟨x2_306, ex2_306, h⟩ := h
  refine top_i ex2_306 ?_
  refine lv_istore_n (lv' := [(2, .int x2_306), (0, .int a1), (1, .int a2)]) hx hb dX8_wordAtPlace_1 rfl hl (by decide) (rfl) (fun ls hl => ?_)
  refine lv_iconst (v := (0 : Int32)) hx hb dX8_wordAtPlace_2 (by decide) ?_
  replace h := lt_e h
  obtain ⟨x3_307, ex3_307, h⟩ := h
  refine top_i ex3_307 ?_
  refine lv_istore_n (lv' := [(3, .int x3_307), (2, .int x2_306), (0, .int a1), (1, .int a2)]) hx hb dX8_wordAtPlace_3 rfl hl (by decide) (rfl) (fun ls hl => ?_)
  exact L4  4000 a1 a2 x2_306 x3_307 P0 h _ _ _ (lv_sub hl [2, 3, 1, 0] rfl) w
def hm_X8_wordsAtPlaces_36 (k4 : Int32 → Int32 → Int32 → Int32 → PS → Option (Int32 × PS)) (x0 : Int32) (x1 : Int32) (x2 : Int32) (x3 : Int32) (P : PS) : Option (Int32 × PS) := lt_ (x3 + (1 : Int32)) (fun x3_101 => k4 x0 x1 x2 x3_101 P)
def hm_X8_wordsAtPlaces_4 (k4 : Int32 → Int32 → Int32 → Int32 → PS → Option (Int32 × PS)) (x0 : Int32) (x1 : Int32) (x2 : Int32) (x3 : Int32) (P : PS) : Option (Int32 × PS) := if (5 : Int32) ≤ x3 then (some (x2, P)) else (bd (hm_X8_wordAtPlace  P x0 x3) (fun r_203 P_202 => if r_203 < (0 : Int32) then (hm_X8_wordsAtPlaces_36 k4 x0 x1 x2 x3 P_202) else (bd (hm_X8_has  P_202 x1 x3) (fun r_206 P_205 => if r_206 = (0 : Int32) then (hm_X8_wordsAtPlaces_36 k4 x0 x1 x2 x3 P_205) else (lt_ ((x2 ||| ((1 : Int32) <<< (r_203 &&& 31)))) (fun x2_208 => hm_X8_wordsAtPlaces_36 k4 x0 x1 x2_208 x3 P_205))))))
def hm_X8_wordsAtPlaces_4L : Nat → Int32 → Int32 → Int32 → Int32 → PS → Option (Int32 × PS)
  | 0, _, _, _, _, _ => none
  | n + 1, x0, x1, x2, x3, P => hm_X8_wordsAtPlaces_4  (hm_X8_wordsAtPlaces_4L  n) x0 x1 x2 x3 P
def hm_X8_wordsAtPlaces (P : PS) (a1 : Int32) (a2 : Int32) : Option (Int32 × PS) := lt_ ((0 : Int32)) (fun x2_309 => lt_ ((0 : Int32)) (fun x3_310 => hm_X8_wordsAtPlaces_4L  4000 a1 a2 x2_309 x3_310 P))
abbrev wu_X8_wordsAtPlaces : List Cond := .code yX8_wordsAtPlaces cX8_wordsAtPlaces 5 (some .int) :: wsL_law
theorem ud_X8_wordsAtPlaces : yX8_wordsAtPlaces.cls = RX8 ∧ yX8_wordsAtPlaces.cls ≠ "java/lang/invoke/MethodHandle" ∧ yX8_wordsAtPlaces.cls ≠ "java/lang/invoke/VarHandle" ∧ (parseMethodDescriptor yX8_wordsAtPlaces.desc).map (fun d => d.parameters.length) = some 2 := by decide +kernel
abbrev rmc_X8_wordsAtPlaces : Room := { frames := 2, cells := 0, slots := 0, locals := 44 }
set_option maxHeartbeats 4000000 in
set_option maxRecDepth 100000 in
theorem hcc_X8_wordsAtPlaces (l : Launch) (D : va_G) (cs : Nat → ClassId) (t0 : TS) (P0 T : PS) (a1 : Int32) (a2 : Int32) (r0 : Int32) (h : hm_X8_wordsAtPlaces P0 a1 a2 = some (r0, T)) : MetCI l yX8_wordsAtPlaces wu_X8_wordsAtPlaces rmc_X8_wordsAtPlaces D cs t0 [.int a1, .int a2] P0 T r0 0 0 := by
  refine co_start (own := RX8) (ty := (some .int)) (cc := cX8_wordsAtPlaces) (maxL := 5) ⟨by decide, rfl⟩ rfl (Nat.le_of_ble_eq_true rfl) ?_
  intro p e s m args below meth c ls cx hnm hl w
  have hx := cx.1
  have hb := cx.2.1
  have hts := cx.2.2.2.1
  have hown := cx.2.2.2.2.1
  have hml := cx.2.2.2.2.2.2
  have hsub : ∀ w ∈ wsL_law, w ∈ wu_X8_wordsAtPlaces := fun _ hq => List.mem_cons_of_mem _ hq
  have hl : lv_has ls 5 [(0, .int a1), (1, .int a2)] := hl
  have J36 : ∀ (k4 : Int32 → Int32 → Int32 → Int32 → PS → Option (Int32 × PS)) (hk4 : ∀ (x0 : Int32) (x1 : Int32) (x2 : Int32) (x3 : Int32) (P : PS), k4 x0 x1 x2 x3 P = some (r0, T) → cGo p l e rmc_X8_wordsAtPlaces s m args below meth c 5 D cs t0 (pA P0) (cQI below D cs P0 args s 0 0 r0 T) 0 0 4 [(0, .int x0), (1, .int x1), (2, .int x2), (3, .int x3)] [] P) (x0 : Int32) (x1 : Int32) (x2 : Int32) (x3 : Int32) (P : PS), hm_X8_wordsAtPlaces_36 k4 x0 x1 x2 x3 P = some (r0, T) → cGo p l e rmc_X8_wordsAtPlaces s m args below meth c 5 D cs t0 (pA P0) (cQI below D cs P0 args s 0 0 r0 T) 0 0 36 [(0, .int x0), (1, .int x1), (2, .int x2), (3, .int x3)] [] P := by
    intro k4 hk4 x0 x1 x2 x3 P h H locs ls hl w
    unfold hm_X8_wordsAtPlaces_36 at h
    replace h := lt_e h
    obtain ⟨x3_101, ex3_101, h⟩ := h
    refine lv_iinc (v := x3_101) (lv' := [(3, .int x3_101), (0, .int x0), (1, .int x1), (2, .int x2)]) hx hb dX8_wordsAtPlaces_36 hl (k := 3) rfl (by rw [ex3_101]; rfl) (by decide) (rfl) (fun ls hl => ?_)
    refine lv_goto (tgt := 4) hx hb dX8_wordsAtPlaces_39 (by decide) ?_
    exact hk4 x0 x1 x2 x3_101 P h _ _ _ (lv_sub hl [1, 2, 3, 0] rfl) w
  have L4 : ∀ (n : Nat) (x0 : Int32) (x1 : Int32) (x2 : Int32) (x3 : Int32) (P : PS), hm_X8_wordsAtPlaces_4L  n x0 x1 x2 x3 P = some (r0, T) → cGo p l e rmc_X8_wordsAtPlaces s m args below meth c 5 D cs t0 (pA P0) (cQI below D cs P0 args s 0 0 r0 T) 0 0 4 [(0, .int x0), (1, .int x1), (2, .int x2), (3, .int x3)] [] P := by
    intro n
    induction n with
    | zero =>
      intro x0 x1 x2 x3 P h
      have h : none = some (r0, T) := h
      cases h
    | succ n hk4 =>
      intro x0 x1 x2 x3 P h H locs ls hl w
      have h : hm_X8_wordsAtPlaces_4  (hm_X8_wordsAtPlaces_4L  n) x0 x1 x2 x3 P = some (r0, T) := h
      generalize hm_X8_wordsAtPlaces_4L  n = k4 at h hk4
      unfold hm_X8_wordsAtPlaces_4 at h
      refine lv_iload_n hx hb dX8_wordsAtPlaces_4 rfl (lv_at hl 3 rfl) ?_
      refine lv_iconst (v := (5 : Int32)) hx hb dX8_wordsAtPlaces_5 (by decide) ?_
      refine lv_icmp_ge (tgt := 42) hx hb dX8_wordsAtPlaces_6 (by decide) (fun q => ?_) (fun q => ?_)
      · replace h := br_p q h
        refine lv_iload_n hx hb dX8_wordsAtPlaces_42 rfl (lv_at hl 2 rfl) ?_
        exact cw_iret cx (rt_e h) w dX8_wordsAtPlaces_43
      · replace h := br_n q h
        refine lv_iload_n hx hb dX8_wordsAtPlaces_9 rfl (lv_at hl 0 rfl) ?_
        refine lv_iload_n hx hb dX8_wordsAtPlaces_10 rfl (lv_at hl 3 rfl) ?_
        replace h := bd_e h
        obtain ⟨r_203, P_202, hc_204, h⟩ := h
        refine cc_i (cr_S (As := [.int x0, .int x3]) (rest := []) cx (hcc_X8_wordAtPlace l D cs t0  P P_202 x0 x3 r_203 hc_204) (va_cwS 2 hts (uGS uw_X8_wordAtPlace ul_RX8_316 ut_X8_wordAtPlace un_RX8) rfl rfl rfl ud_X8_wordAtPlace.2 ⟨Nat.le_of_ble_eq_true rfl, Nat.le_of_ble_eq_true rfl⟩) w rfl hl.1 rfl (Nat.le_of_ble_eq_true rfl) dX8_wordsAtPlaces_11 ⟨(Nat.le_of_ble_eq_true rfl), (Nat.le_of_ble_eq_true rfl)⟩) (fun H locs w => ?_)
        refine lv_istore (lv' := [(4, .int r_203), (0, .int x0), (1, .int x1), (2, .int x2), (3, .int x3)]) hx hb dX8_wordsAtPlaces_14 hl (by decide) (rfl) (fun ls hl => ?_)
        refine lv_iload hx hb dX8_wordsAtPlaces_16 (lv_at hl 0 rfl) ?_
        refine lv_if_lt (tgt := 36) hx hb dX8_wordsAtPlaces_18 (by decide) (fun q => ?_) (fun q => ?_)
        · replace h := br_p q h
          exact J36 k4 hk4 x0 x1 x2 x3 P_202 h _ _ _ (lv_sub hl [1, 2, 3, 4] rfl) w
        · replace h := br_n q h
          refine lv_iload_n hx hb dX8_wordsAtPlaces_21 rfl (lv_at hl 2 rfl) ?_
          refine lv_iload_n hx hb dX8_wordsAtPlaces_22 rfl (lv_at hl 4 rfl) ?_
          replace h := bd_e h
          obtain ⟨r_206, P_205, hc_207, h⟩ := h
          refine cc_i (cr_S (As := [.int x1, .int x3]) (rest := []) cx (hcc_X8_has l D cs t0  P_202 P_205 x1 x3 r_206 hc_207) (va_cwS 2 hts (uGS uw_X8_has ul_RX8_105 ut_X8_has un_RX8) rfl rfl rfl ud_X8_has.2 ⟨Nat.le_of_ble_eq_true rfl, Nat.le_of_ble_eq_true rfl⟩) w rfl hl.1 rfl (Nat.le_of_ble_eq_true rfl) dX8_wordsAtPlaces_23 ⟨(Nat.le_of_ble_eq_true rfl), (Nat.le_of_ble_eq_true rfl)⟩) (fun H locs w => ?_)
          refine lv_if_eq (tgt := 36) hx hb dX8_wordsAtPlaces_26 (by decide) (fun q => ?_) (fun q => ?_)
          · replace h := br_p q h
            exact J36 k4 hk4 x0 x1 x2 x3 P_205 h _ _ _ (lv_sub hl [1, 2, 3, 4] rfl) w
          · replace h := br_n q h
            refine lv_iload_n hx hb dX8_wordsAtPlaces_29 rfl (lv_at hl 3 rfl) ?_
            refine lv_iconst (v := (1 : Int32)) hx hb dX8_wordsAtPlaces_30 (by decide) ?_
            refine lv_iload hx hb dX8_wordsAtPlaces_31 (lv_at hl 0 rfl) ?_
            refine lv_ishl hx hb dX8_wordsAtPlaces_33 ?_
            refine lv_ior hx hb dX8_wordsAtPlaces_34 ?_
            replace h := lt_e h
            obtain ⟨x2_208, ex2_208, h⟩ := h
            refine top_i ex2_208 ?_
            refine lv_istore_n (lv' := [(2, .int x2_208), (4, .int r_203), (0, .int x0), (1, .int x1), (3, .int x3)]) hx hb dX8_wordsAtPlaces_35 rfl hl (by decide) (rfl) (fun ls hl => ?_)
            exact J36 k4 hk4 x0 x1 x2_208 x3 P_205 h _ _ _ (lv_sub hl [2, 3, 0, 4] rfl) w
  have hP0 : P0 = P0 := rfl
  unfold hm_X8_wordsAtPlaces at h
  refine lv_iconst (v := (0 : Int32)) hx hb dX8_wordsAtPlaces_0 (by decide) ?_
  replace h := lt_e h
  obtain ⟨x2_309, ex2_309, h⟩ := h
  refine top_i ex2_309 ?_
  refine lv_istore_n (lv' := [(2, .int x2_309), (0, .int a1), (1, .int a2)]) hx hb dX8_wordsAtPlaces_1 rfl hl (by decide) (rfl) (fun ls hl => ?_)
  refine lv_iconst (v := (0 : Int32)) hx hb dX8_wordsAtPlaces_2 (by decide) ?_
  replace h := lt_e h
  obtain ⟨x3_310, ex3_310, h⟩ := h
  refine top_i ex3_310 ?_
  refine lv_istore_n (lv' := [(3, .int x3_310), (2, .int x2_309), (0, .int a1), (1, .int a2)]) hx hb dX8_wordsAtPlaces_3 rfl hl (by decide) (rfl) (fun ls hl => ?_)
  exact L4  4000 a1 a2 x2_309 x3_310 P0 h _ _ _ (lv_sub hl [2, 3, 1, 0] rfl) w
def hm_X8_findOrder_172 (k18 : Nat → Int32 → Int32 → Int32 → Int32 → Int32 → PS → Option (Int32 × PS)) (k106 : Nat → Int32 → Int32 → Int32 → Int32 → Int32 → Int32 → Int32 → PS → Option (Int32 × PS)) (o0 : Nat) (x1 : Int32) (x2 : Int32) (x3 : Int32) (x4 : Int32) (x5 : Int32) (x9 : Int32) (x10 : Int32) (P : PS) : Option (Int32 × PS) := lt_ (x10 + (-1 : Int32)) (fun x10_101 => k106 o0 x1 x2 x3 x4 x5 x9 x10_101 P)
def hm_X8_findOrder_140 (k18 : Nat → Int32 → Int32 → Int32 → Int32 → Int32 → PS → Option (Int32 × PS)) (k106 : Nat → Int32 → Int32 → Int32 → Int32 → Int32 → Int32 → Int32 → PS → Option (Int32 × PS)) (o0 : Nat) (x1 : Int32) (x2 : Int32) (x3 : Int32) (x4 : Int32) (x5 : Int32) (x9 : Int32) (x10 : Int32) (sv0 : Int32) (P : PS) : Option (Int32 × PS) := if sv0 = (0 : Int32) then (hm_X8_findOrder_172 k18 k106 o0 x1 x2 x3 x4 x5 x9 x10 P) else (bd (hm_X8_ordersOn  P o0 (x5 ||| ((1 : Int32) <<< (x10 &&& 31))) x4) (fun r_203 P_202 => ck (kk P o0 9) (if r_203 = (0 : Int32) then (hm_X8_findOrder_172 k18 k106 o0 x1 x2 x3 x4 x5 x9 x10 P_202) else (ck (kk P_202 o0 9) (nn (pR P_202 o0 9) (fun b_207 => ck (kk P_202 b_207 12) (ck (vin x5 (pN P_202 b_207)) (lt_ (pIu P_202 b_207 (x5).toNatClampNeg x10) (fun P_210 => hm_X8_findOrder_172 k18 k106 o0 x1 x2 x3 x4 x5 x9 x10 P_210)))))))))
def hm_X8_findOrder_139 (k18 : Nat → Int32 → Int32 → Int32 → Int32 → Int32 → PS → Option (Int32 × PS)) (k106 : Nat → Int32 → Int32 → Int32 → Int32 → Int32 → Int32 → Int32 → PS → Option (Int32 × PS)) (o0 : Nat) (x1 : Int32) (x2 : Int32) (x3 : Int32) (x4 : Int32) (x5 : Int32) (x9 : Int32) (x10 : Int32) (P : PS) : Option (Int32 × PS) := hm_X8_findOrder_140 k18 k106 o0 x1 x2 x3 x4 x5 x9 x10 (0 : Int32) P
def hm_X8_findOrder_106 (k18 : Nat → Int32 → Int32 → Int32 → Int32 → Int32 → PS → Option (Int32 × PS)) (k106 : Nat → Int32 → Int32 → Int32 → Int32 → Int32 → Int32 → Int32 → PS → Option (Int32 × PS)) (o0 : Nat) (x1 : Int32) (x2 : Int32) (x3 : Int32) (x4 : Int32) (x5 : Int32) (x9 : Int32) (x10 : Int32) (P : PS) : Option (Int32 × PS) := if x10 < (0 : Int32) then (lt_ (x5 + (-1 : Int32)) (fun x5_411 => k18 o0 x1 x2 x3 x4 x5_411 P)) else (bd (hm_X8_has  P x5 x10) (fun r_413 P_412 => if r_413 = (0 : Int32) then (bd (hm_X8_wordAtPlace  P_412 x1 x10) (fun r_416 P_415 => bd (hm_X8_has  P_415 x9 r_416) (fun r_419 P_418 => if r_419 = (0 : Int32) then (hm_X8_findOrder_139 k18 k106 o0 x1 x2 x3 x4 x5 x9 x10 P_418) else (hm_X8_findOrder_140 k18 k106 o0 x1 x2 x3 x4 x5 x9 x10 (1 : Int32) P_418)))) else (hm_X8_findOrder_139 k18 k106 o0 x1 x2 x3 x4 x5 x9 x10 P_412)))
def hm_X8_findOrder_106L (k18 : Nat → Int32 → Int32 → Int32 → Int32 → Int32 → PS → Option (Int32 × PS)) : Nat → Nat → Int32 → Int32 → Int32 → Int32 → Int32 → Int32 → Int32 → PS → Option (Int32 × PS)
  | 0, _, _, _, _, _, _, _, _, _ => none
  | n + 1, o0, x1, x2, x3, x4, x5, x9, x10, P => hm_X8_findOrder_106 k18 (hm_X8_findOrder_106L k18 n) o0 x1 x2 x3 x4 x5 x9 x10 P
def hm_X8_findOrder_184 (o0 : Nat) (x4 : Int32) (P : PS) : Option (Int32 × PS) := bd (hm_X8_ordersOn  P o0 (0 : Int32) x4) (fun r_522 P_521 => ck (kk P o0 9) (ck (z01 r_522) (some (r_522, P_521))))
def hm_X8_findOrder_18 (k18 : Nat → Int32 → Int32 → Int32 → Int32 → Int32 → PS → Option (Int32 × PS)) (o0 : Nat) (x1 : Int32) (x2 : Int32) (x3 : Int32) (x4 : Int32) (x5 : Int32) (P : PS) : Option (Int32 × PS) := if x5 < (0 : Int32) then (hm_X8_findOrder_184  o0 x4 P) else (ck (kk P o0 9) (nn (pR P o0 9) (fun b_627 => ck (kk P b_627 12) (if (nI (pN P b_627)) ≤ x5 then (hm_X8_findOrder_184  o0 x4 P) else (bd (hm_X8_wordsAtPlaces  P x1 x5) (fun r_630 P_629 => lt_ ((x1 &&& (r_630 ^^^ (-1 : Int32)))) (fun x7_632 => ck (kk P_629 o0 9) (nn (pR P_629 o0 4) (fun b_634 => ck (kk P_629 b_634 6) (bd (hm_X8_factsOf  P_629 o0 r_630) (fun r_637 P_636 => ck (kk P_636 o0 9) (nn (pR P_636 o0 4) (fun b_640 => ck (kk P_636 b_640 6) (bd (hm_X8_suppose  P_636 o0 ((pI P_629 b_634 0) ||| r_637) (pI P_636 b_640 1) r_630) (fun o_643 P_642 => bd (hm_X8_withParts  P_642 o0 x7_632) (fun r_646 P_645 => ck (kk P_642 o0 9) (nn o_643 (fun b_649 => bd (hm_X8_heardToPartsEnd  P_645 o0 r_646 x2 b_649) (fun r_651 P_650 => ck (kk P_645 o0 9) (ck (kk P_650 o0 9) (nn (pR P_650 o0 9) (fun b_655 => ck (kk P_650 b_655 12) (ck (vin x5 (pN P_650 b_655)) (lt_ (pIu P_650 b_655 (x5).toNatClampNeg (-1 : Int32)) (fun P_658 => lt_ ((x3 - (1 : Int32))) (fun x10_659 => hm_X8_findOrder_106L k18 4000 o0 x1 x2 x3 x4 x5 r_651 x10_659 P_658))))))))))))))))))))))))))
def hm_X8_findOrder_18L : Nat → Nat → Int32 → Int32 → Int32 → Int32 → Int32 → PS → Option (Int32 × PS)
  | 0, _, _, _, _, _, _, _ => none
  | n + 1, o0, x1, x2, x3, x4, x5, P => hm_X8_findOrder_18  (hm_X8_findOrder_18L  n) o0 x1 x2 x3 x4 x5 P
def hm_X8_findOrder (P : PS) (th : Nat) (a1 : Int32) (a2 : Int32) : Option (Int32 × PS) := bd (hm_J6_bitCount_0f7a4  P a1) (fun r_761 P_760 => lt_ ((((1 : Int32) <<< (r_761 &&& 31)) - (1 : Int32))) (fun x4_763 => lt_ ((x4_763 - (1 : Int32))) (fun x5_764 => hm_X8_findOrder_18L  4000 th a1 a2 r_761 x4_763 x5_764 P_760)))
abbrev wu_X8_findOrder : List Cond := .code yX8_findOrder cX8_findOrder 12 (some .boolean) :: wsL_law
theorem ud_X8_findOrder : yX8_findOrder.cls = RX8 ∧ yX8_findOrder.cls ≠ "java/lang/invoke/MethodHandle" ∧ yX8_findOrder.cls ≠ "java/lang/invoke/VarHandle" ∧ (parseMethodDescriptor yX8_findOrder.desc).map (fun d => d.parameters.length) = some 2 := by decide +kernel
abbrev rmc_X8_findOrder : Room := { frames := 7, cells := 0, slots := 0, locals := 162 }
set_option maxHeartbeats 4000000 in
set_option maxRecDepth 100000 in
theorem hcc_X8_findOrder (l : Launch) (D : va_G) (cs : Nat → ClassId) (t0 : TS) (P0 T : PS) (th : Nat) (a1 : Int32) (a2 : Int32) (r0 : Int32) (h : hm_X8_findOrder P0 th a1 a2 = some (r0, T)) : MetCI l yX8_findOrder wu_X8_findOrder rmc_X8_findOrder D cs t0 [.ref th, .int a1, .int a2] P0 T r0 0 0 := by
  refine co_start (own := RX8) (ty := (some .boolean)) (cc := cX8_findOrder) (maxL := 12) ⟨by decide, rfl⟩ rfl (Nat.le_of_ble_eq_true rfl) ?_
  intro p e s m args below meth c ls cx hnm hl w
  have hx := cx.1
  have hb := cx.2.1
  have hts := cx.2.2.2.1
  have hown := cx.2.2.2.2.1
  have hml := cx.2.2.2.2.2.2
  have hsub : ∀ w ∈ wsL_law, w ∈ wu_X8_findOrder := fun _ hq => List.mem_cons_of_mem _ hq
  have hl : lv_has ls 12 [(0, .ref th), (1, .int a1), (2, .int a2)] := hl
  have J172 : ∀ (k18 : Nat → Int32 → Int32 → Int32 → Int32 → Int32 → PS → Option (Int32 × PS)) (hk18 : ∀ (o0 : Nat) (x1 : Int32) (x2 : Int32) (x3 : Int32) (x4 : Int32) (x5 : Int32) (P : PS), k18 o0 x1 x2 x3 x4 x5 P = some (r0, T) → cGo p l e rmc_X8_findOrder s m args below meth c 12 D cs t0 (pA P0) (cQI below D cs P0 args s 0 0 r0 T) 0 0 18 [(0, .ref o0), (1, .int x1), (2, .int x2), (3, .int x3), (4, .int x4), (5, .int x5)] [] P) (k106 : Nat → Int32 → Int32 → Int32 → Int32 → Int32 → Int32 → Int32 → PS → Option (Int32 × PS)) (hk106 : ∀ (o0 : Nat) (x1 : Int32) (x2 : Int32) (x3 : Int32) (x4 : Int32) (x5 : Int32) (x9 : Int32) (x10 : Int32) (P : PS), k106 o0 x1 x2 x3 x4 x5 x9 x10 P = some (r0, T) → cGo p l e rmc_X8_findOrder s m args below meth c 12 D cs t0 (pA P0) (cQI below D cs P0 args s 0 0 r0 T) 0 0 106 [(0, .ref o0), (1, .int x1), (2, .int x2), (3, .int x3), (4, .int x4), (5, .int x5), (9, .int x9), (10, .int x10)] [] P) (o0 : Nat) (x1 : Int32) (x2 : Int32) (x3 : Int32) (x4 : Int32) (x5 : Int32) (x9 : Int32) (x10 : Int32) (P : PS), hm_X8_findOrder_172 k18 k106 o0 x1 x2 x3 x4 x5 x9 x10 P = some (r0, T) → cGo p l e rmc_X8_findOrder s m args below meth c 12 D cs t0 (pA P0) (cQI below D cs P0 args s 0 0 r0 T) 0 0 172 [(0, .ref o0), (1, .int x1), (2, .int x2), (3, .int x3), (4, .int x4), (5, .int x5), (9, .int x9), (10, .int x10)] [] P := by
    intro k18 hk18 k106 hk106 o0 x1 x2 x3 x4 x5 x9 x10 P h H locs ls hl w
    unfold hm_X8_findOrder_172 at h
    replace h := lt_e h
    obtain ⟨x10_101, ex10_101, h⟩ := h
    refine lv_iinc (v := x10_101) (lv' := [(10, .int x10_101), (0, .ref o0), (1, .int x1), (2, .int x2), (3, .int x3), (4, .int x4), (5, .int x5), (9, .int x9)]) hx hb dX8_findOrder_172 hl (k := 7) rfl (by rw [ex10_101]; rfl) (by decide) (rfl) (fun ls hl => ?_)
    refine lv_goto (tgt := 106) hx hb dX8_findOrder_175 (by decide) ?_
    exact hk106 o0 x1 x2 x3 x4 x5 x9 x10_101 P h _ _ _ (lv_sub hl [1, 2, 3, 4, 5, 6, 7, 0] rfl) w
  have J140 : ∀ (k18 : Nat → Int32 → Int32 → Int32 → Int32 → Int32 → PS → Option (Int32 × PS)) (hk18 : ∀ (o0 : Nat) (x1 : Int32) (x2 : Int32) (x3 : Int32) (x4 : Int32) (x5 : Int32) (P : PS), k18 o0 x1 x2 x3 x4 x5 P = some (r0, T) → cGo p l e rmc_X8_findOrder s m args below meth c 12 D cs t0 (pA P0) (cQI below D cs P0 args s 0 0 r0 T) 0 0 18 [(0, .ref o0), (1, .int x1), (2, .int x2), (3, .int x3), (4, .int x4), (5, .int x5)] [] P) (k106 : Nat → Int32 → Int32 → Int32 → Int32 → Int32 → Int32 → Int32 → PS → Option (Int32 × PS)) (hk106 : ∀ (o0 : Nat) (x1 : Int32) (x2 : Int32) (x3 : Int32) (x4 : Int32) (x5 : Int32) (x9 : Int32) (x10 : Int32) (P : PS), k106 o0 x1 x2 x3 x4 x5 x9 x10 P = some (r0, T) → cGo p l e rmc_X8_findOrder s m args below meth c 12 D cs t0 (pA P0) (cQI below D cs P0 args s 0 0 r0 T) 0 0 106 [(0, .ref o0), (1, .int x1), (2, .int x2), (3, .int x3), (4, .int x4), (5, .int x5), (9, .int x9), (10, .int x10)] [] P) (o0 : Nat) (x1 : Int32) (x2 : Int32) (x3 : Int32) (x4 : Int32) (x5 : Int32) (x9 : Int32) (x10 : Int32) (sv0 : Int32) (P : PS), hm_X8_findOrder_140 k18 k106 o0 x1 x2 x3 x4 x5 x9 x10 sv0 P = some (r0, T) → cGo p l e rmc_X8_findOrder s m args below meth c 12 D cs t0 (pA P0) (cQI below D cs P0 args s 0 0 r0 T) 0 0 140 [(0, .ref o0), (1, .int x1), (2, .int x2), (3, .int x3), (4, .int x4), (5, .int x5), (9, .int x9), (10, .int x10)] [.int sv0] P := by
    intro k18 hk18 k106 hk106 o0 x1 x2 x3 x4 x5 x9 x10 sv0 P h H locs ls hl w
    unfold hm_X8_findOrder_140 at h
    refine lv_istore (lv' := [(11, .int sv0), (0, .ref o0), (1, .int x1), (2, .int x2), (3, .int x3), (4, .int x4), (5, .int x5), (9, .int x9), (10, .int x10)]) hx hb dX8_findOrder_140 hl (by decide) (rfl) (fun ls hl => ?_)
    refine lv_iload hx hb dX8_findOrder_142 (lv_at hl 0 rfl) ?_
    refine lv_if_eq (tgt := 172) hx hb dX8_findOrder_144 (by decide) (fun q => ?_) (fun q => ?_)
    · replace h := br_p q h
      exact J172 k18 hk18 k106 hk106 o0 x1 x2 x3 x4 x5 x9 x10 P h _ _ _ (lv_sub hl [1, 2, 3, 4, 5, 6, 7, 8] rfl) w
    · replace h := br_n q h
      refine lv_aload_n hx hb dX8_findOrder_147 rfl (lv_at hl 1 rfl) ?_
      refine lv_iload hx hb dX8_findOrder_148 (lv_at hl 6 rfl) ?_
      refine lv_iconst (v := (1 : Int32)) hx hb dX8_findOrder_150 (by decide) ?_
      refine lv_iload hx hb dX8_findOrder_151 (lv_at hl 8 rfl) ?_
      refine lv_ishl hx hb dX8_findOrder_153 ?_
      refine lv_ior hx hb dX8_findOrder_154 ?_
      refine lv_iload hx hb dX8_findOrder_155 (lv_at hl 5 rfl) ?_
      replace h := bd_e h
      obtain ⟨r_203, P_202, hc_204, h⟩ := h
      replace h := ck_e h
      obtain ⟨hk_205, h⟩ := h
      refine cc_i (cr_V (As := [.int (x5 ||| ((1 : Int32) <<< (x10 &&& 31))), .int x4]) (rest := []) cx (hcc_X8_ordersOn l D cs t0  P P_202 o0 (x5 ||| ((1 : Int32) <<< (x10 &&& 31))) x4 r_203 hc_204) kT9 hk_205 (cwV 2 hts (uG uw_X8_ordersOn ul_RX8_319 ui_X8_ordersOn us_RX8_X8_ordersOn un_RX8) rfl rfl rfl ud_X8_ordersOn ⟨Nat.le_of_ble_eq_true rfl, Nat.le_of_ble_eq_true rfl⟩) w rfl hl.1 rfl (Nat.le_of_ble_eq_true rfl) dX8_findOrder_157 ⟨(Nat.le_of_ble_eq_true rfl), (Nat.le_of_ble_eq_true rfl)⟩) (fun H locs w => ?_)
      refine lv_if_eq (tgt := 172) hx hb dX8_findOrder_160 (by decide) (fun q => ?_) (fun q => ?_)
      · replace h := br_p q h
        exact J172 k18 hk18 k106 hk106 o0 x1 x2 x3 x4 x5 x9 x10 P_202 h _ _ _ (lv_sub hl [1, 2, 3, 4, 5, 6, 7, 8] rfl) w
      · replace h := br_n q h
        refine lv_aload_n hx hb dX8_findOrder_163 rfl (lv_at hl 1 rfl) ?_
        replace h := ck_e h
        obtain ⟨hk_206, h⟩ := h
        replace h := nn_e h
        obtain ⟨b_207, hbb_207, h⟩ := h
        refine cw_getS cx hsub w kT9 hk_206 9 (by decide) hbb_207 ⟨hsub _ uf_RX8_60, Or.inl rfl⟩ dX8_findOrder_164 ?_
        refine lv_iload hx hb dX8_findOrder_167 (lv_at hl 6 rfl) ?_
        refine lv_iload hx hb dX8_findOrder_169 (lv_at hl 8 rfl) ?_
        replace h := ck_e h
        obtain ⟨hk_208, h⟩ := h
        replace h := ck_e h
        obtain ⟨hq_209, h⟩ := h
        replace h := lt_e h
        obtain ⟨P_210, eP_210, h⟩ := h
        refine cw_iast cx w hk_208 hq_209 eP_210 dX8_findOrder_171 (fun H locs w => ?_)
        exact J172 k18 hk18 k106 hk106 o0 x1 x2 x3 x4 x5 x9 x10 P_210 h _ _ _ (lv_sub hl [1, 2, 3, 4, 5, 6, 7, 8] rfl) w
  have J139 : ∀ (k18 : Nat → Int32 → Int32 → Int32 → Int32 → Int32 → PS → Option (Int32 × PS)) (hk18 : ∀ (o0 : Nat) (x1 : Int32) (x2 : Int32) (x3 : Int32) (x4 : Int32) (x5 : Int32) (P : PS), k18 o0 x1 x2 x3 x4 x5 P = some (r0, T) → cGo p l e rmc_X8_findOrder s m args below meth c 12 D cs t0 (pA P0) (cQI below D cs P0 args s 0 0 r0 T) 0 0 18 [(0, .ref o0), (1, .int x1), (2, .int x2), (3, .int x3), (4, .int x4), (5, .int x5)] [] P) (k106 : Nat → Int32 → Int32 → Int32 → Int32 → Int32 → Int32 → Int32 → PS → Option (Int32 × PS)) (hk106 : ∀ (o0 : Nat) (x1 : Int32) (x2 : Int32) (x3 : Int32) (x4 : Int32) (x5 : Int32) (x9 : Int32) (x10 : Int32) (P : PS), k106 o0 x1 x2 x3 x4 x5 x9 x10 P = some (r0, T) → cGo p l e rmc_X8_findOrder s m args below meth c 12 D cs t0 (pA P0) (cQI below D cs P0 args s 0 0 r0 T) 0 0 106 [(0, .ref o0), (1, .int x1), (2, .int x2), (3, .int x3), (4, .int x4), (5, .int x5), (9, .int x9), (10, .int x10)] [] P) (o0 : Nat) (x1 : Int32) (x2 : Int32) (x3 : Int32) (x4 : Int32) (x5 : Int32) (x9 : Int32) (x10 : Int32) (P : PS), hm_X8_findOrder_139 k18 k106 o0 x1 x2 x3 x4 x5 x9 x10 P = some (r0, T) → cGo p l e rmc_X8_findOrder s m args below meth c 12 D cs t0 (pA P0) (cQI below D cs P0 args s 0 0 r0 T) 0 0 139 [(0, .ref o0), (1, .int x1), (2, .int x2), (3, .int x3), (4, .int x4), (5, .int x5), (9, .int x9), (10, .int x10)] [] P := by
    intro k18 hk18 k106 hk106 o0 x1 x2 x3 x4 x5 x9 x10 P h H locs ls hl w
    unfold hm_X8_findOrder_139 at h
    refine lv_iconst (v := (0 : Int32)) hx hb dX8_findOrder_139 (by decide) ?_
    exact J140 k18 hk18 k106 hk106 o0 x1 x2 x3 x4 x5 x9 x10 (0 : Int32) P h _ _ _ (lv_sub hl [0, 1, 2, 3, 4, 5, 6, 7] rfl) w
  have L106 : ∀ (k18 : Nat → Int32 → Int32 → Int32 → Int32 → Int32 → PS → Option (Int32 × PS)) (hk18 : ∀ (o0 : Nat) (x1 : Int32) (x2 : Int32) (x3 : Int32) (x4 : Int32) (x5 : Int32) (P : PS), k18 o0 x1 x2 x3 x4 x5 P = some (r0, T) → cGo p l e rmc_X8_findOrder s m args below meth c 12 D cs t0 (pA P0) (cQI below D cs P0 args s 0 0 r0 T) 0 0 18 [(0, .ref o0), (1, .int x1), (2, .int x2), (3, .int x3), (4, .int x4), (5, .int x5)] [] P) (n : Nat) (o0 : Nat) (x1 : Int32) (x2 : Int32) (x3 : Int32) (x4 : Int32) (x5 : Int32) (x9 : Int32) (x10 : Int32) (P : PS), hm_X8_findOrder_106L k18 n o0 x1 x2 x3 x4 x5 x9 x10 P = some (r0, T) → cGo p l e rmc_X8_findOrder s m args below meth c 12 D cs t0 (pA P0) (cQI below D cs P0 args s 0 0 r0 T) 0 0 106 [(0, .ref o0), (1, .int x1), (2, .int x2), (3, .int x3), (4, .int x4), (5, .int x5), (9, .int x9), (10, .int x10)] [] P := by
    intro k18 hk18 n
    induction n with
    | zero =>
      intro o0 x1 x2 x3 x4 x5 x9 x10 P h
      have h : none = some (r0, T) := h
      cases h
    | succ n hk106 =>
      intro o0 x1 x2 x3 x4 x5 x9 x10 P h H locs ls hl w
      have h : hm_X8_findOrder_106 k18 (hm_X8_findOrder_106L k18 n) o0 x1 x2 x3 x4 x5 x9 x10 P = some (r0, T) := h
      generalize hm_X8_findOrder_106L k18 n = k106 at h hk106
      unfold hm_X8_findOrder_106 at h
      refine lv_iload hx hb dX8_findOrder_106 (lv_at hl 7 rfl) ?_
      refine lv_if_lt (tgt := 178) hx hb dX8_findOrder_108 (by decide) (fun q => ?_) (fun q => ?_)
      · replace h := br_p q h
        replace h := lt_e h
        obtain ⟨x5_411, ex5_411, h⟩ := h
        refine lv_iinc (v := x5_411) (lv' := [(5, .int x5_411), (0, .ref o0), (1, .int x1), (2, .int x2), (3, .int x3), (4, .int x4), (9, .int x9), (10, .int x10)]) hx hb dX8_findOrder_178 hl (k := 5) rfl (by rw [ex5_411]; rfl) (by decide) (rfl) (fun ls hl => ?_)
        refine lv_goto (tgt := 18) hx hb dX8_findOrder_181 (by decide) ?_
        exact hk18 o0 x1 x2 x3 x4 x5_411 P h _ _ _ (lv_sub hl [1, 2, 3, 4, 5, 0] rfl) w
      · replace h := br_n q h
        refine lv_iload hx hb dX8_findOrder_111 (lv_at hl 5 rfl) ?_
        refine lv_iload hx hb dX8_findOrder_113 (lv_at hl 7 rfl) ?_
        replace h := bd_e h
        obtain ⟨r_413, P_412, hc_414, h⟩ := h
        refine cc_i (cr_S (As := [.int x5, .int x10]) (rest := []) cx (hcc_X8_has l D cs t0  P P_412 x5 x10 r_413 hc_414) (va_cwS 2 hts (uGS uw_X8_has ul_RX8_105 ut_X8_has un_RX8) rfl rfl rfl ud_X8_has.2 ⟨Nat.le_of_ble_eq_true rfl, Nat.le_of_ble_eq_true rfl⟩) w rfl hl.1 rfl (Nat.le_of_ble_eq_true rfl) dX8_findOrder_115 ⟨(Nat.le_of_ble_eq_true rfl), (Nat.le_of_ble_eq_true rfl)⟩) (fun H locs w => ?_)
        refine lv_if_ne (tgt := 139) hx hb dX8_findOrder_118 (by decide) (fun q => ?_) (fun q => ?_)
        · replace h := br_n q h
          exact J139 k18 hk18 k106 hk106 o0 x1 x2 x3 x4 x5 x9 x10 P_412 h _ _ _ (lv_sub hl [0, 1, 2, 3, 4, 5, 6, 7] rfl) w
        · replace h := br_p q h
          refine lv_iload hx hb dX8_findOrder_121 (lv_at hl 6 rfl) ?_
          refine lv_iload_n hx hb dX8_findOrder_123 rfl (lv_at hl 1 rfl) ?_
          refine lv_iload hx hb dX8_findOrder_124 (lv_at hl 7 rfl) ?_
          replace h := bd_e h
          obtain ⟨r_416, P_415, hc_417, h⟩ := h
          refine cc_i (cr_S (As := [.int x1, .int x10]) (rest := [.int x9]) cx (hcc_X8_wordAtPlace l D cs t0  P_412 P_415 x1 x10 r_416 hc_417) (va_cwS 2 hts (uGS uw_X8_wordAtPlace ul_RX8_316 ut_X8_wordAtPlace un_RX8) rfl rfl rfl ud_X8_wordAtPlace.2 ⟨Nat.le_of_ble_eq_true rfl, Nat.le_of_ble_eq_true rfl⟩) w rfl hl.1 rfl (Nat.le_of_ble_eq_true rfl) dX8_findOrder_126 ⟨(Nat.le_of_ble_eq_true rfl), (Nat.le_of_ble_eq_true rfl)⟩) (fun H locs w => ?_)
          replace h := bd_e h
          obtain ⟨r_419, P_418, hc_420, h⟩ := h
          refine cc_i (cr_S (As := [.int x9, .int r_416]) (rest := []) cx (hcc_X8_has l D cs t0  P_415 P_418 x9 r_416 r_419 hc_420) (va_cwS 2 hts (uGS uw_X8_has ul_RX8_105 ut_X8_has un_RX8) rfl rfl rfl ud_X8_has.2 ⟨Nat.le_of_ble_eq_true rfl, Nat.le_of_ble_eq_true rfl⟩) w rfl hl.1 rfl (Nat.le_of_ble_eq_true rfl) dX8_findOrder_129 ⟨(Nat.le_of_ble_eq_true rfl), (Nat.le_of_ble_eq_true rfl)⟩) (fun H locs w => ?_)
          refine lv_if_eq (tgt := 139) hx hb dX8_findOrder_132 (by decide) (fun q => ?_) (fun q => ?_)
          · replace h := br_p q h
            exact J139 k18 hk18 k106 hk106 o0 x1 x2 x3 x4 x5 x9 x10 P_418 h _ _ _ (lv_sub hl [0, 1, 2, 3, 4, 5, 6, 7] rfl) w
          · replace h := br_n q h
            refine lv_iconst (v := (1 : Int32)) hx hb dX8_findOrder_135 (by decide) ?_
            refine lv_goto (tgt := 140) hx hb dX8_findOrder_136 (by decide) ?_
            exact J140 k18 hk18 k106 hk106 o0 x1 x2 x3 x4 x5 x9 x10 (1 : Int32) P_418 h _ _ _ (lv_sub hl [0, 1, 2, 3, 4, 5, 6, 7] rfl) w
  have J184 : ∀ (o0 : Nat) (x4 : Int32) (P : PS), hm_X8_findOrder_184  o0 x4 P = some (r0, T) → cGo p l e rmc_X8_findOrder s m args below meth c 12 D cs t0 (pA P0) (cQI below D cs P0 args s 0 0 r0 T) 0 0 184 [(0, .ref o0), (4, .int x4)] [] P := by
    intro o0 x4 P h H locs ls hl w
    unfold hm_X8_findOrder_184 at h
    refine lv_aload_n hx hb dX8_findOrder_184 rfl (lv_at hl 0 rfl) ?_
    refine lv_iconst (v := (0 : Int32)) hx hb dX8_findOrder_185 (by decide) ?_
    refine lv_iload hx hb dX8_findOrder_186 (lv_at hl 1 rfl) ?_
    replace h := bd_e h
    obtain ⟨r_522, P_521, hc_523, h⟩ := h
    replace h := ck_e h
    obtain ⟨hk_524, h⟩ := h
    refine cc_i (cr_V (As := [.int (0 : Int32), .int x4]) (rest := []) cx (hcc_X8_ordersOn l D cs t0  P P_521 o0 (0 : Int32) x4 r_522 hc_523) kT9 hk_524 (cwV 2 hts (uG uw_X8_ordersOn ul_RX8_319 ui_X8_ordersOn us_RX8_X8_ordersOn un_RX8) rfl rfl rfl ud_X8_ordersOn ⟨Nat.le_of_ble_eq_true rfl, Nat.le_of_ble_eq_true rfl⟩) w rfl hl.1 rfl (Nat.le_of_ble_eq_true rfl) dX8_findOrder_188 ⟨(Nat.le_of_ble_eq_true rfl), (Nat.le_of_ble_eq_true rfl)⟩) (fun H locs w => ?_)
    replace h := ck_e h
    obtain ⟨hq_525, h⟩ := h
    exact cw_zret cx (z01_e hq_525) (rt_e h) w dX8_findOrder_191
  have L18 : ∀ (n : Nat) (o0 : Nat) (x1 : Int32) (x2 : Int32) (x3 : Int32) (x4 : Int32) (x5 : Int32) (P : PS), hm_X8_findOrder_18L  n o0 x1 x2 x3 x4 x5 P = some (r0, T) → cGo p l e rmc_X8_findOrder s m args below meth c 12 D cs t0 (pA P0) (cQI below D cs P0 args s 0 0 r0 T) 0 0 18 [(0, .ref o0), (1, .int x1), (2, .int x2), (3, .int x3), (4, .int x4), (5, .int x5)] [] P := by
    intro n
    induction n with
    | zero =>
      intro o0 x1 x2 x3 x4 x5 P h
      have h : none = some (r0, T) := h
      cases h
    | succ n hk18 =>
      intro o0 x1 x2 x3 x4 x5 P h H locs ls hl w
      have h : hm_X8_findOrder_18  (hm_X8_findOrder_18L  n) o0 x1 x2 x3 x4 x5 P = some (r0, T) := h
      generalize hm_X8_findOrder_18L  n = k18 at h hk18
      unfold hm_X8_findOrder_18 at h
      refine lv_iload hx hb dX8_findOrder_18 (lv_at hl 5 rfl) ?_
      refine lv_if_lt (tgt := 184) hx hb dX8_findOrder_20 (by decide) (fun q => ?_) (fun q => ?_)
      · replace h := br_p q h
        exact J184  o0 x4 P h _ _ _ (lv_sub hl [0, 4] rfl) w
      · replace h := br_n q h
        refine lv_iload hx hb dX8_findOrder_23 (lv_at hl 5 rfl) ?_
        refine lv_aload_n hx hb dX8_findOrder_25 rfl (lv_at hl 0 rfl) ?_
        replace h := ck_e h
        obtain ⟨hk_626, h⟩ := h
        replace h := nn_e h
        obtain ⟨b_627, hbb_627, h⟩ := h
        refine cw_getS cx hsub w kT9 hk_626 9 (by decide) hbb_627 ⟨hsub _ uf_RX8_60, Or.inl rfl⟩ dX8_findOrder_26 ?_
        replace h := ck_e h
        obtain ⟨hk_628, h⟩ := h
        refine cw_alen cx w hk_628 rfl dX8_findOrder_29 ?_
        refine lv_icmp_ge (tgt := 184) hx hb dX8_findOrder_30 (by decide) (fun q => ?_) (fun q => ?_)
        · replace h := br_p q h
          exact J184  o0 x4 P h _ _ _ (lv_sub hl [0, 4] rfl) w
        · replace h := br_n q h
          refine lv_iload_n hx hb dX8_findOrder_33 rfl (lv_at hl 1 rfl) ?_
          refine lv_iload hx hb dX8_findOrder_34 (lv_at hl 5 rfl) ?_
          replace h := bd_e h
          obtain ⟨r_630, P_629, hc_631, h⟩ := h
          refine cc_i (cr_S (As := [.int x1, .int x5]) (rest := []) cx (hcc_X8_wordsAtPlaces l D cs t0  P P_629 x1 x5 r_630 hc_631) (va_cwS 2 hts (uGS uw_X8_wordsAtPlaces ul_RX8_313 ut_X8_wordsAtPlaces un_RX8) rfl rfl rfl ud_X8_wordsAtPlaces.2 ⟨Nat.le_of_ble_eq_true rfl, Nat.le_of_ble_eq_true rfl⟩) w rfl hl.1 rfl (Nat.le_of_ble_eq_true rfl) dX8_findOrder_36 ⟨(Nat.le_of_ble_eq_true rfl), (Nat.le_of_ble_eq_true rfl)⟩) (fun H locs w => ?_)
          refine lv_istore (lv' := [(6, .int r_630), (0, .ref o0), (1, .int x1), (2, .int x2), (3, .int x3), (4, .int x4), (5, .int x5)]) hx hb dX8_findOrder_39 hl (by decide) (rfl) (fun ls hl => ?_)
          refine lv_iload_n hx hb dX8_findOrder_41 rfl (lv_at hl 2 rfl) ?_
          refine lv_iload hx hb dX8_findOrder_42 (lv_at hl 0 rfl) ?_
          refine lv_iconst (v := (-1 : Int32)) hx hb dX8_findOrder_44 (by decide) ?_
          refine lv_ixor hx hb dX8_findOrder_45 ?_
          refine lv_iand hx hb dX8_findOrder_46 ?_
          replace h := lt_e h
          obtain ⟨x7_632, ex7_632, h⟩ := h
          refine top_i ex7_632 ?_
          refine lv_istore (lv' := [(7, .int x7_632), (6, .int r_630), (0, .ref o0), (1, .int x1), (2, .int x2), (3, .int x3), (4, .int x4), (5, .int x5)]) hx hb dX8_findOrder_47 hl (by decide) (rfl) (fun ls hl => ?_)
          refine lv_aload_n hx hb dX8_findOrder_49 rfl (lv_at hl 2 rfl) ?_
          refine lv_aload_n hx hb dX8_findOrder_50 rfl (lv_at hl 2 rfl) ?_
          replace h := ck_e h
          obtain ⟨hk_633, h⟩ := h
          replace h := nn_e h
          obtain ⟨b_634, hbb_634, h⟩ := h
          refine cw_getS cx hsub w kT9 hk_633 4 (by decide) hbb_634 ⟨hsub _ uf_RX8_37, Or.inl rfl⟩ dX8_findOrder_51 ?_
          replace h := ck_e h
          obtain ⟨hk_635, h⟩ := h
          refine cw_getI cx hsub w kT6 hk_635 0 (by decide) ⟨hsub _ uf_RX8_128, Or.inl rfl⟩ dX8_findOrder_54 ?_
          refine lv_aload_n hx hb dX8_findOrder_57 rfl (lv_at hl 2 rfl) ?_
          refine lv_iload hx hb dX8_findOrder_58 (lv_at hl 1 rfl) ?_
          replace h := bd_e h
          obtain ⟨r_637, P_636, hc_638, h⟩ := h
          refine cc_i (cr_V (As := [.int r_630]) (rest := [.int (pI P_629 b_634 0), .ref o0]) cx (hcc_X8_factsOf l D cs t0  P_629 P_636 o0 r_630 r_637 hc_638) kT9 hk_633 (cwV 1 hts (uG uw_X8_factsOf ul_RX8_310 ui_X8_factsOf us_RX8_X8_factsOf un_RX8) rfl rfl rfl ud_X8_factsOf ⟨Nat.le_of_ble_eq_true rfl, Nat.le_of_ble_eq_true rfl⟩) w rfl hl.1 rfl (Nat.le_of_ble_eq_true rfl) dX8_findOrder_60 ⟨(Nat.le_of_ble_eq_true rfl), (Nat.le_of_ble_eq_true rfl)⟩) (fun H locs w => ?_)
          refine lv_ior hx hb dX8_findOrder_63 ?_
          refine lv_aload_n hx hb dX8_findOrder_64 rfl (lv_at hl 2 rfl) ?_
          replace h := ck_e h
          obtain ⟨hk_639, h⟩ := h
          replace h := nn_e h
          obtain ⟨b_640, hbb_640, h⟩ := h
          refine cw_getS cx hsub w kT9 hk_639 4 (by decide) hbb_640 ⟨hsub _ uf_RX8_37, Or.inl rfl⟩ dX8_findOrder_65 ?_
          replace h := ck_e h
          obtain ⟨hk_641, h⟩ := h
          refine cw_getI cx hsub w kT6 hk_641 1 (by decide) ⟨hsub _ uf_RX8_145, Or.inl rfl⟩ dX8_findOrder_68 ?_
          refine lv_iload hx hb dX8_findOrder_71 (lv_at hl 1 rfl) ?_
          replace h := bd_e h
          obtain ⟨o_643, P_642, hc_644, h⟩ := h
          refine cc_q (cr_V (As := [.int ((pI P_629 b_634 0) ||| r_637), .int (pI P_636 b_640 1), .int r_630]) (rest := []) cx (hcc_X8_suppose l D cs t0  P_636 P_642 o0 ((pI P_629 b_634 0) ||| r_637) (pI P_636 b_640 1) r_630 o_643 hc_644) kT9 hk_639 (cwV 3 hts (uG uw_X8_suppose ul_RX8_196 ui_X8_suppose us_RX8_X8_suppose un_RX8) rfl rfl rfl ud_X8_suppose ⟨Nat.le_of_ble_eq_true rfl, Nat.le_of_ble_eq_true rfl⟩) w rfl hl.1 rfl (Nat.le_of_ble_eq_true rfl) dX8_findOrder_73 ⟨(Nat.le_of_ble_eq_true rfl), (Nat.le_of_ble_eq_true rfl)⟩) (fun H locs w => ?_)
          refine lq_astore (lv' := [(8, va_rf o_643), (7, .int x7_632), (6, .int r_630), (0, .ref o0), (1, .int x1), (2, .int x2), (3, .int x3), (4, .int x4), (5, .int x5)]) hx hb dX8_findOrder_76 hl (by decide) (fun v hv => by subst hv; exact (rfl)) (fun ls hl => ?_)
          refine lv_aload_n hx hb dX8_findOrder_78 rfl (lv_at hl 3 rfl) ?_
          refine lv_aload_n hx hb dX8_findOrder_79 rfl (lv_at hl 3 rfl) ?_
          refine lv_iload hx hb dX8_findOrder_80 (lv_at hl 1 rfl) ?_
          replace h := bd_e h
          obtain ⟨r_646, P_645, hc_647, h⟩ := h
          replace h := ck_e h
          obtain ⟨hk_648, h⟩ := h
          refine cc_i (cr_V (As := [.int x7_632]) (rest := [.ref o0]) cx (hcc_X8_withParts l D cs t0  P_642 P_645 o0 x7_632 r_646 hc_647) kT9 hk_648 (cwV 1 hts (uG uw_X8_withParts ul_RX8_177 ui_X8_withParts us_RX8_X8_withParts un_RX8) rfl rfl rfl ud_X8_withParts ⟨Nat.le_of_ble_eq_true rfl, Nat.le_of_ble_eq_true rfl⟩) w rfl hl.1 rfl (Nat.le_of_ble_eq_true rfl) dX8_findOrder_82 ⟨(Nat.le_of_ble_eq_true rfl), (Nat.le_of_ble_eq_true rfl)⟩) (fun H locs w => ?_)
          refine lv_iload_n hx hb dX8_findOrder_85 rfl (lv_at hl 5 rfl) ?_
          refine lq_aload hx hb dX8_findOrder_86 (lv_at hl 0 rfl) ?_
          replace h := nn_e h
          obtain ⟨b_649, hbb_649, h⟩ := h
          subst hbb_649
          have hl : lv_has ls 12 [(8, .ref b_649), (7, .int x7_632), (6, .int r_630), (0, .ref o0), (1, .int x1), (2, .int x2), (3, .int x3), (4, .int x4), (5, .int x5)] := hl
          refine W.eq (g2 := F0 m _ ls [.ref b_649, .int x2, .int r_646, .ref o0]) rfl ?_
          replace h := bd_e h
          obtain ⟨r_651, P_650, hc_652, h⟩ := h
          replace h := ck_e h
          obtain ⟨hk_653, h⟩ := h
          refine cc_i (cr_V (As := [.int r_646, .int x2, .ref b_649]) (rest := []) cx (hcc_X8_heardToPartsEnd l D cs t0  P_645 P_650 o0 r_646 x2 b_649 r_651 hc_652) kT9 hk_653 (cwV 3 hts (uG uw_X8_heardToPartsEnd ul_RX8_180 ui_X8_heardToPartsEnd us_RX8_X8_heardToPartsEnd un_RX8) rfl rfl rfl ud_X8_heardToPartsEnd ⟨Nat.le_of_ble_eq_true rfl, Nat.le_of_ble_eq_true rfl⟩) w rfl hl.1 rfl (Nat.le_of_ble_eq_true rfl) dX8_findOrder_88 ⟨(Nat.le_of_ble_eq_true rfl), (Nat.le_of_ble_eq_true rfl)⟩) (fun H locs w => ?_)
          refine lv_istore (lv' := [(9, .int r_651), (8, .ref b_649), (7, .int x7_632), (6, .int r_630), (0, .ref o0), (1, .int x1), (2, .int x2), (3, .int x3), (4, .int x4), (5, .int x5)]) hx hb dX8_findOrder_91 hl (by decide) (rfl) (fun ls hl => ?_)
          refine lv_aload_n hx hb dX8_findOrder_93 rfl (lv_at hl 4 rfl) ?_
          replace h := ck_e h
          obtain ⟨hk_654, h⟩ := h
          replace h := nn_e h
          obtain ⟨b_655, hbb_655, h⟩ := h
          refine cw_getS cx hsub w kT9 hk_654 9 (by decide) hbb_655 ⟨hsub _ uf_RX8_60, Or.inl rfl⟩ dX8_findOrder_94 ?_
          refine lv_iload hx hb dX8_findOrder_97 (lv_at hl 9 rfl) ?_
          refine lv_iconst (v := (-1 : Int32)) hx hb dX8_findOrder_99 (by decide) ?_
          replace h := ck_e h
          obtain ⟨hk_656, h⟩ := h
          replace h := ck_e h
          obtain ⟨hq_657, h⟩ := h
          replace h := lt_e h
          obtain ⟨P_658, eP_658, h⟩ := h
          refine cw_iast cx w hk_656 hq_657 eP_658 dX8_findOrder_100 (fun H locs w => ?_)
          refine lv_iload_n hx hb dX8_findOrder_101 rfl (lv_at hl 7 rfl) ?_
          refine lv_iconst (v := (1 : Int32)) hx hb dX8_findOrder_102 (by decide) ?_
          refine lv_isub hx hb dX8_findOrder_103 ?_
          replace h := lt_e h
          obtain ⟨x10_659, ex10_659, h⟩ := h
          refine top_i ex10_659 ?_
          refine lv_istore (lv' := [(10, .int x10_659), (9, .int r_651), (8, .ref b_649), (7, .int x7_632), (6, .int r_630), (0, .ref o0), (1, .int x1), (2, .int x2), (3, .int x3), (4, .int x4), (5, .int x5)]) hx hb dX8_findOrder_104 hl (by decide) (rfl) (fun ls hl => ?_)
          exact L106 k18 hk18 4000 o0 x1 x2 x3 x4 x5 r_651 x10_659 P_658 h _ _ _ (lv_sub hl [5, 6, 7, 8, 9, 10, 1, 0] rfl) w
  have hP0 : P0 = P0 := rfl
  unfold hm_X8_findOrder at h
  refine lv_iload_n hx hb dX8_findOrder_0 rfl (lv_at hl 1 rfl) ?_
  replace h := bd_e h
  obtain ⟨r_761, P_760, hc_762, h⟩ := h
  refine cc_i (cr_S (As := [.int a1]) (rest := []) cx (hcc_J6_bitCount_0f7a4 l D cs t0  P0 P_760 a1 r_761 hc_762) (va_cwS 1 hts (uGS uw_J6_bitCount_0f7a4 ul_RX8_191 ut_J6_bitCount_0f7a4 un_RJ6) rfl rfl rfl ud_J6_bitCount_0f7a4.2 ⟨Nat.le_of_ble_eq_true rfl, Nat.le_of_ble_eq_true rfl⟩) w rfl hl.1 rfl (Nat.le_of_ble_eq_true rfl) dX8_findOrder_1 ⟨(Nat.le_of_ble_eq_true rfl), (Nat.le_of_ble_eq_true rfl)⟩) (fun H locs w => ?_)
  refine lv_istore_n (lv' := [(3, .int r_761), (0, .ref th), (1, .int a1), (2, .int a2)]) hx hb dX8_findOrder_4 rfl hl (by decide) (rfl) (fun ls hl => ?_)
  refine lv_iconst (v := (1 : Int32)) hx hb dX8_findOrder_5 (by decide) ?_
  refine lv_iload_n hx hb dX8_findOrder_6 rfl (lv_at hl 0 rfl) ?_
  refine lv_ishl hx hb dX8_findOrder_7 ?_
  refine lv_iconst (v := (1 : Int32)) hx hb dX8_findOrder_8 (by decide) ?_
  refine lv_isub hx hb dX8_findOrder_9 ?_
  replace h := lt_e h
  obtain ⟨x4_763, ex4_763, h⟩ := h
  refine top_i ex4_763 ?_
  refine lv_istore (lv' := [(4, .int x4_763), (3, .int r_761), (0, .ref th), (1, .int a1), (2, .int a2)]) hx hb dX8_findOrder_10 hl (by decide) (rfl) (fun ls hl => ?_)
  refine lv_iload hx hb dX8_findOrder_12 (lv_at hl 0 rfl) ?_
  refine lv_iconst (v := (1 : Int32)) hx hb dX8_findOrder_14 (by decide) ?_
  refine lv_isub hx hb dX8_findOrder_15 ?_
  replace h := lt_e h
  obtain ⟨x5_764, ex5_764, h⟩ := h
  refine top_i ex5_764 ?_
  refine lv_istore (lv' := [(5, .int x5_764), (4, .int x4_763), (3, .int r_761), (0, .ref th), (1, .int a1), (2, .int a2)]) hx hb dX8_findOrder_16 hl (by decide) (rfl) (fun ls hl => ?_)
  exact L18  4000 th a1 a2 r_761 x4_763 x5_764 P_760 h _ _ _ (lv_sub hl [3, 4, 5, 2, 1, 0] rfl) w
def hm_X8_wordInOrder_48 (x1 : Int32) (x4 : Int32) (P : PS) : Option (Int32 × PS) := bd (hm_X8_wordAtPlace  P x1 x4) (fun r_102 P_101 => some (r_102, P_101))
def hm_X8_wordInOrder_8 (k8 : Nat → Int32 → Int32 → Int32 → Int32 → Int32 → PS → Option (Int32 × PS)) (o0 : Nat) (x1 : Int32) (x2 : Int32) (x3 : Int32) (x4 : Int32) (x5 : Int32) (P : PS) : Option (Int32 × PS) := if x2 < x5 then (hm_X8_wordInOrder_48  x1 x4 P) else (if x3 < (0 : Int32) then (hm_X8_wordInOrder_48  x1 x4 P) else (ck (kk P o0 9) (nn (pR P o0 9) (fun b_205 => ck (kk P b_205 12) (if (nI (pN P b_205)) ≤ x3 then (hm_X8_wordInOrder_48  x1 x4 P) else (nn (pR P o0 9) (fun b_207 => ck (kk P b_207 12) (ck (vin x3 (pN P b_207)) (lt_ ((pI P b_207 (x3).toNatClampNeg)) (fun x4_210 => lt_ ((x3 ||| ((1 : Int32) <<< (x4_210 &&& 31)))) (fun x3_211 => lt_ (x5 + (1 : Int32)) (fun x5_212 => k8 o0 x1 x2 x3_211 x4_210 x5_212 P))))))))))))
def hm_X8_wordInOrder_8L : Nat → Nat → Int32 → Int32 → Int32 → Int32 → Int32 → PS → Option (Int32 × PS)
  | 0, _, _, _, _, _, _, _ => none
  | n + 1, o0, x1, x2, x3, x4, x5, P => hm_X8_wordInOrder_8  (hm_X8_wordInOrder_8L  n) o0 x1 x2 x3 x4 x5 P
def hm_X8_wordInOrder (P : PS) (th : Nat) (a1 : Int32) (a2 : Int32) : Option (Int32 × PS) := lt_ ((0 : Int32)) (fun x3_313 => lt_ ((-1 : Int32)) (fun x4_314 => lt_ ((0 : Int32)) (fun x5_315 => hm_X8_wordInOrder_8L  4000 th a1 a2 x3_313 x4_314 x5_315 P)))
abbrev wu_X8_wordInOrder : List Cond := .code yX8_wordInOrder cX8_wordInOrder 6 (some .int) :: wsL_law
theorem ud_X8_wordInOrder : yX8_wordInOrder.cls = RX8 ∧ yX8_wordInOrder.cls ≠ "java/lang/invoke/MethodHandle" ∧ yX8_wordInOrder.cls ≠ "java/lang/invoke/VarHandle" ∧ (parseMethodDescriptor yX8_wordInOrder.desc).map (fun d => d.parameters.length) = some 2 := by decide +kernel
abbrev rmc_X8_wordInOrder : Room := { frames := 2, cells := 0, slots := 0, locals := 44 }
set_option maxHeartbeats 4000000 in
set_option maxRecDepth 100000 in
theorem hcc_X8_wordInOrder (l : Launch) (D : va_G) (cs : Nat → ClassId) (t0 : TS) (P0 T : PS) (th : Nat) (a1 : Int32) (a2 : Int32) (r0 : Int32) (h : hm_X8_wordInOrder P0 th a1 a2 = some (r0, T)) : MetCI l yX8_wordInOrder wu_X8_wordInOrder rmc_X8_wordInOrder D cs t0 [.ref th, .int a1, .int a2] P0 T r0 0 0 := by
  refine co_start (own := RX8) (ty := (some .int)) (cc := cX8_wordInOrder) (maxL := 6) ⟨by decide, rfl⟩ rfl (Nat.le_of_ble_eq_true rfl) ?_
  intro p e s m args below meth c ls cx hnm hl w
  have hx := cx.1
  have hb := cx.2.1
  have hts := cx.2.2.2.1
  have hown := cx.2.2.2.2.1
  have hml := cx.2.2.2.2.2.2
  have hsub : ∀ w ∈ wsL_law, w ∈ wu_X8_wordInOrder := fun _ hq => List.mem_cons_of_mem _ hq
  have hl : lv_has ls 6 [(0, .ref th), (1, .int a1), (2, .int a2)] := hl
  have J48 : ∀ (x1 : Int32) (x4 : Int32) (P : PS), hm_X8_wordInOrder_48  x1 x4 P = some (r0, T) → cGo p l e rmc_X8_wordInOrder s m args below meth c 6 D cs t0 (pA P0) (cQI below D cs P0 args s 0 0 r0 T) 0 0 48 [(1, .int x1), (4, .int x4)] [] P := by
    intro x1 x4 P h H locs ls hl w
    unfold hm_X8_wordInOrder_48 at h
    refine lv_iload_n hx hb dX8_wordInOrder_48 rfl (lv_at hl 0 rfl) ?_
    refine lv_iload hx hb dX8_wordInOrder_49 (lv_at hl 1 rfl) ?_
    replace h := bd_e h
    obtain ⟨r_102, P_101, hc_103, h⟩ := h
    refine cc_i (cr_S (As := [.int x1, .int x4]) (rest := []) cx (hcc_X8_wordAtPlace l D cs t0  P P_101 x1 x4 r_102 hc_103) (va_cwS 2 hts (uGS uw_X8_wordAtPlace ul_RX8_316 ut_X8_wordAtPlace un_RX8) rfl rfl rfl ud_X8_wordAtPlace.2 ⟨Nat.le_of_ble_eq_true rfl, Nat.le_of_ble_eq_true rfl⟩) w rfl hl.1 rfl (Nat.le_of_ble_eq_true rfl) dX8_wordInOrder_51 ⟨(Nat.le_of_ble_eq_true rfl), (Nat.le_of_ble_eq_true rfl)⟩) (fun H locs w => ?_)
    exact cw_iret cx (rt_e h) w dX8_wordInOrder_54
  have L8 : ∀ (n : Nat) (o0 : Nat) (x1 : Int32) (x2 : Int32) (x3 : Int32) (x4 : Int32) (x5 : Int32) (P : PS), hm_X8_wordInOrder_8L  n o0 x1 x2 x3 x4 x5 P = some (r0, T) → cGo p l e rmc_X8_wordInOrder s m args below meth c 6 D cs t0 (pA P0) (cQI below D cs P0 args s 0 0 r0 T) 0 0 8 [(0, .ref o0), (1, .int x1), (2, .int x2), (3, .int x3), (4, .int x4), (5, .int x5)] [] P := by
    intro n
    induction n with
    | zero =>
      intro o0 x1 x2 x3 x4 x5 P h
      have h : none = some (r0, T) := h
      cases h
    | succ n hk8 =>
      intro o0 x1 x2 x3 x4 x5 P h H locs ls hl w
      have h : hm_X8_wordInOrder_8  (hm_X8_wordInOrder_8L  n) o0 x1 x2 x3 x4 x5 P = some (r0, T) := h
      generalize hm_X8_wordInOrder_8L  n = k8 at h hk8
      unfold hm_X8_wordInOrder_8 at h
      refine lv_iload hx hb dX8_wordInOrder_8 (lv_at hl 5 rfl) ?_
      refine lv_iload_n hx hb dX8_wordInOrder_10 rfl (lv_at hl 2 rfl) ?_
      refine lv_icmp_gt (tgt := 48) hx hb dX8_wordInOrder_11 (by decide) (fun q => ?_) (fun q => ?_)
      · replace h := br_p q h
        exact J48  x1 x4 P h _ _ _ (lv_sub hl [1, 4] rfl) w
      · replace h := br_n q h
        refine lv_iload_n hx hb dX8_wordInOrder_14 rfl (lv_at hl 3 rfl) ?_
        refine lv_if_lt (tgt := 48) hx hb dX8_wordInOrder_15 (by decide) (fun q => ?_) (fun q => ?_)
        · replace h := br_p q h
          exact J48  x1 x4 P h _ _ _ (lv_sub hl [1, 4] rfl) w
        · replace h := br_n q h
          refine lv_iload_n hx hb dX8_wordInOrder_18 rfl (lv_at hl 3 rfl) ?_
          refine lv_aload_n hx hb dX8_wordInOrder_19 rfl (lv_at hl 0 rfl) ?_
          replace h := ck_e h
          obtain ⟨hk_204, h⟩ := h
          replace h := nn_e h
          obtain ⟨b_205, hbb_205, h⟩ := h
          refine cw_getS cx hsub w kT9 hk_204 9 (by decide) hbb_205 ⟨hsub _ uf_RX8_60, Or.inl rfl⟩ dX8_wordInOrder_20 ?_
          replace h := ck_e h
          obtain ⟨hk_206, h⟩ := h
          refine cw_alen cx w hk_206 rfl dX8_wordInOrder_23 ?_
          refine lv_icmp_ge (tgt := 48) hx hb dX8_wordInOrder_24 (by decide) (fun q => ?_) (fun q => ?_)
          · replace h := br_p q h
            exact J48  x1 x4 P h _ _ _ (lv_sub hl [1, 4] rfl) w
          · replace h := br_n q h
            refine lv_aload_n hx hb dX8_wordInOrder_27 rfl (lv_at hl 0 rfl) ?_
            replace h := nn_e h
            obtain ⟨b_207, hbb_207, h⟩ := h
            refine cw_getS cx hsub w kT9 hk_204 9 (by decide) hbb_207 ⟨hsub _ uf_RX8_60, Or.inl rfl⟩ dX8_wordInOrder_28 ?_
            refine lv_iload_n hx hb dX8_wordInOrder_31 rfl (lv_at hl 3 rfl) ?_
            replace h := ck_e h
            obtain ⟨hk_208, h⟩ := h
            replace h := ck_e h
            obtain ⟨hq_209, h⟩ := h
            refine cw_iald cx w hk_208 hq_209 dX8_wordInOrder_32 ?_
            replace h := lt_e h
            obtain ⟨x4_210, ex4_210, h⟩ := h
            refine top_i ex4_210 ?_
            refine lv_istore (lv' := [(4, .int x4_210), (0, .ref o0), (1, .int x1), (2, .int x2), (3, .int x3), (5, .int x5)]) hx hb dX8_wordInOrder_33 hl (by decide) (rfl) (fun ls hl => ?_)
            refine lv_iload_n hx hb dX8_wordInOrder_35 rfl (lv_at hl 4 rfl) ?_
            refine lv_iconst (v := (1 : Int32)) hx hb dX8_wordInOrder_36 (by decide) ?_
            refine lv_iload hx hb dX8_wordInOrder_37 (lv_at hl 0 rfl) ?_
            refine lv_ishl hx hb dX8_wordInOrder_39 ?_
            refine lv_ior hx hb dX8_wordInOrder_40 ?_
            replace h := lt_e h
            obtain ⟨x3_211, ex3_211, h⟩ := h
            refine top_i ex3_211 ?_
            refine lv_istore_n (lv' := [(3, .int x3_211), (4, .int x4_210), (0, .ref o0), (1, .int x1), (2, .int x2), (5, .int x5)]) hx hb dX8_wordInOrder_41 rfl hl (by decide) (rfl) (fun ls hl => ?_)
            replace h := lt_e h
            obtain ⟨x5_212, ex5_212, h⟩ := h
            refine lv_iinc (v := x5_212) (lv' := [(5, .int x5_212), (3, .int x3_211), (4, .int x4_210), (0, .ref o0), (1, .int x1), (2, .int x2)]) hx hb dX8_wordInOrder_42 hl (k := 5) rfl (by rw [ex5_212]; rfl) (by decide) (rfl) (fun ls hl => ?_)
            refine lv_goto (tgt := 8) hx hb dX8_wordInOrder_45 (by decide) ?_
            exact hk8 o0 x1 x2 x3_211 x4_210 x5_212 P h _ _ _ (lv_sub hl [3, 4, 5, 1, 2, 0] rfl) w
  have hP0 : P0 = P0 := rfl
  unfold hm_X8_wordInOrder at h
  refine lv_iconst (v := (0 : Int32)) hx hb dX8_wordInOrder_0 (by decide) ?_
  replace h := lt_e h
  obtain ⟨x3_313, ex3_313, h⟩ := h
  refine top_i ex3_313 ?_
  refine lv_istore_n (lv' := [(3, .int x3_313), (0, .ref th), (1, .int a1), (2, .int a2)]) hx hb dX8_wordInOrder_1 rfl hl (by decide) (rfl) (fun ls hl => ?_)
  refine lv_iconst (v := (-1 : Int32)) hx hb dX8_wordInOrder_2 (by decide) ?_
  replace h := lt_e h
  obtain ⟨x4_314, ex4_314, h⟩ := h
  refine top_i ex4_314 ?_
  refine lv_istore (lv' := [(4, .int x4_314), (3, .int x3_313), (0, .ref th), (1, .int a1), (2, .int a2)]) hx hb dX8_wordInOrder_3 hl (by decide) (rfl) (fun ls hl => ?_)
  refine lv_iconst (v := (0 : Int32)) hx hb dX8_wordInOrder_5 (by decide) ?_
  replace h := lt_e h
  obtain ⟨x5_315, ex5_315, h⟩ := h
  refine top_i ex5_315 ?_
  refine lv_istore (lv' := [(5, .int x5_315), (4, .int x4_314), (3, .int x3_313), (0, .ref th), (1, .int a1), (2, .int a2)]) hx hb dX8_wordInOrder_6 hl (by decide) (rfl) (fun ls hl => ?_)
  exact L8  4000 th a1 a2 x3_313 x4_314 x5_315 P0 h _ _ _ (lv_sub hl [3, 4, 5, 2, 1, 0] rfl) w
def hm_X8_plan_13  (P : PS) : Option (Int32 × PS) := some ((-1 : Int32), P)
def hm_X8_plan_42  (P : PS) : Option (Int32 × PS) := some ((-2 : Int32), P)
def hm_X8_plan_88  (P : PS) : Option (Int32 × PS) := some ((-1 : Int32), P)
def hm_X8_plan (P : PS) (th : Nat) (a1 : Int32) (a2 : Int32) (a3 : Int32) : Option (Int32 × PS) := bd (hm_X8_within  P a2 (2 : Int32)) (fun r_402 P_401 => if r_402 = (0 : Int32) then (hm_X8_plan_13   P_401) else (if (-1 : Int32) ≤ a3 then (bd (hm_J6_bitCount_0f7a4  P_401 a1) (fun r_405 P_404 => if a1 = (0 : Int32) then (hm_X8_plan_42   P_404) else (bd (hm_X8_allWords  P_404 th) (fun r_408 P_407 => ck (kk P_404 th 9) (if (a1 &&& (r_408 ^^^ (-1 : Int32))) = (0 : Int32) then (if r_405 ≤ (5 : Int32) then (bd (hm_X8_findOrder  P_407 th a1 a2) (fun r_412 P_411 => ck (kk P_407 th 9) (if (0 : Int32) ≤ a3 then (if r_412 = (0 : Int32) then (hm_X8_plan_88   P_411) else (if r_405 ≤ a3 then (hm_X8_plan_88   P_411) else (bd (hm_X8_wordInOrder  P_411 th a1 a3) (fun r_416 P_415 => ck (kk P_411 th 9) (some (r_416, P_415)))))) else (if r_412 = (0 : Int32) then (some ((0 : Int32), P_411)) else (some ((1 : Int32), P_411)))))) else (hm_X8_plan_42   P_407)) else (hm_X8_plan_42   P_407)))))) else (hm_X8_plan_13   P_401)))
abbrev wu_X8_plan : List Cond := .code yX8_plan cX8_plan 6 (some .int) :: wsL_law
theorem ud_X8_plan : yX8_plan.cls = RX8 ∧ yX8_plan.cls ≠ "java/lang/invoke/MethodHandle" ∧ yX8_plan.cls ≠ "java/lang/invoke/VarHandle" ∧ (parseMethodDescriptor yX8_plan.desc).map (fun d => d.parameters.length) = some 3 := by decide +kernel
abbrev rmc_X8_plan : Room := { frames := 8, cells := 0, slots := 0, locals := 193 }
set_option maxHeartbeats 4000000 in
set_option maxRecDepth 100000 in
theorem hcc_X8_plan (l : Launch) (D : va_G) (cs : Nat → ClassId) (t0 : TS) (P0 T : PS) (th : Nat) (a1 : Int32) (a2 : Int32) (a3 : Int32) (r0 : Int32) (h : hm_X8_plan P0 th a1 a2 a3 = some (r0, T)) : MetCI l yX8_plan wu_X8_plan rmc_X8_plan D cs t0 [.ref th, .int a1, .int a2, .int a3] P0 T r0 0 0 := by
  refine co_start (own := RX8) (ty := (some .int)) (cc := cX8_plan) (maxL := 6) ⟨by decide, rfl⟩ rfl (Nat.le_of_ble_eq_true rfl) ?_
  intro p e s m args below meth c ls cx hnm hl w
  have hx := cx.1
  have hb := cx.2.1
  have hts := cx.2.2.2.1
  have hown := cx.2.2.2.2.1
  have hml := cx.2.2.2.2.2.2
  have hsub : ∀ w ∈ wsL_law, w ∈ wu_X8_plan := fun _ hq => List.mem_cons_of_mem _ hq
  have hl : lv_has ls 6 [(0, .ref th), (1, .int a1), (2, .int a2), (3, .int a3)] := hl
  have J13 : ∀  (P : PS), hm_X8_plan_13   P = some (r0, T) → cGo p l e rmc_X8_plan s m args below meth c 6 D cs t0 (pA P0) (cQI below D cs P0 args s 0 0 r0 T) 0 0 13 [] [] P := by
    intro  P h H locs ls hl w
    unfold hm_X8_plan_13 at h
    refine lv_iconst (v := (-1 : Int32)) hx hb dX8_plan_13 (by decide) ?_
    exact cw_iret cx (rt_e h) w dX8_plan_14
  have J42 : ∀  (P : PS), hm_X8_plan_42   P = some (r0, T) → cGo p l e rmc_X8_plan s m args below meth c 6 D cs t0 (pA P0) (cQI below D cs P0 args s 0 0 r0 T) 0 0 42 [] [] P := by
    intro  P h H locs ls hl w
    unfold hm_X8_plan_42 at h
    refine lv_bipush (v := (-2 : Int32)) hx hb dX8_plan_42 (by decide) ?_
    exact cw_iret cx (rt_e h) w dX8_plan_44
  have J88 : ∀  (P : PS), hm_X8_plan_88   P = some (r0, T) → cGo p l e rmc_X8_plan s m args below meth c 6 D cs t0 (pA P0) (cQI below D cs P0 args s 0 0 r0 T) 0 0 88 [] [] P := by
    intro  P h H locs ls hl w
    unfold hm_X8_plan_88 at h
    refine lv_iconst (v := (-1 : Int32)) hx hb dX8_plan_88 (by decide) ?_
    exact cw_iret cx (rt_e h) w dX8_plan_89
  have hP0 : P0 = P0 := rfl
  unfold hm_X8_plan at h
  refine lv_iload_n hx hb dX8_plan_0 rfl (lv_at hl 2 rfl) ?_
  refine lv_iconst (v := (2 : Int32)) hx hb dX8_plan_1 (by decide) ?_
  replace h := bd_e h
  obtain ⟨r_402, P_401, hc_403, h⟩ := h
  refine cc_i (cr_S (As := [.int a2, .int (2 : Int32)]) (rest := []) cx (hcc_X8_within l D cs t0  P0 P_401 a2 (2 : Int32) r_402 hc_403) (va_cwS 2 hts (uGS uw_X8_within ul_RX8_72 ut_X8_within un_RX8) rfl rfl rfl ud_X8_within.2 ⟨Nat.le_of_ble_eq_true rfl, Nat.le_of_ble_eq_true rfl⟩) w rfl hl.1 rfl (Nat.le_of_ble_eq_true rfl) dX8_plan_2 ⟨(Nat.le_of_ble_eq_true rfl), (Nat.le_of_ble_eq_true rfl)⟩) (fun H locs w => ?_)
  refine lv_if_eq (tgt := 13) hx hb dX8_plan_5 (by decide) (fun q => ?_) (fun q => ?_)
  · replace h := br_p q h
    exact J13   P_401 h _ _ _ (lv_sub hl [] rfl) w
  · replace h := br_n q h
    refine lv_iload_n hx hb dX8_plan_8 rfl (lv_at hl 3 rfl) ?_
    refine lv_iconst (v := (-1 : Int32)) hx hb dX8_plan_9 (by decide) ?_
    refine lv_icmp_ge (tgt := 15) hx hb dX8_plan_10 (by decide) (fun q => ?_) (fun q => ?_)
    · replace h := br_p q h
      refine lv_iload_n hx hb dX8_plan_15 rfl (lv_at hl 1 rfl) ?_
      replace h := bd_e h
      obtain ⟨r_405, P_404, hc_406, h⟩ := h
      refine cc_i (cr_S (As := [.int a1]) (rest := []) cx (hcc_J6_bitCount_0f7a4 l D cs t0  P_401 P_404 a1 r_405 hc_406) (va_cwS 1 hts (uGS uw_J6_bitCount_0f7a4 ul_RX8_191 ut_J6_bitCount_0f7a4 un_RJ6) rfl rfl rfl ud_J6_bitCount_0f7a4.2 ⟨Nat.le_of_ble_eq_true rfl, Nat.le_of_ble_eq_true rfl⟩) w rfl hl.1 rfl (Nat.le_of_ble_eq_true rfl) dX8_plan_16 ⟨(Nat.le_of_ble_eq_true rfl), (Nat.le_of_ble_eq_true rfl)⟩) (fun H locs w => ?_)
      refine lv_istore (lv' := [(4, .int r_405), (0, .ref th), (1, .int a1), (2, .int a2), (3, .int a3)]) hx hb dX8_plan_19 hl (by decide) (rfl) (fun ls hl => ?_)
      refine lv_iload_n hx hb dX8_plan_21 rfl (lv_at hl 2 rfl) ?_
      refine lv_if_eq (tgt := 42) hx hb dX8_plan_22 (by decide) (fun q => ?_) (fun q => ?_)
      · replace h := br_p q h
        exact J42   P_404 h _ _ _ (lv_sub hl [] rfl) w
      · replace h := br_n q h
        refine lv_iload_n hx hb dX8_plan_25 rfl (lv_at hl 2 rfl) ?_
        refine lv_aload_n hx hb dX8_plan_26 rfl (lv_at hl 1 rfl) ?_
        replace h := bd_e h
        obtain ⟨r_408, P_407, hc_409, h⟩ := h
        replace h := ck_e h
        obtain ⟨hk_410, h⟩ := h
        refine cc_i (cr_V (As := []) (rest := [.int a1]) cx (hcc_X8_allWords l D cs t0  P_404 P_407 th r_408 hc_409) kT9 hk_410 (cwV 0 hts (uG uw_X8_allWords ul_RX8_207 ui_X8_allWords us_RX8_X8_allWords un_RX8) rfl rfl rfl ud_X8_allWords ⟨Nat.le_of_ble_eq_true rfl, Nat.le_of_ble_eq_true rfl⟩) w rfl hl.1 rfl (Nat.le_of_ble_eq_true rfl) dX8_plan_27 ⟨(Nat.le_of_ble_eq_true rfl), (Nat.le_of_ble_eq_true rfl)⟩) (fun H locs w => ?_)
        refine lv_iconst (v := (-1 : Int32)) hx hb dX8_plan_30 (by decide) ?_
        refine lv_ixor hx hb dX8_plan_31 ?_
        refine lv_iand hx hb dX8_plan_32 ?_
        refine lv_if_ne (tgt := 42) hx hb dX8_plan_33 (by decide) (fun q => ?_) (fun q => ?_)
        · replace h := br_n q h
          exact J42   P_407 h _ _ _ (lv_sub hl [] rfl) w
        · replace h := br_p q h
          refine lv_iload hx hb dX8_plan_36 (lv_at hl 0 rfl) ?_
          refine lv_iconst (v := (5 : Int32)) hx hb dX8_plan_38 (by decide) ?_
          refine lv_icmp_le (tgt := 45) hx hb dX8_plan_39 (by decide) (fun q => ?_) (fun q => ?_)
          · replace h := br_p q h
            refine lv_aload_n hx hb dX8_plan_45 rfl (lv_at hl 1 rfl) ?_
            refine lv_iload_n hx hb dX8_plan_46 rfl (lv_at hl 2 rfl) ?_
            refine lv_iload_n hx hb dX8_plan_47 rfl (lv_at hl 3 rfl) ?_
            replace h := bd_e h
            obtain ⟨r_412, P_411, hc_413, h⟩ := h
            replace h := ck_e h
            obtain ⟨hk_414, h⟩ := h
            refine cc_i (cr_V (As := [.int a1, .int a2]) (rest := []) cx (hcc_X8_findOrder l D cs t0  P_407 P_411 th a1 a2 r_412 hc_413) kT9 hk_414 (cwV 2 hts (uG uw_X8_findOrder ul_RX8_214 ui_X8_findOrder us_RX8_X8_findOrder un_RX8) rfl rfl rfl ud_X8_findOrder ⟨Nat.le_of_ble_eq_true rfl, Nat.le_of_ble_eq_true rfl⟩) w rfl hl.1 rfl (Nat.le_of_ble_eq_true rfl) dX8_plan_48 ⟨(Nat.le_of_ble_eq_true rfl), (Nat.le_of_ble_eq_true rfl)⟩) (fun H locs w => ?_)
            refine lv_istore (lv' := [(5, .int r_412), (4, .int r_405), (0, .ref th), (1, .int a1), (2, .int a2), (3, .int a3)]) hx hb dX8_plan_51 hl (by decide) (rfl) (fun ls hl => ?_)
            refine lv_iload_n hx hb dX8_plan_53 rfl (lv_at hl 5 rfl) ?_
            refine lv_if_ge (tgt := 68) hx hb dX8_plan_54 (by decide) (fun q => ?_) (fun q => ?_)
            · replace h := br_p q h
              refine lv_iload hx hb dX8_plan_68 (lv_at hl 0 rfl) ?_
              refine lv_if_eq (tgt := 88) hx hb dX8_plan_70 (by decide) (fun q => ?_) (fun q => ?_)
              · replace h := br_p q h
                exact J88   P_411 h _ _ _ (lv_sub hl [] rfl) w
              · replace h := br_n q h
                refine lv_iload_n hx hb dX8_plan_73 rfl (lv_at hl 5 rfl) ?_
                refine lv_iload hx hb dX8_plan_74 (lv_at hl 1 rfl) ?_
                refine lv_icmp_ge (tgt := 88) hx hb dX8_plan_76 (by decide) (fun q => ?_) (fun q => ?_)
                · replace h := br_p q h
                  exact J88   P_411 h _ _ _ (lv_sub hl [] rfl) w
                · replace h := br_n q h
                  refine lv_aload_n hx hb dX8_plan_79 rfl (lv_at hl 2 rfl) ?_
                  refine lv_iload_n hx hb dX8_plan_80 rfl (lv_at hl 3 rfl) ?_
                  refine lv_iload_n hx hb dX8_plan_81 rfl (lv_at hl 5 rfl) ?_
                  replace h := bd_e h
                  obtain ⟨r_416, P_415, hc_417, h⟩ := h
                  replace h := ck_e h
                  obtain ⟨hk_418, h⟩ := h
                  refine cc_i (cr_V (As := [.int a1, .int a3]) (rest := []) cx (hcc_X8_wordInOrder l D cs t0  P_411 P_415 th a1 a3 r_416 hc_417) kT9 hk_418 (cwV 2 hts (uG uw_X8_wordInOrder ul_RX8_217 ui_X8_wordInOrder us_RX8_X8_wordInOrder un_RX8) rfl rfl rfl ud_X8_wordInOrder ⟨Nat.le_of_ble_eq_true rfl, Nat.le_of_ble_eq_true rfl⟩) w rfl hl.1 rfl (Nat.le_of_ble_eq_true rfl) dX8_plan_82 ⟨(Nat.le_of_ble_eq_true rfl), (Nat.le_of_ble_eq_true rfl)⟩) (fun H locs w => ?_)
                  refine lv_goto (tgt := 89) hx hb dX8_plan_85 (by decide) ?_
                  exact cw_iret cx (rt_e h) w dX8_plan_89
            · replace h := br_n q h
              refine lv_iload hx hb dX8_plan_57 (lv_at hl 0 rfl) ?_
              refine lv_if_eq (tgt := 66) hx hb dX8_plan_59 (by decide) (fun q => ?_) (fun q => ?_)
              · replace h := br_p q h
                refine lv_iconst (v := (0 : Int32)) hx hb dX8_plan_66 (by decide) ?_
                exact cw_iret cx (rt_e h) w dX8_plan_67
              · replace h := br_n q h
                refine lv_iconst (v := (1 : Int32)) hx hb dX8_plan_62 (by decide) ?_
                refine lv_goto (tgt := 67) hx hb dX8_plan_63 (by decide) ?_
                exact cw_iret cx (rt_e h) w dX8_plan_67
          · replace h := br_n q h
            exact J42   P_407 h _ _ _ (lv_sub hl [] rfl) w
    · replace h := br_n q h
      exact J13   P_401 h _ _ _ (lv_sub hl [] rfl) w
def hm_X8_clash_20  (P : PS) : Option (Int32 × PS) := some ((-1 : Int32), P)
def hm_X8_clash_117 (k31 : Nat → Int32 → Int32 → Nat → Int32 → Int32 → Int32 → PS → Option (Int32 × PS)) (o0 : Nat) (x2 : Int32) (x3 : Int32) (o4 : Nat) (x5 : Int32) (x6 : Int32) (x7 : Int32) (P : PS) : Option (Int32 × PS) := lt_ (x7 + (1 : Int32)) (fun x7_201 => k31 o0 x2 x3 o4 x5 x6 x7_201 P)
def hm_X8_clash_31 (k31 : Nat → Int32 → Int32 → Nat → Int32 → Int32 → Int32 → PS → Option (Int32 × PS)) (o0 : Nat) (x2 : Int32) (x3 : Int32) (o4 : Nat) (x5 : Int32) (x6 : Int32) (x7 : Int32) (P : PS) : Option (Int32 × PS) := ck (kk P o0 9) (nn (pR P o0 2) (fun b_303 => bd (hm_Jx4a65c_size_8abf5  P b_303) (fun r_305 P_304 => ck (kk P b_303 0) (if r_305 ≤ x7 then (some ((x5 * x6), P_304)) else (ck (kk P_304 o0 9) (nn (pR P_304 o0 2) (fun b_309 => bd (hm_Jx4a65c_get_915e3  P_304 b_309 x7) (fun o_311 P_310 => ck (kk P_304 b_309 0) (nn o_311 (fun b_314 => ck (kk P_310 b_314 5) (if (pI P_310 b_314 1) = x3 then (ck (kk P_310 o0 9) (nn (pR P_310 o0 4) (fun b_317 => bd (hm_X4_holding  P_310 b_314 o4 x2 b_317) (fun r_319 P_318 => ck (kk P_318 o0 9) (nn (pR P_318 o0 4) (fun b_322 => bd (hm_X4_keepsOut  P_318 b_314 r_319 b_322) (fun r_324 P_323 => ck (kk P_318 b_314 5) (if r_324 = (0 : Int32) then (ck (kk P_323 b_314 5) (if (r_319 &&& (pI P_323 b_314 4)) = (0 : Int32) then (hm_X8_clash_117 k31 o0 x2 x3 o4 x5 x6 x7 P_323) else (lt_ (x6 + (1 : Int32)) (fun x6_328 => hm_X8_clash_117 k31 o0 x2 x3 o4 x5 x6_328 x7 P_323)))) else (lt_ (x5 + (1 : Int32)) (fun x5_329 => hm_X8_clash_117 k31 o0 x2 x3 o4 x5_329 x6 x7 P_323)))))))))) else (hm_X8_clash_117 k31 o0 x2 x3 o4 x5 x6 x7 P_310))))))))))))
def hm_X8_clash_31L : Nat → Nat → Int32 → Int32 → Nat → Int32 → Int32 → Int32 → PS → Option (Int32 × PS)
  | 0, _, _, _, _, _, _, _, _ => none
  | n + 1, o0, x2, x3, o4, x5, x6, x7, P => hm_X8_clash_31  (hm_X8_clash_31L  n) o0 x2 x3 o4 x5 x6 x7 P
def hm_X8_clash (P : PS) (th : Nat) (a1 : Int32) (a2 : Int32) (a3 : Int32) : Option (Int32 × PS) := bd (hm_X8_wordAt  P th a1) (fun o_431 P_430 => ck (kk P th 9) (nl o_431 (hm_X8_clash_20   P_430) (fun b_434 => bd (hm_X8_isOffer  P_430 a2 a3) (fun r_436 P_435 => if r_436 = (0 : Int32) then (hm_X8_clash_20   P_435) else (lt_ ((0 : Int32)) (fun x5_438 => lt_ ((0 : Int32)) (fun x6_439 => lt_ ((0 : Int32)) (fun x7_440 => hm_X8_clash_31L  4000 th a2 a3 b_434 x5_438 x6_439 x7_440 P_435))))))))
abbrev wu_X8_clash : List Cond := .code yX8_clash cX8_clash 10 (some .int) :: wsL_law
theorem ud_X8_clash : yX8_clash.cls = RX8 ∧ yX8_clash.cls ≠ "java/lang/invoke/MethodHandle" ∧ yX8_clash.cls ≠ "java/lang/invoke/VarHandle" ∧ (parseMethodDescriptor yX8_clash.desc).map (fun d => d.parameters.length) = some 3 := by decide +kernel
abbrev rmc_X8_clash : Room := { frames := 5, cells := 0, slots := 0, locals := 110 }
set_option maxHeartbeats 4000000 in
set_option maxRecDepth 100000 in
theorem hcc_X8_clash (l : Launch) (D : va_G) (cs : Nat → ClassId) (t0 : TS) (P0 T : PS) (th : Nat) (a1 : Int32) (a2 : Int32) (a3 : Int32) (r0 : Int32) (h : hm_X8_clash P0 th a1 a2 a3 = some (r0, T)) : MetCI l yX8_clash wu_X8_clash rmc_X8_clash D cs t0 [.ref th, .int a1, .int a2, .int a3] P0 T r0 0 0 := by
  refine co_start (own := RX8) (ty := (some .int)) (cc := cX8_clash) (maxL := 10) ⟨by decide, rfl⟩ rfl (Nat.le_of_ble_eq_true rfl) ?_
  intro p e s m args below meth c ls cx hnm hl w
  have hx := cx.1
  have hb := cx.2.1
  have hts := cx.2.2.2.1
  have hown := cx.2.2.2.2.1
  have hml := cx.2.2.2.2.2.2
  have hsub : ∀ w ∈ wsL_law, w ∈ wu_X8_clash := fun _ hq => List.mem_cons_of_mem _ hq
  have hl : lv_has ls 10 [(0, .ref th), (1, .int a1), (2, .int a2), (3, .int a3)] := hl
  have J20 : ∀  (P : PS), hm_X8_clash_20   P = some (r0, T) → cGo p l e rmc_X8_clash s m args below meth c 10 D cs t0 (pA P0) (cQI below D cs P0 args s 0 0 r0 T) 0 0 20 [] [] P := by
    intro  P h H locs ls hl w
    unfold hm_X8_clash_20 at h
    refine lv_iconst (v := (-1 : Int32)) hx hb dX8_clash_20 (by decide) ?_
    exact cw_iret cx (rt_e h) w dX8_clash_21
  have J117 : ∀ (k31 : Nat → Int32 → Int32 → Nat → Int32 → Int32 → Int32 → PS → Option (Int32 × PS)) (hk31 : ∀ (o0 : Nat) (x2 : Int32) (x3 : Int32) (o4 : Nat) (x5 : Int32) (x6 : Int32) (x7 : Int32) (P : PS), k31 o0 x2 x3 o4 x5 x6 x7 P = some (r0, T) → cGo p l e rmc_X8_clash s m args below meth c 10 D cs t0 (pA P0) (cQI below D cs P0 args s 0 0 r0 T) 0 0 31 [(0, .ref o0), (2, .int x2), (3, .int x3), (4, .ref o4), (5, .int x5), (6, .int x6), (7, .int x7)] [] P) (o0 : Nat) (x2 : Int32) (x3 : Int32) (o4 : Nat) (x5 : Int32) (x6 : Int32) (x7 : Int32) (P : PS), hm_X8_clash_117 k31 o0 x2 x3 o4 x5 x6 x7 P = some (r0, T) → cGo p l e rmc_X8_clash s m args below meth c 10 D cs t0 (pA P0) (cQI below D cs P0 args s 0 0 r0 T) 0 0 117 [(0, .ref o0), (2, .int x2), (3, .int x3), (4, .ref o4), (5, .int x5), (6, .int x6), (7, .int x7)] [] P := by
    intro k31 hk31 o0 x2 x3 o4 x5 x6 x7 P h H locs ls hl w
    unfold hm_X8_clash_117 at h
    replace h := lt_e h
    obtain ⟨x7_201, ex7_201, h⟩ := h
    refine lv_iinc (v := x7_201) (lv' := [(7, .int x7_201), (0, .ref o0), (2, .int x2), (3, .int x3), (4, .ref o4), (5, .int x5), (6, .int x6)]) hx hb dX8_clash_117 hl (k := 6) rfl (by rw [ex7_201]; rfl) (by decide) (rfl) (fun ls hl => ?_)
    refine lv_goto (tgt := 31) hx hb dX8_clash_120 (by decide) ?_
    exact hk31 o0 x2 x3 o4 x5 x6 x7_201 P h _ _ _ (lv_sub hl [1, 2, 3, 4, 5, 6, 0] rfl) w
  have L31 : ∀ (n : Nat) (o0 : Nat) (x2 : Int32) (x3 : Int32) (o4 : Nat) (x5 : Int32) (x6 : Int32) (x7 : Int32) (P : PS), hm_X8_clash_31L  n o0 x2 x3 o4 x5 x6 x7 P = some (r0, T) → cGo p l e rmc_X8_clash s m args below meth c 10 D cs t0 (pA P0) (cQI below D cs P0 args s 0 0 r0 T) 0 0 31 [(0, .ref o0), (2, .int x2), (3, .int x3), (4, .ref o4), (5, .int x5), (6, .int x6), (7, .int x7)] [] P := by
    intro n
    induction n with
    | zero =>
      intro o0 x2 x3 o4 x5 x6 x7 P h
      have h : none = some (r0, T) := h
      cases h
    | succ n hk31 =>
      intro o0 x2 x3 o4 x5 x6 x7 P h H locs ls hl w
      have h : hm_X8_clash_31  (hm_X8_clash_31L  n) o0 x2 x3 o4 x5 x6 x7 P = some (r0, T) := h
      generalize hm_X8_clash_31L  n = k31 at h hk31
      unfold hm_X8_clash_31 at h
      refine lv_iload hx hb dX8_clash_31 (lv_at hl 6 rfl) ?_
      refine lv_aload_n hx hb dX8_clash_33 rfl (lv_at hl 0 rfl) ?_
      replace h := ck_e h
      obtain ⟨hk_302, h⟩ := h
      replace h := nn_e h
      obtain ⟨b_303, hbb_303, h⟩ := h
      refine cw_getS cx hsub w kT9 hk_302 2 (by decide) hbb_303 ⟨hsub _ uf_RX8_24, Or.inl rfl⟩ dX8_clash_34 ?_
      replace h := bd_e h
      obtain ⟨r_305, P_304, hc_306, h⟩ := h
      replace h := ck_e h
      obtain ⟨hk_307, h⟩ := h
      refine cc_i (cr_V (As := []) (rest := [.int x7]) cx (hcc_Jx4a65c_size_8abf5 l D cs t0  P P_304 b_303 r_305 hc_306) kT0 hk_307 (cwV 0 hts (uG uw_Jx4a65c_size_8abf5 ul_RX8_80 ui_Jx4a65c_size_8abf5 us_RJx4a65c_Jx4a65c_size_8abf5 un_RJx4a65c) rfl rfl rfl ud_Jx4a65c_size_8abf5 ⟨Nat.le_of_ble_eq_true rfl, Nat.le_of_ble_eq_true rfl⟩) w rfl hl.1 rfl (Nat.le_of_ble_eq_true rfl) dX8_clash_37 ⟨(Nat.le_of_ble_eq_true rfl), (Nat.le_of_ble_eq_true rfl)⟩) (fun H locs w => ?_)
      refine lv_icmp_ge (tgt := 123) hx hb dX8_clash_40 (by decide) (fun q => ?_) (fun q => ?_)
      · replace h := br_p q h
        refine lv_iload hx hb dX8_clash_123 (lv_at hl 4 rfl) ?_
        refine lv_iload hx hb dX8_clash_125 (lv_at hl 5 rfl) ?_
        refine lv_imul hx hb dX8_clash_127 ?_
        exact cw_iret cx (rt_e h) w dX8_clash_128
      · replace h := br_n q h
        refine lv_aload_n hx hb dX8_clash_43 rfl (lv_at hl 0 rfl) ?_
        replace h := ck_e h
        obtain ⟨hk_308, h⟩ := h
        replace h := nn_e h
        obtain ⟨b_309, hbb_309, h⟩ := h
        refine cw_getS cx hsub w kT9 hk_308 2 (by decide) hbb_309 ⟨hsub _ uf_RX8_24, Or.inl rfl⟩ dX8_clash_44 ?_
        refine lv_iload hx hb dX8_clash_47 (lv_at hl 6 rfl) ?_
        replace h := bd_e h
        obtain ⟨o_311, P_310, hc_312, h⟩ := h
        replace h := ck_e h
        obtain ⟨hk_313, h⟩ := h
        refine cc_q (cr_V (As := [.int x7]) (rest := []) cx (hcc_Jx4a65c_get_915e3 l D cs t0  P_304 P_310 b_309 x7 o_311 hc_312) kT0 hk_313 (cwV 1 hts (uG uw_Jx4a65c_get_915e3 ul_RX8_220 ui_Jx4a65c_get_915e3 us_RJx4a65c_Jx4a65c_get_915e3 un_RJx4a65c) rfl rfl rfl ud_Jx4a65c_get_915e3 ⟨Nat.le_of_ble_eq_true rfl, Nat.le_of_ble_eq_true rfl⟩) w rfl hl.1 rfl (Nat.le_of_ble_eq_true rfl) dX8_clash_49 ⟨(Nat.le_of_ble_eq_true rfl), (Nat.le_of_ble_eq_true rfl)⟩) (fun H locs w => ?_)
        replace h := nn_e h
        obtain ⟨b_314, hbb_314, h⟩ := h
        subst hbb_314
        have hl : lv_has ls 10 [(0, .ref o0), (2, .int x2), (3, .int x3), (4, .ref o4), (5, .int x5), (6, .int x6), (7, .int x7)] := hl
        refine W.eq (g2 := F0 m _ ls [.ref b_314]) rfl ?_
        replace h := ck_e h
        obtain ⟨hk_315, h⟩ := h
        refine cw_cast cx w kT5 hk_315 (hsub _ ucl_RX8_153) dX8_clash_52 ?_
        refine lv_astore (lv' := [(8, .ref b_314), (0, .ref o0), (2, .int x2), (3, .int x3), (4, .ref o4), (5, .int x5), (6, .int x6), (7, .int x7)]) hx hb dX8_clash_55 hl (by decide) (rfl) (fun ls hl => ?_)
        refine lv_aload hx hb dX8_clash_57 (lv_at hl 0 rfl) ?_
        refine cw_getI cx hsub w kT5 hk_315 1 (by decide) ⟨hsub _ uf_RX8_224, Or.inl rfl⟩ dX8_clash_59 ?_
        refine lv_iload_n hx hb dX8_clash_62 rfl (lv_at hl 3 rfl) ?_
        refine lv_icmp_eq (tgt := 69) hx hb dX8_clash_63 (by decide) (fun q => ?_) (fun q => ?_)
        · replace h := br_p q h
          refine lv_aload hx hb dX8_clash_69 (lv_at hl 0 rfl) ?_
          refine lv_aload hx hb dX8_clash_71 (lv_at hl 4 rfl) ?_
          refine lv_iload_n hx hb dX8_clash_73 rfl (lv_at hl 2 rfl) ?_
          refine lv_aload_n hx hb dX8_clash_74 rfl (lv_at hl 1 rfl) ?_
          replace h := ck_e h
          obtain ⟨hk_316, h⟩ := h
          replace h := nn_e h
          obtain ⟨b_317, hbb_317, h⟩ := h
          refine cw_getS cx hsub w kT9 hk_316 4 (by decide) hbb_317 ⟨hsub _ uf_RX8_37, Or.inl rfl⟩ dX8_clash_75 ?_
          replace h := bd_e h
          obtain ⟨r_319, P_318, hc_320, h⟩ := h
          refine cc_i (cr_V (As := [.ref o4, .int x2, .ref b_317]) (rest := []) cx (hcc_X4_holding l D cs t0  P_310 P_318 b_314 o4 x2 b_317 r_319 hc_320) kT5 hk_315 (cwV 3 hts (uG uw_X4_holding ul_RX8_152 ui_X4_holding us_RX4_X4_holding un_RX4) rfl rfl rfl ud_X4_holding ⟨Nat.le_of_ble_eq_true rfl, Nat.le_of_ble_eq_true rfl⟩) w rfl hl.1 rfl (Nat.le_of_ble_eq_true rfl) dX8_clash_78 ⟨(Nat.le_of_ble_eq_true rfl), (Nat.le_of_ble_eq_true rfl)⟩) (fun H locs w => ?_)
          refine lv_istore (lv' := [(9, .int r_319), (8, .ref b_314), (0, .ref o0), (2, .int x2), (3, .int x3), (4, .ref o4), (5, .int x5), (6, .int x6), (7, .int x7)]) hx hb dX8_clash_81 hl (by decide) (rfl) (fun ls hl => ?_)
          refine lv_aload hx hb dX8_clash_83 (lv_at hl 1 rfl) ?_
          refine lv_iload hx hb dX8_clash_85 (lv_at hl 0 rfl) ?_
          refine lv_aload_n hx hb dX8_clash_87 rfl (lv_at hl 2 rfl) ?_
          replace h := ck_e h
          obtain ⟨hk_321, h⟩ := h
          replace h := nn_e h
          obtain ⟨b_322, hbb_322, h⟩ := h
          refine cw_getS cx hsub w kT9 hk_321 4 (by decide) hbb_322 ⟨hsub _ uf_RX8_37, Or.inl rfl⟩ dX8_clash_88 ?_
          replace h := bd_e h
          obtain ⟨r_324, P_323, hc_325, h⟩ := h
          replace h := ck_e h
          obtain ⟨hk_326, h⟩ := h
          refine cc_i (cr_V (As := [.int r_319, .ref b_322]) (rest := []) cx (hcc_X4_keepsOut l D cs t0  P_318 P_323 b_314 r_319 b_322 r_324 hc_325) kT5 hk_326 (cwV 2 hts (uG uw_X4_keepsOut ul_RX8_158 ui_X4_keepsOut us_RX4_X4_keepsOut un_RX4) rfl rfl rfl ud_X4_keepsOut ⟨Nat.le_of_ble_eq_true rfl, Nat.le_of_ble_eq_true rfl⟩) w rfl hl.1 rfl (Nat.le_of_ble_eq_true rfl) dX8_clash_91 ⟨(Nat.le_of_ble_eq_true rfl), (Nat.le_of_ble_eq_true rfl)⟩) (fun H locs w => ?_)
          refine lv_if_eq (tgt := 103) hx hb dX8_clash_94 (by decide) (fun q => ?_) (fun q => ?_)
          · replace h := br_p q h
            refine lv_iload hx hb dX8_clash_103 (lv_at hl 0 rfl) ?_
            refine lv_aload hx hb dX8_clash_105 (lv_at hl 1 rfl) ?_
            replace h := ck_e h
            obtain ⟨hk_327, h⟩ := h
            refine cw_getI cx hsub w kT5 hk_327 4 (by decide) ⟨hsub _ uf_RX8_227, Or.inl rfl⟩ dX8_clash_107 ?_
            refine lv_iand hx hb dX8_clash_110 ?_
            refine lv_if_eq (tgt := 117) hx hb dX8_clash_111 (by decide) (fun q => ?_) (fun q => ?_)
            · replace h := br_p q h
              exact J117 k31 hk31 o0 x2 x3 o4 x5 x6 x7 P_323 h _ _ _ (lv_sub hl [2, 3, 4, 5, 6, 7, 8] rfl) w
            · replace h := br_n q h
              replace h := lt_e h
              obtain ⟨x6_328, ex6_328, h⟩ := h
              refine lv_iinc (v := x6_328) (lv' := [(6, .int x6_328), (9, .int r_319), (8, .ref b_314), (0, .ref o0), (2, .int x2), (3, .int x3), (4, .ref o4), (5, .int x5), (7, .int x7)]) hx hb dX8_clash_114 hl (k := 7) rfl (by rw [ex6_328]; rfl) (by decide) (rfl) (fun ls hl => ?_)
              exact J117 k31 hk31 o0 x2 x3 o4 x5 x6_328 x7 P_323 h _ _ _ (lv_sub hl [3, 4, 5, 6, 7, 0, 8] rfl) w
          · replace h := br_n q h
            replace h := lt_e h
            obtain ⟨x5_329, ex5_329, h⟩ := h
            refine lv_iinc (v := x5_329) (lv' := [(5, .int x5_329), (9, .int r_319), (8, .ref b_314), (0, .ref o0), (2, .int x2), (3, .int x3), (4, .ref o4), (6, .int x6), (7, .int x7)]) hx hb dX8_clash_97 hl (k := 6) rfl (by rw [ex5_329]; rfl) (by decide) (rfl) (fun ls hl => ?_)
            refine lv_goto (tgt := 117) hx hb dX8_clash_100 (by decide) ?_
            exact J117 k31 hk31 o0 x2 x3 o4 x5_329 x6 x7 P_323 h _ _ _ (lv_sub hl [3, 4, 5, 6, 0, 7, 8] rfl) w
        · replace h := br_n q h
          refine lv_goto (tgt := 117) hx hb dX8_clash_66 (by decide) ?_
          exact J117 k31 hk31 o0 x2 x3 o4 x5 x6 x7 P_310 h _ _ _ (lv_sub hl [1, 2, 3, 4, 5, 6, 7] rfl) w
  have hP0 : P0 = P0 := rfl
  unfold hm_X8_clash at h
  refine lv_aload_n hx hb dX8_clash_0 rfl (lv_at hl 0 rfl) ?_
  refine lv_iload_n hx hb dX8_clash_1 rfl (lv_at hl 1 rfl) ?_
  replace h := bd_e h
  obtain ⟨o_431, P_430, hc_432, h⟩ := h
  replace h := ck_e h
  obtain ⟨hk_433, h⟩ := h
  refine cc_q (cr_V (As := [.int a1]) (rest := []) cx (hcc_X8_wordAt l D cs t0  P0 P_430 th a1 o_431 hc_432) kT9 hk_433 (cwV 1 hts (uG uw_X8_wordAt ul_RX8_95 ui_X8_wordAt us_RX8_X8_wordAt un_RX8) rfl rfl rfl ud_X8_wordAt ⟨Nat.le_of_ble_eq_true rfl, Nat.le_of_ble_eq_true rfl⟩) w rfl hl.1 rfl (Nat.le_of_ble_eq_true rfl) dX8_clash_2 ⟨(Nat.le_of_ble_eq_true rfl), (Nat.le_of_ble_eq_true rfl)⟩) (fun H locs w => ?_)
  refine lq_astore (lv' := [(4, va_rf o_431), (0, .ref th), (1, .int a1), (2, .int a2), (3, .int a3)]) hx hb dX8_clash_5 hl (by decide) (fun v hv => by subst hv; exact (rfl)) (fun ls hl => ?_)
  refine lq_aload hx hb dX8_clash_7 (lv_at hl 0 rfl) ?_
  cases o_431 with
  | none =>
    replace h := nl_n h
    have hl : lv_has ls 10 [(4, .null), (0, .ref th), (1, .int a1), (2, .int a2), (3, .int a3)] := hl
    refine lv_ifnullN (tgt := 20) hx hb dX8_clash_9 (by decide) ?_
    exact J20   P_430 h _ _ _ (lv_sub hl [] rfl) w
  | some b_434 =>
    replace h := nl_s h
    have hl : lv_has ls 10 [(4, .ref b_434), (0, .ref th), (1, .int a1), (2, .int a2), (3, .int a3)] := hl
    refine lv_ifnull hx hb dX8_clash_9 ?_
    refine lv_iload_n hx hb dX8_clash_12 rfl (lv_at hl 3 rfl) ?_
    refine lv_iload_n hx hb dX8_clash_13 rfl (lv_at hl 4 rfl) ?_
    replace h := bd_e h
    obtain ⟨r_436, P_435, hc_437, h⟩ := h
    refine cc_i (cr_S (As := [.int a2, .int a3]) (rest := []) cx (hcc_X8_isOffer l D cs t0  P_430 P_435 a2 a3 r_436 hc_437) (va_cwS 2 hts (uGS uw_X8_isOffer ul_RX8_166 ut_X8_isOffer un_RX8) rfl rfl rfl ud_X8_isOffer.2 ⟨Nat.le_of_ble_eq_true rfl, Nat.le_of_ble_eq_true rfl⟩) w rfl hl.1 rfl (Nat.le_of_ble_eq_true rfl) dX8_clash_14 ⟨(Nat.le_of_ble_eq_true rfl), (Nat.le_of_ble_eq_true rfl)⟩) (fun H locs w => ?_)
    refine lv_if_ne (tgt := 22) hx hb dX8_clash_17 (by decide) (fun q => ?_) (fun q => ?_)
    · replace h := br_n q h
      refine lv_iconst (v := (0 : Int32)) hx hb dX8_clash_22 (by decide) ?_
      replace h := lt_e h
      obtain ⟨x5_438, ex5_438, h⟩ := h
      refine top_i ex5_438 ?_
      refine lv_istore (lv' := [(5, .int x5_438), (4, .ref b_434), (0, .ref th), (1, .int a1), (2, .int a2), (3, .int a3)]) hx hb dX8_clash_23 hl (by decide) (rfl) (fun ls hl => ?_)
      refine lv_iconst (v := (0 : Int32)) hx hb dX8_clash_25 (by decide) ?_
      replace h := lt_e h
      obtain ⟨x6_439, ex6_439, h⟩ := h
      refine top_i ex6_439 ?_
      refine lv_istore (lv' := [(6, .int x6_439), (5, .int x5_438), (4, .ref b_434), (0, .ref th), (1, .int a1), (2, .int a2), (3, .int a3)]) hx hb dX8_clash_26 hl (by decide) (rfl) (fun ls hl => ?_)
      refine lv_iconst (v := (0 : Int32)) hx hb dX8_clash_28 (by decide) ?_
      replace h := lt_e h
      obtain ⟨x7_440, ex7_440, h⟩ := h
      refine top_i ex7_440 ?_
      refine lv_istore (lv' := [(7, .int x7_440), (6, .int x6_439), (5, .int x5_438), (4, .ref b_434), (0, .ref th), (1, .int a1), (2, .int a2), (3, .int a3)]) hx hb dX8_clash_29 hl (by decide) (rfl) (fun ls hl => ?_)
      exact L31  4000 th a2 a3 b_434 x5_438 x6_439 x7_440 P_435 h _ _ _ (lv_sub hl [4, 6, 7, 3, 2, 1, 0] rfl) w
    · replace h := br_p q h
      exact J20   P_435 h _ _ _ (lv_sub hl [] rfl) w
def hm_X8_isMet_54 (k3 : Nat → Nat → Int32 → Int32 → Int32 → PS → Option (Int32 × PS)) (o0 : Nat) (o1 : Nat) (x2 : Int32) (x3 : Int32) (x4 : Int32) (P : PS) : Option (Int32 × PS) := lt_ (x4 + (1 : Int32)) (fun x4_101 => k3 o0 o1 x2 x3 x4_101 P)
def hm_X8_isMet_3 (k3 : Nat → Nat → Int32 → Int32 → Int32 → PS → Option (Int32 × PS)) (o0 : Nat) (o1 : Nat) (x2 : Int32) (x3 : Int32) (x4 : Int32) (P : PS) : Option (Int32 × PS) := ck (kk P o0 9) (nn (pR P o0 2) (fun b_203 => bd (hm_Jx4a65c_size_8abf5  P b_203) (fun r_205 P_204 => ck (kk P b_203 0) (if r_205 ≤ x4 then (some ((0 : Int32), P_204)) else (ck (kk P_204 o0 9) (nn (pR P_204 o0 2) (fun b_209 => bd (hm_Jx4a65c_get_915e3  P_204 b_209 x4) (fun o_211 P_210 => ck (kk P_204 b_209 0) (nn o_211 (fun b_214 => ck (kk P_210 b_214 5) (if (pI P_210 b_214 1) = x3 then (ck (kk P_210 o0 9) (nn (pR P_210 o0 4) (fun b_217 => bd (hm_X4_holding  P_210 b_214 o1 x2 b_217) (fun r_219 P_218 => if r_219 = (0 : Int32) then (hm_X8_isMet_54 k3 o0 o1 x2 x3 x4 P_218) else (some ((1 : Int32), P_218)))))) else (hm_X8_isMet_54 k3 o0 o1 x2 x3 x4 P_210))))))))))))
def hm_X8_isMet_3L : Nat → Nat → Nat → Int32 → Int32 → Int32 → PS → Option (Int32 × PS)
  | 0, _, _, _, _, _, _ => none
  | n + 1, o0, o1, x2, x3, x4, P => hm_X8_isMet_3  (hm_X8_isMet_3L  n) o0 o1 x2 x3 x4 P
def hm_X8_isMet (P : PS) (th : Nat) (a1 : Nat) (a2 : Int32) (a3 : Int32) : Option (Int32 × PS) := lt_ ((0 : Int32)) (fun x4_321 => hm_X8_isMet_3L  4000 th a1 a2 a3 x4_321 P)
abbrev wu_X8_isMet : List Cond := .code yX8_isMet cX8_isMet 6 (some .boolean) :: wsL_law
theorem ud_X8_isMet : yX8_isMet.cls = RX8 ∧ yX8_isMet.cls ≠ "java/lang/invoke/MethodHandle" ∧ yX8_isMet.cls ≠ "java/lang/invoke/VarHandle" ∧ (parseMethodDescriptor yX8_isMet.desc).map (fun d => d.parameters.length) = some 3 := by decide +kernel
abbrev rmc_X8_isMet : Room := { frames := 4, cells := 0, slots := 0, locals := 90 }
set_option maxHeartbeats 4000000 in
set_option maxRecDepth 100000 in
theorem hcc_X8_isMet (l : Launch) (D : va_G) (cs : Nat → ClassId) (t0 : TS) (P0 T : PS) (th : Nat) (a1 : Nat) (a2 : Int32) (a3 : Int32) (r0 : Int32) (h : hm_X8_isMet P0 th a1 a2 a3 = some (r0, T)) : MetCI l yX8_isMet wu_X8_isMet rmc_X8_isMet D cs t0 [.ref th, .ref a1, .int a2, .int a3] P0 T r0 0 0 := by
  refine co_start (own := RX8) (ty := (some .boolean)) (cc := cX8_isMet) (maxL := 6) ⟨by decide, rfl⟩ rfl (Nat.le_of_ble_eq_true rfl) ?_
  intro p e s m args below meth c ls cx hnm hl w
  have hx := cx.1
  have hb := cx.2.1
  have hts := cx.2.2.2.1
  have hown := cx.2.2.2.2.1
  have hml := cx.2.2.2.2.2.2
  have hsub : ∀ w ∈ wsL_law, w ∈ wu_X8_isMet := fun _ hq => List.mem_cons_of_mem _ hq
  have hl : lv_has ls 6 [(0, .ref th), (1, .ref a1), (2, .int a2), (3, .int a3)] := hl
  have J54 : ∀ (k3 : Nat → Nat → Int32 → Int32 → Int32 → PS → Option (Int32 × PS)) (hk3 : ∀ (o0 : Nat) (o1 : Nat) (x2 : Int32) (x3 : Int32) (x4 : Int32) (P : PS), k3 o0 o1 x2 x3 x4 P = some (r0, T) → cGo p l e rmc_X8_isMet s m args below meth c 6 D cs t0 (pA P0) (cQI below D cs P0 args s 0 0 r0 T) 0 0 3 [(0, .ref o0), (1, .ref o1), (2, .int x2), (3, .int x3), (4, .int x4)] [] P) (o0 : Nat) (o1 : Nat) (x2 : Int32) (x3 : Int32) (x4 : Int32) (P : PS), hm_X8_isMet_54 k3 o0 o1 x2 x3 x4 P = some (r0, T) → cGo p l e rmc_X8_isMet s m args below meth c 6 D cs t0 (pA P0) (cQI below D cs P0 args s 0 0 r0 T) 0 0 54 [(0, .ref o0), (1, .ref o1), (2, .int x2), (3, .int x3), (4, .int x4)] [] P := by
    intro k3 hk3 o0 o1 x2 x3 x4 P h H locs ls hl w
    unfold hm_X8_isMet_54 at h
    replace h := lt_e h
    obtain ⟨x4_101, ex4_101, h⟩ := h
    refine lv_iinc (v := x4_101) (lv' := [(4, .int x4_101), (0, .ref o0), (1, .ref o1), (2, .int x2), (3, .int x3)]) hx hb dX8_isMet_54 hl (k := 4) rfl (by rw [ex4_101]; rfl) (by decide) (rfl) (fun ls hl => ?_)
    refine lv_goto (tgt := 3) hx hb dX8_isMet_57 (by decide) ?_
    exact hk3 o0 o1 x2 x3 x4_101 P h _ _ _ (lv_sub hl [1, 2, 3, 4, 0] rfl) w
  have L3 : ∀ (n : Nat) (o0 : Nat) (o1 : Nat) (x2 : Int32) (x3 : Int32) (x4 : Int32) (P : PS), hm_X8_isMet_3L  n o0 o1 x2 x3 x4 P = some (r0, T) → cGo p l e rmc_X8_isMet s m args below meth c 6 D cs t0 (pA P0) (cQI below D cs P0 args s 0 0 r0 T) 0 0 3 [(0, .ref o0), (1, .ref o1), (2, .int x2), (3, .int x3), (4, .int x4)] [] P := by
    intro n
    induction n with
    | zero =>
      intro o0 o1 x2 x3 x4 P h
      have h : none = some (r0, T) := h
      cases h
    | succ n hk3 =>
      intro o0 o1 x2 x3 x4 P h H locs ls hl w
      have h : hm_X8_isMet_3  (hm_X8_isMet_3L  n) o0 o1 x2 x3 x4 P = some (r0, T) := h
      generalize hm_X8_isMet_3L  n = k3 at h hk3
      unfold hm_X8_isMet_3 at h
      refine lv_iload hx hb dX8_isMet_3 (lv_at hl 4 rfl) ?_
      refine lv_aload_n hx hb dX8_isMet_5 rfl (lv_at hl 0 rfl) ?_
      replace h := ck_e h
      obtain ⟨hk_202, h⟩ := h
      replace h := nn_e h
      obtain ⟨b_203, hbb_203, h⟩ := h
      refine cw_getS cx hsub w kT9 hk_202 2 (by decide) hbb_203 ⟨hsub _ uf_RX8_24, Or.inl rfl⟩ dX8_isMet_6 ?_
      replace h := bd_e h
      obtain ⟨r_205, P_204, hc_206, h⟩ := h
      replace h := ck_e h
      obtain ⟨hk_207, h⟩ := h
      refine cc_i (cr_V (As := []) (rest := [.int x4]) cx (hcc_Jx4a65c_size_8abf5 l D cs t0  P P_204 b_203 r_205 hc_206) kT0 hk_207 (cwV 0 hts (uG uw_Jx4a65c_size_8abf5 ul_RX8_80 ui_Jx4a65c_size_8abf5 us_RJx4a65c_Jx4a65c_size_8abf5 un_RJx4a65c) rfl rfl rfl ud_Jx4a65c_size_8abf5 ⟨Nat.le_of_ble_eq_true rfl, Nat.le_of_ble_eq_true rfl⟩) w rfl hl.1 rfl (Nat.le_of_ble_eq_true rfl) dX8_isMet_9 ⟨(Nat.le_of_ble_eq_true rfl), (Nat.le_of_ble_eq_true rfl)⟩) (fun H locs w => ?_)
      refine lv_icmp_ge (tgt := 60) hx hb dX8_isMet_12 (by decide) (fun q => ?_) (fun q => ?_)
      · replace h := br_p q h
        refine lv_iconst (v := (0 : Int32)) hx hb dX8_isMet_60 (by decide) ?_
        exact cw_zret cx (Or.inl rfl) (rt_e h) w dX8_isMet_61
      · replace h := br_n q h
        refine lv_aload_n hx hb dX8_isMet_15 rfl (lv_at hl 0 rfl) ?_
        replace h := ck_e h
        obtain ⟨hk_208, h⟩ := h
        replace h := nn_e h
        obtain ⟨b_209, hbb_209, h⟩ := h
        refine cw_getS cx hsub w kT9 hk_208 2 (by decide) hbb_209 ⟨hsub _ uf_RX8_24, Or.inl rfl⟩ dX8_isMet_16 ?_
        refine lv_iload hx hb dX8_isMet_19 (lv_at hl 4 rfl) ?_
        replace h := bd_e h
        obtain ⟨o_211, P_210, hc_212, h⟩ := h
        replace h := ck_e h
        obtain ⟨hk_213, h⟩ := h
        refine cc_q (cr_V (As := [.int x4]) (rest := []) cx (hcc_Jx4a65c_get_915e3 l D cs t0  P_204 P_210 b_209 x4 o_211 hc_212) kT0 hk_213 (cwV 1 hts (uG uw_Jx4a65c_get_915e3 ul_RX8_220 ui_Jx4a65c_get_915e3 us_RJx4a65c_Jx4a65c_get_915e3 un_RJx4a65c) rfl rfl rfl ud_Jx4a65c_get_915e3 ⟨Nat.le_of_ble_eq_true rfl, Nat.le_of_ble_eq_true rfl⟩) w rfl hl.1 rfl (Nat.le_of_ble_eq_true rfl) dX8_isMet_21 ⟨(Nat.le_of_ble_eq_true rfl), (Nat.le_of_ble_eq_true rfl)⟩) (fun H locs w => ?_)
        replace h := nn_e h
        obtain ⟨b_214, hbb_214, h⟩ := h
        subst hbb_214
        have hl : lv_has ls 6 [(0, .ref o0), (1, .ref o1), (2, .int x2), (3, .int x3), (4, .int x4)] := hl
        refine W.eq (g2 := F0 m _ ls [.ref b_214]) rfl ?_
        replace h := ck_e h
        obtain ⟨hk_215, h⟩ := h
        refine cw_cast cx w kT5 hk_215 (hsub _ ucl_RX8_153) dX8_isMet_24 ?_
        refine lv_astore (lv' := [(5, .ref b_214), (0, .ref o0), (1, .ref o1), (2, .int x2), (3, .int x3), (4, .int x4)]) hx hb dX8_isMet_27 hl (by decide) (rfl) (fun ls hl => ?_)
        refine lv_aload hx hb dX8_isMet_29 (lv_at hl 0 rfl) ?_
        refine cw_getI cx hsub w kT5 hk_215 1 (by decide) ⟨hsub _ uf_RX8_224, Or.inl rfl⟩ dX8_isMet_31 ?_
        refine lv_iload_n hx hb dX8_isMet_34 rfl (lv_at hl 4 rfl) ?_
        refine lv_icmp_ne (tgt := 54) hx hb dX8_isMet_35 (by decide) (fun q => ?_) (fun q => ?_)
        · replace h := br_n q h
          exact J54 k3 hk3 o0 o1 x2 x3 x4 P_210 h _ _ _ (lv_sub hl [1, 2, 3, 4, 5] rfl) w
        · replace h := br_p q h
          refine lv_aload hx hb dX8_isMet_38 (lv_at hl 0 rfl) ?_
          refine lv_aload_n hx hb dX8_isMet_40 rfl (lv_at hl 2 rfl) ?_
          refine lv_iload_n hx hb dX8_isMet_41 rfl (lv_at hl 3 rfl) ?_
          refine lv_aload_n hx hb dX8_isMet_42 rfl (lv_at hl 1 rfl) ?_
          replace h := ck_e h
          obtain ⟨hk_216, h⟩ := h
          replace h := nn_e h
          obtain ⟨b_217, hbb_217, h⟩ := h
          refine cw_getS cx hsub w kT9 hk_216 4 (by decide) hbb_217 ⟨hsub _ uf_RX8_37, Or.inl rfl⟩ dX8_isMet_43 ?_
          replace h := bd_e h
          obtain ⟨r_219, P_218, hc_220, h⟩ := h
          refine cc_i (cr_V (As := [.ref o1, .int x2, .ref b_217]) (rest := []) cx (hcc_X4_holding l D cs t0  P_210 P_218 b_214 o1 x2 b_217 r_219 hc_220) kT5 hk_215 (cwV 3 hts (uG uw_X4_holding ul_RX8_152 ui_X4_holding us_RX4_X4_holding un_RX4) rfl rfl rfl ud_X4_holding ⟨Nat.le_of_ble_eq_true rfl, Nat.le_of_ble_eq_true rfl⟩) w rfl hl.1 rfl (Nat.le_of_ble_eq_true rfl) dX8_isMet_46 ⟨(Nat.le_of_ble_eq_true rfl), (Nat.le_of_ble_eq_true rfl)⟩) (fun H locs w => ?_)
          refine lv_if_eq (tgt := 54) hx hb dX8_isMet_49 (by decide) (fun q => ?_) (fun q => ?_)
          · replace h := br_p q h
            exact J54 k3 hk3 o0 o1 x2 x3 x4 P_218 h _ _ _ (lv_sub hl [1, 2, 3, 4, 5] rfl) w
          · replace h := br_n q h
            refine lv_iconst (v := (1 : Int32)) hx hb dX8_isMet_52 (by decide) ?_
            exact cw_zret cx (Or.inr rfl) (rt_e h) w dX8_isMet_53
  have hP0 : P0 = P0 := rfl
  unfold hm_X8_isMet at h
  refine lv_iconst (v := (0 : Int32)) hx hb dX8_isMet_0 (by decide) ?_
  replace h := lt_e h
  obtain ⟨x4_321, ex4_321, h⟩ := h
  refine top_i ex4_321 ?_
  refine lv_istore (lv' := [(4, .int x4_321), (0, .ref th), (1, .ref a1), (2, .int a2), (3, .int a3)]) hx hb dX8_isMet_1 hl (by decide) (rfl) (fun ls hl => ?_)
  exact L3  4000 th a1 a2 a3 x4_321 P0 h _ _ _ (lv_sub hl [1, 2, 3, 4, 0] rfl) w
def hm_X8_silent_55 (k15 : Nat → Int32 → Int32 → Int32 → Int32 → PS → Option (Int32 × PS)) (o0 : Nat) (x1 : Int32) (x2 : Int32) (x3 : Int32) (x4 : Int32) (P : PS) : Option (Int32 × PS) := lt_ (x4 + (1 : Int32)) (fun x4_101 => k15 o0 x1 x2 x3 x4_101 P)
def hm_X8_silent_15 (k15 : Nat → Int32 → Int32 → Int32 → Int32 → PS → Option (Int32 × PS)) (o0 : Nat) (x1 : Int32) (x2 : Int32) (x3 : Int32) (x4 : Int32) (P : PS) : Option (Int32 × PS) := ck (kk P o0 9) (nn (pR P o0 1) (fun b_203 => bd (hm_Jx4a65c_size_8abf5  P b_203) (fun r_205 P_204 => ck (kk P b_203 0) (if r_205 ≤ x4 then (some (x3, P_204)) else (ck (kk P_204 o0 9) (nn (pR P_204 o0 1) (fun b_209 => bd (hm_Jx4a65c_get_915e3  P_204 b_209 x4) (fun o_211 P_210 => ck (kk P_204 b_209 0) (nn o_211 (fun b_214 => ck (kk P_210 b_214 8) (bd (hm_X8_isMet  P_210 o0 b_214 x1 x2) (fun r_217 P_216 => ck (kk P_210 o0 9) (if r_217 = (0 : Int32) then (lt_ ((x3 ||| ((1 : Int32) <<< (x4 &&& 31)))) (fun x3_220 => hm_X8_silent_55 k15 o0 x1 x2 x3_220 x4 P_216)) else (hm_X8_silent_55 k15 o0 x1 x2 x3 x4 P_216))))))))))))))
def hm_X8_silent_15L : Nat → Nat → Int32 → Int32 → Int32 → Int32 → PS → Option (Int32 × PS)
  | 0, _, _, _, _, _, _ => none
  | n + 1, o0, x1, x2, x3, x4, P => hm_X8_silent_15  (hm_X8_silent_15L  n) o0 x1 x2 x3 x4 P
def hm_X8_silent (P : PS) (th : Nat) (a1 : Int32) (a2 : Int32) : Option (Int32 × PS) := bd (hm_X8_isOffer  P a1 a2) (fun r_322 P_321 => if r_322 = (0 : Int32) then (some ((-1 : Int32), P_321)) else (lt_ ((0 : Int32)) (fun x3_324 => lt_ ((0 : Int32)) (fun x4_325 => hm_X8_silent_15L  4000 th a1 a2 x3_324 x4_325 P_321))))
abbrev wu_X8_silent : List Cond := .code yX8_silent cX8_silent 5 (some .int) :: wsL_law
theorem ud_X8_silent : yX8_silent.cls = RX8 ∧ yX8_silent.cls ≠ "java/lang/invoke/MethodHandle" ∧ yX8_silent.cls ≠ "java/lang/invoke/VarHandle" ∧ (parseMethodDescriptor yX8_silent.desc).map (fun d => d.parameters.length) = some 2 := by decide +kernel
abbrev rmc_X8_silent : Room := { frames := 5, cells := 0, slots := 0, locals := 115 }
set_option maxHeartbeats 4000000 in
set_option maxRecDepth 100000 in
theorem hcc_X8_silent (l : Launch) (D : va_G) (cs : Nat → ClassId) (t0 : TS) (P0 T : PS) (th : Nat) (a1 : Int32) (a2 : Int32) (r0 : Int32) (h : hm_X8_silent P0 th a1 a2 = some (r0, T)) : MetCI l yX8_silent wu_X8_silent rmc_X8_silent D cs t0 [.ref th, .int a1, .int a2] P0 T r0 0 0 := by
  refine co_start (own := RX8) (ty := (some .int)) (cc := cX8_silent) (maxL := 5) ⟨by decide, rfl⟩ rfl (Nat.le_of_ble_eq_true rfl) ?_
  intro p e s m args below meth c ls cx hnm hl w
  have hx := cx.1
  have hb := cx.2.1
  have hts := cx.2.2.2.1
  have hown := cx.2.2.2.2.1
  have hml := cx.2.2.2.2.2.2
  have hsub : ∀ w ∈ wsL_law, w ∈ wu_X8_silent := fun _ hq => List.mem_cons_of_mem _ hq
  have hl : lv_has ls 5 [(0, .ref th), (1, .int a1), (2, .int a2)] := hl
  have J55 : ∀ (k15 : Nat → Int32 → Int32 → Int32 → Int32 → PS → Option (Int32 × PS)) (hk15 : ∀ (o0 : Nat) (x1 : Int32) (x2 : Int32) (x3 : Int32) (x4 : Int32) (P : PS), k15 o0 x1 x2 x3 x4 P = some (r0, T) → cGo p l e rmc_X8_silent s m args below meth c 5 D cs t0 (pA P0) (cQI below D cs P0 args s 0 0 r0 T) 0 0 15 [(0, .ref o0), (1, .int x1), (2, .int x2), (3, .int x3), (4, .int x4)] [] P) (o0 : Nat) (x1 : Int32) (x2 : Int32) (x3 : Int32) (x4 : Int32) (P : PS), hm_X8_silent_55 k15 o0 x1 x2 x3 x4 P = some (r0, T) → cGo p l e rmc_X8_silent s m args below meth c 5 D cs t0 (pA P0) (cQI below D cs P0 args s 0 0 r0 T) 0 0 55 [(0, .ref o0), (1, .int x1), (2, .int x2), (3, .int x3), (4, .int x4)] [] P := by
    intro k15 hk15 o0 x1 x2 x3 x4 P h H locs ls hl w
    unfold hm_X8_silent_55 at h
    replace h := lt_e h
    obtain ⟨x4_101, ex4_101, h⟩ := h
    refine lv_iinc (v := x4_101) (lv' := [(4, .int x4_101), (0, .ref o0), (1, .int x1), (2, .int x2), (3, .int x3)]) hx hb dX8_silent_55 hl (k := 4) rfl (by rw [ex4_101]; rfl) (by decide) (rfl) (fun ls hl => ?_)
    refine lv_goto (tgt := 15) hx hb dX8_silent_58 (by decide) ?_
    exact hk15 o0 x1 x2 x3 x4_101 P h _ _ _ (lv_sub hl [1, 2, 3, 4, 0] rfl) w
  have L15 : ∀ (n : Nat) (o0 : Nat) (x1 : Int32) (x2 : Int32) (x3 : Int32) (x4 : Int32) (P : PS), hm_X8_silent_15L  n o0 x1 x2 x3 x4 P = some (r0, T) → cGo p l e rmc_X8_silent s m args below meth c 5 D cs t0 (pA P0) (cQI below D cs P0 args s 0 0 r0 T) 0 0 15 [(0, .ref o0), (1, .int x1), (2, .int x2), (3, .int x3), (4, .int x4)] [] P := by
    intro n
    induction n with
    | zero =>
      intro o0 x1 x2 x3 x4 P h
      have h : none = some (r0, T) := h
      cases h
    | succ n hk15 =>
      intro o0 x1 x2 x3 x4 P h H locs ls hl w
      have h : hm_X8_silent_15  (hm_X8_silent_15L  n) o0 x1 x2 x3 x4 P = some (r0, T) := h
      generalize hm_X8_silent_15L  n = k15 at h hk15
      unfold hm_X8_silent_15 at h
      refine lv_iload hx hb dX8_silent_15 (lv_at hl 4 rfl) ?_
      refine lv_aload_n hx hb dX8_silent_17 rfl (lv_at hl 0 rfl) ?_
      replace h := ck_e h
      obtain ⟨hk_202, h⟩ := h
      replace h := nn_e h
      obtain ⟨b_203, hbb_203, h⟩ := h
      refine cw_getS cx hsub w kT9 hk_202 1 (by decide) hbb_203 ⟨hsub _ uf_RX8_20, Or.inl rfl⟩ dX8_silent_18 ?_
      replace h := bd_e h
      obtain ⟨r_205, P_204, hc_206, h⟩ := h
      replace h := ck_e h
      obtain ⟨hk_207, h⟩ := h
      refine cc_i (cr_V (As := []) (rest := [.int x4]) cx (hcc_Jx4a65c_size_8abf5 l D cs t0  P P_204 b_203 r_205 hc_206) kT0 hk_207 (cwV 0 hts (uG uw_Jx4a65c_size_8abf5 ul_RX8_80 ui_Jx4a65c_size_8abf5 us_RJx4a65c_Jx4a65c_size_8abf5 un_RJx4a65c) rfl rfl rfl ud_Jx4a65c_size_8abf5 ⟨Nat.le_of_ble_eq_true rfl, Nat.le_of_ble_eq_true rfl⟩) w rfl hl.1 rfl (Nat.le_of_ble_eq_true rfl) dX8_silent_21 ⟨(Nat.le_of_ble_eq_true rfl), (Nat.le_of_ble_eq_true rfl)⟩) (fun H locs w => ?_)
      refine lv_icmp_ge (tgt := 61) hx hb dX8_silent_24 (by decide) (fun q => ?_) (fun q => ?_)
      · replace h := br_p q h
        refine lv_iload_n hx hb dX8_silent_61 rfl (lv_at hl 3 rfl) ?_
        exact cw_iret cx (rt_e h) w dX8_silent_62
      · replace h := br_n q h
        refine lv_aload_n hx hb dX8_silent_27 rfl (lv_at hl 0 rfl) ?_
        refine lv_aload_n hx hb dX8_silent_28 rfl (lv_at hl 0 rfl) ?_
        replace h := ck_e h
        obtain ⟨hk_208, h⟩ := h
        replace h := nn_e h
        obtain ⟨b_209, hbb_209, h⟩ := h
        refine cw_getS cx hsub w kT9 hk_208 1 (by decide) hbb_209 ⟨hsub _ uf_RX8_20, Or.inl rfl⟩ dX8_silent_29 ?_
        refine lv_iload hx hb dX8_silent_32 (lv_at hl 4 rfl) ?_
        replace h := bd_e h
        obtain ⟨o_211, P_210, hc_212, h⟩ := h
        replace h := ck_e h
        obtain ⟨hk_213, h⟩ := h
        refine cc_q (cr_V (As := [.int x4]) (rest := [.ref o0]) cx (hcc_Jx4a65c_get_915e3 l D cs t0  P_204 P_210 b_209 x4 o_211 hc_212) kT0 hk_213 (cwV 1 hts (uG uw_Jx4a65c_get_915e3 ul_RX8_220 ui_Jx4a65c_get_915e3 us_RJx4a65c_Jx4a65c_get_915e3 un_RJx4a65c) rfl rfl rfl ud_Jx4a65c_get_915e3 ⟨Nat.le_of_ble_eq_true rfl, Nat.le_of_ble_eq_true rfl⟩) w rfl hl.1 rfl (Nat.le_of_ble_eq_true rfl) dX8_silent_34 ⟨(Nat.le_of_ble_eq_true rfl), (Nat.le_of_ble_eq_true rfl)⟩) (fun H locs w => ?_)
        replace h := nn_e h
        obtain ⟨b_214, hbb_214, h⟩ := h
        subst hbb_214
        have hl : lv_has ls 5 [(0, .ref o0), (1, .int x1), (2, .int x2), (3, .int x3), (4, .int x4)] := hl
        refine W.eq (g2 := F0 m _ ls [.ref b_214, .ref o0]) rfl ?_
        replace h := ck_e h
        obtain ⟨hk_215, h⟩ := h
        refine cw_cast cx w kT8 hk_215 (hsub _ ucl_RX8_84) dX8_silent_37 ?_
        refine lv_iload_n hx hb dX8_silent_40 rfl (lv_at hl 1 rfl) ?_
        refine lv_iload_n hx hb dX8_silent_41 rfl (lv_at hl 2 rfl) ?_
        replace h := bd_e h
        obtain ⟨r_217, P_216, hc_218, h⟩ := h
        replace h := ck_e h
        obtain ⟨hk_219, h⟩ := h
        refine cc_i (cr_V (As := [.ref b_214, .int x1, .int x2]) (rest := []) cx (hcc_X8_isMet l D cs t0  P_210 P_216 o0 b_214 x1 x2 r_217 hc_218) kT9 hk_219 (cwV 3 hts (uG uw_X8_isMet ul_RX8_230 ui_X8_isMet us_RX8_X8_isMet un_RX8) rfl rfl rfl ud_X8_isMet ⟨Nat.le_of_ble_eq_true rfl, Nat.le_of_ble_eq_true rfl⟩) w rfl hl.1 rfl (Nat.le_of_ble_eq_true rfl) dX8_silent_42 ⟨(Nat.le_of_ble_eq_true rfl), (Nat.le_of_ble_eq_true rfl)⟩) (fun H locs w => ?_)
        refine lv_if_ne (tgt := 55) hx hb dX8_silent_45 (by decide) (fun q => ?_) (fun q => ?_)
        · replace h := br_n q h
          exact J55 k15 hk15 o0 x1 x2 x3 x4 P_216 h _ _ _ (lv_sub hl [0, 1, 2, 3, 4] rfl) w
        · replace h := br_p q h
          refine lv_iload_n hx hb dX8_silent_48 rfl (lv_at hl 3 rfl) ?_
          refine lv_iconst (v := (1 : Int32)) hx hb dX8_silent_49 (by decide) ?_
          refine lv_iload hx hb dX8_silent_50 (lv_at hl 4 rfl) ?_
          refine lv_ishl hx hb dX8_silent_52 ?_
          refine lv_ior hx hb dX8_silent_53 ?_
          replace h := lt_e h
          obtain ⟨x3_220, ex3_220, h⟩ := h
          refine top_i ex3_220 ?_
          refine lv_istore_n (lv' := [(3, .int x3_220), (0, .ref o0), (1, .int x1), (2, .int x2), (4, .int x4)]) hx hb dX8_silent_54 rfl hl (by decide) (rfl) (fun ls hl => ?_)
          exact J55 k15 hk15 o0 x1 x2 x3_220 x4 P_216 h _ _ _ (lv_sub hl [1, 2, 3, 0, 4] rfl) w
  have hP0 : P0 = P0 := rfl
  unfold hm_X8_silent at h
  refine lv_iload_n hx hb dX8_silent_0 rfl (lv_at hl 1 rfl) ?_
  refine lv_iload_n hx hb dX8_silent_1 rfl (lv_at hl 2 rfl) ?_
  replace h := bd_e h
  obtain ⟨r_322, P_321, hc_323, h⟩ := h
  refine cc_i (cr_S (As := [.int a1, .int a2]) (rest := []) cx (hcc_X8_isOffer l D cs t0  P0 P_321 a1 a2 r_322 hc_323) (va_cwS 2 hts (uGS uw_X8_isOffer ul_RX8_166 ut_X8_isOffer un_RX8) rfl rfl rfl ud_X8_isOffer.2 ⟨Nat.le_of_ble_eq_true rfl, Nat.le_of_ble_eq_true rfl⟩) w rfl hl.1 rfl (Nat.le_of_ble_eq_true rfl) dX8_silent_2 ⟨(Nat.le_of_ble_eq_true rfl), (Nat.le_of_ble_eq_true rfl)⟩) (fun H locs w => ?_)
  refine lv_if_ne (tgt := 10) hx hb dX8_silent_5 (by decide) (fun q => ?_) (fun q => ?_)
  · replace h := br_n q h
    refine lv_iconst (v := (0 : Int32)) hx hb dX8_silent_10 (by decide) ?_
    replace h := lt_e h
    obtain ⟨x3_324, ex3_324, h⟩ := h
    refine top_i ex3_324 ?_
    refine lv_istore_n (lv' := [(3, .int x3_324), (0, .ref th), (1, .int a1), (2, .int a2)]) hx hb dX8_silent_11 rfl hl (by decide) (rfl) (fun ls hl => ?_)
    refine lv_iconst (v := (0 : Int32)) hx hb dX8_silent_12 (by decide) ?_
    replace h := lt_e h
    obtain ⟨x4_325, ex4_325, h⟩ := h
    refine top_i ex4_325 ?_
    refine lv_istore (lv' := [(4, .int x4_325), (3, .int x3_324), (0, .ref th), (1, .int a1), (2, .int a2)]) hx hb dX8_silent_13 hl (by decide) (rfl) (fun ls hl => ?_)
    exact L15  4000 th a1 a2 x3_324 x4_325 P_321 h _ _ _ (lv_sub hl [2, 3, 4, 1, 0] rfl) w
  · replace h := br_p q h
    refine lv_iconst (v := (-1 : Int32)) hx hb dX8_silent_8 (by decide) ?_
    exact cw_iret cx (rt_e h) w dX8_silent_9
def hm_X8_heardTo_90 (k13 : Nat → Int32 → Int32 → Nat → Int32 → Int32 → Int32 → PS → Option (Int32 × PS)) (o0 : Nat) (x1 : Int32) (x2 : Int32) (o3 : Nat) (x4 : Int32) (x5 : Int32) (x6 : Int32) (P : PS) : Option (Int32 × PS) := lt_ (x6 + (1 : Int32)) (fun x6_101 => k13 o0 x1 x2 o3 x4 x5 x6_101 P)
def hm_X8_heardTo_62 (k13 : Nat → Int32 → Int32 → Nat → Int32 → Int32 → Int32 → PS → Option (Int32 × PS)) (o0 : Nat) (x1 : Int32) (x2 : Int32) (o3 : Nat) (x4 : Int32) (x5 : Int32) (x6 : Int32) (o7 : Nat) (sv0 : Int32) (P : PS) : Option (Int32 × PS) := if sv0 = (0 : Int32) then (hm_X8_heardTo_90 k13 o0 x1 x2 o3 x4 x5 x6 P) else (bd (hm_X8_keeper  P o0 o7 x1 x2 o3) (fun r_203 P_202 => ck (kk P o0 9) (if (0 : Int32) ≤ r_203 then (hm_X8_heardTo_90 k13 o0 x1 x2 o3 x4 x5 x6 P_202) else (lt_ ((x5 ||| ((1 : Int32) <<< (x6 &&& 31)))) (fun x5_206 => hm_X8_heardTo_90 k13 o0 x1 x2 o3 x4 x5_206 x6 P_202)))))
def hm_X8_heardTo_57 (k13 : Nat → Int32 → Int32 → Nat → Int32 → Int32 → Int32 → PS → Option (Int32 × PS)) (o0 : Nat) (x1 : Int32) (x2 : Int32) (o3 : Nat) (x4 : Int32) (x5 : Int32) (x6 : Int32) (o7 : Nat) (P : PS) : Option (Int32 × PS) := hm_X8_heardTo_62 k13 o0 x1 x2 o3 x4 x5 x6 o7 (1 : Int32) P
def hm_X8_heardTo_13 (k13 : Nat → Int32 → Int32 → Nat → Int32 → Int32 → Int32 → PS → Option (Int32 × PS)) (o0 : Nat) (x1 : Int32) (x2 : Int32) (o3 : Nat) (x4 : Int32) (x5 : Int32) (x6 : Int32) (P : PS) : Option (Int32 × PS) := ck (kk P o0 9) (nn (pR P o0 1) (fun b_408 => bd (hm_Jx4a65c_size_8abf5  P b_408) (fun r_410 P_409 => ck (kk P b_408 0) (if r_410 ≤ x6 then (some (x5, P_409)) else (ck (kk P_409 o0 9) (nn (pR P_409 o0 1) (fun b_414 => bd (hm_Jx4a65c_get_915e3  P_409 b_414 x6) (fun o_416 P_415 => ck (kk P_409 b_414 0) (nn o_416 (fun b_419 => ck (kk P_415 b_419 8) (if x1 = (1 : Int32) then (hm_X8_heardTo_57 k13 o0 x1 x2 o3 x4 x5 x6 b_419 P_415) else (if ((pI P_415 b_419 6) &&& (x4 ^^^ (-1 : Int32))) = (0 : Int32) then (hm_X8_heardTo_57 k13 o0 x1 x2 o3 x4 x5 x6 b_419 P_415) else (hm_X8_heardTo_62 k13 o0 x1 x2 o3 x4 x5 x6 b_419 (0 : Int32) P_415)))))))))))))
def hm_X8_heardTo_13L : Nat → Nat → Int32 → Int32 → Nat → Int32 → Int32 → Int32 → PS → Option (Int32 × PS)
  | 0, _, _, _, _, _, _, _, _ => none
  | n + 1, o0, x1, x2, o3, x4, x5, x6, P => hm_X8_heardTo_13  (hm_X8_heardTo_13L  n) o0 x1 x2 o3 x4 x5 x6 P
def hm_X8_heardTo (P : PS) (th : Nat) (a1 : Int32) (a2 : Int32) (a3 : Nat) (a4 : Int32) : Option (Int32 × PS) := if a1 = (0 : Int32) then (some (a4, P)) else (lt_ ((0 : Int32)) (fun x5_521 => lt_ ((0 : Int32)) (fun x6_522 => hm_X8_heardTo_13L  4000 th a1 a2 a3 a4 x5_521 x6_522 P)))
abbrev wu_X8_heardTo : List Cond := .code yX8_heardTo cX8_heardTo 9 (some .int) :: wsL_law
theorem ud_X8_heardTo : yX8_heardTo.cls = RX8 ∧ yX8_heardTo.cls ≠ "java/lang/invoke/MethodHandle" ∧ yX8_heardTo.cls ≠ "java/lang/invoke/VarHandle" ∧ (parseMethodDescriptor yX8_heardTo.desc).map (fun d => d.parameters.length) = some 4 := by decide +kernel
abbrev rmc_X8_heardTo : Room := { frames := 6, cells := 0, slots := 0, locals := 136 }
set_option maxHeartbeats 4000000 in
set_option maxRecDepth 100000 in
theorem hcc_X8_heardTo (l : Launch) (D : va_G) (cs : Nat → ClassId) (t0 : TS) (P0 T : PS) (th : Nat) (a1 : Int32) (a2 : Int32) (a3 : Nat) (a4 : Int32) (r0 : Int32) (h : hm_X8_heardTo P0 th a1 a2 a3 a4 = some (r0, T)) : MetCI l yX8_heardTo wu_X8_heardTo rmc_X8_heardTo D cs t0 [.ref th, .int a1, .int a2, .ref a3, .int a4] P0 T r0 0 0 := by
  refine co_start (own := RX8) (ty := (some .int)) (cc := cX8_heardTo) (maxL := 9) ⟨by decide, rfl⟩ rfl (Nat.le_of_ble_eq_true rfl) ?_
  intro p e s m args below meth c ls cx hnm hl w
  have hx := cx.1
  have hb := cx.2.1
  have hts := cx.2.2.2.1
  have hown := cx.2.2.2.2.1
  have hml := cx.2.2.2.2.2.2
  have hsub : ∀ w ∈ wsL_law, w ∈ wu_X8_heardTo := fun _ hq => List.mem_cons_of_mem _ hq
  have hl : lv_has ls 9 [(0, .ref th), (1, .int a1), (2, .int a2), (3, .ref a3), (4, .int a4)] := hl
  have J90 : ∀ (k13 : Nat → Int32 → Int32 → Nat → Int32 → Int32 → Int32 → PS → Option (Int32 × PS)) (hk13 : ∀ (o0 : Nat) (x1 : Int32) (x2 : Int32) (o3 : Nat) (x4 : Int32) (x5 : Int32) (x6 : Int32) (P : PS), k13 o0 x1 x2 o3 x4 x5 x6 P = some (r0, T) → cGo p l e rmc_X8_heardTo s m args below meth c 9 D cs t0 (pA P0) (cQI below D cs P0 args s 0 0 r0 T) 0 0 13 [(0, .ref o0), (1, .int x1), (2, .int x2), (3, .ref o3), (4, .int x4), (5, .int x5), (6, .int x6)] [] P) (o0 : Nat) (x1 : Int32) (x2 : Int32) (o3 : Nat) (x4 : Int32) (x5 : Int32) (x6 : Int32) (P : PS), hm_X8_heardTo_90 k13 o0 x1 x2 o3 x4 x5 x6 P = some (r0, T) → cGo p l e rmc_X8_heardTo s m args below meth c 9 D cs t0 (pA P0) (cQI below D cs P0 args s 0 0 r0 T) 0 0 90 [(0, .ref o0), (1, .int x1), (2, .int x2), (3, .ref o3), (4, .int x4), (5, .int x5), (6, .int x6)] [] P := by
    intro k13 hk13 o0 x1 x2 o3 x4 x5 x6 P h H locs ls hl w
    unfold hm_X8_heardTo_90 at h
    replace h := lt_e h
    obtain ⟨x6_101, ex6_101, h⟩ := h
    refine lv_iinc (v := x6_101) (lv' := [(6, .int x6_101), (0, .ref o0), (1, .int x1), (2, .int x2), (3, .ref o3), (4, .int x4), (5, .int x5)]) hx hb dX8_heardTo_90 hl (k := 6) rfl (by rw [ex6_101]; rfl) (by decide) (rfl) (fun ls hl => ?_)
    refine lv_goto (tgt := 13) hx hb dX8_heardTo_93 (by decide) ?_
    exact hk13 o0 x1 x2 o3 x4 x5 x6_101 P h _ _ _ (lv_sub hl [1, 2, 3, 4, 5, 6, 0] rfl) w
  have J62 : ∀ (k13 : Nat → Int32 → Int32 → Nat → Int32 → Int32 → Int32 → PS → Option (Int32 × PS)) (hk13 : ∀ (o0 : Nat) (x1 : Int32) (x2 : Int32) (o3 : Nat) (x4 : Int32) (x5 : Int32) (x6 : Int32) (P : PS), k13 o0 x1 x2 o3 x4 x5 x6 P = some (r0, T) → cGo p l e rmc_X8_heardTo s m args below meth c 9 D cs t0 (pA P0) (cQI below D cs P0 args s 0 0 r0 T) 0 0 13 [(0, .ref o0), (1, .int x1), (2, .int x2), (3, .ref o3), (4, .int x4), (5, .int x5), (6, .int x6)] [] P) (o0 : Nat) (x1 : Int32) (x2 : Int32) (o3 : Nat) (x4 : Int32) (x5 : Int32) (x6 : Int32) (o7 : Nat) (sv0 : Int32) (P : PS), hm_X8_heardTo_62 k13 o0 x1 x2 o3 x4 x5 x6 o7 sv0 P = some (r0, T) → cGo p l e rmc_X8_heardTo s m args below meth c 9 D cs t0 (pA P0) (cQI below D cs P0 args s 0 0 r0 T) 0 0 62 [(0, .ref o0), (1, .int x1), (2, .int x2), (3, .ref o3), (4, .int x4), (5, .int x5), (6, .int x6), (7, .ref o7)] [.int sv0] P := by
    intro k13 hk13 o0 x1 x2 o3 x4 x5 x6 o7 sv0 P h H locs ls hl w
    unfold hm_X8_heardTo_62 at h
    refine lv_istore (lv' := [(8, .int sv0), (0, .ref o0), (1, .int x1), (2, .int x2), (3, .ref o3), (4, .int x4), (5, .int x5), (6, .int x6), (7, .ref o7)]) hx hb dX8_heardTo_62 hl (by decide) (rfl) (fun ls hl => ?_)
    refine lv_iload hx hb dX8_heardTo_64 (lv_at hl 0 rfl) ?_
    refine lv_if_eq (tgt := 90) hx hb dX8_heardTo_66 (by decide) (fun q => ?_) (fun q => ?_)
    · replace h := br_p q h
      exact J90 k13 hk13 o0 x1 x2 o3 x4 x5 x6 P h _ _ _ (lv_sub hl [1, 2, 3, 4, 5, 6, 7] rfl) w
    · replace h := br_n q h
      refine lv_aload_n hx hb dX8_heardTo_69 rfl (lv_at hl 1 rfl) ?_
      refine lv_aload hx hb dX8_heardTo_70 (lv_at hl 8 rfl) ?_
      refine lv_iload_n hx hb dX8_heardTo_72 rfl (lv_at hl 2 rfl) ?_
      refine lv_iload_n hx hb dX8_heardTo_73 rfl (lv_at hl 3 rfl) ?_
      refine lv_aload_n hx hb dX8_heardTo_74 rfl (lv_at hl 4 rfl) ?_
      replace h := bd_e h
      obtain ⟨r_203, P_202, hc_204, h⟩ := h
      replace h := ck_e h
      obtain ⟨hk_205, h⟩ := h
      refine cc_i (cr_V (As := [.ref o7, .int x1, .int x2, .ref o3]) (rest := []) cx (hcc_X8_keeper l D cs t0  P P_202 o0 o7 x1 x2 o3 r_203 hc_204) kT9 hk_205 (cwV 4 hts (uG uw_X8_keeper ul_RX8_173 ui_X8_keeper us_RX8_X8_keeper un_RX8) rfl rfl rfl ud_X8_keeper ⟨Nat.le_of_ble_eq_true rfl, Nat.le_of_ble_eq_true rfl⟩) w rfl hl.1 rfl (Nat.le_of_ble_eq_true rfl) dX8_heardTo_75 ⟨(Nat.le_of_ble_eq_true rfl), (Nat.le_of_ble_eq_true rfl)⟩) (fun H locs w => ?_)
      refine lv_if_ge (tgt := 90) hx hb dX8_heardTo_78 (by decide) (fun q => ?_) (fun q => ?_)
      · replace h := br_p q h
        exact J90 k13 hk13 o0 x1 x2 o3 x4 x5 x6 P_202 h _ _ _ (lv_sub hl [1, 2, 3, 4, 5, 6, 7] rfl) w
      · replace h := br_n q h
        refine lv_iload hx hb dX8_heardTo_81 (lv_at hl 6 rfl) ?_
        refine lv_iconst (v := (1 : Int32)) hx hb dX8_heardTo_83 (by decide) ?_
        refine lv_iload hx hb dX8_heardTo_84 (lv_at hl 7 rfl) ?_
        refine lv_ishl hx hb dX8_heardTo_86 ?_
        refine lv_ior hx hb dX8_heardTo_87 ?_
        replace h := lt_e h
        obtain ⟨x5_206, ex5_206, h⟩ := h
        refine top_i ex5_206 ?_
        refine lv_istore (lv' := [(5, .int x5_206), (8, .int sv0), (0, .ref o0), (1, .int x1), (2, .int x2), (3, .ref o3), (4, .int x4), (6, .int x6), (7, .ref o7)]) hx hb dX8_heardTo_88 hl (by decide) (rfl) (fun ls hl => ?_)
        exact J90 k13 hk13 o0 x1 x2 o3 x4 x5_206 x6 P_202 h _ _ _ (lv_sub hl [2, 3, 4, 5, 6, 0, 7] rfl) w
  have J57 : ∀ (k13 : Nat → Int32 → Int32 → Nat → Int32 → Int32 → Int32 → PS → Option (Int32 × PS)) (hk13 : ∀ (o0 : Nat) (x1 : Int32) (x2 : Int32) (o3 : Nat) (x4 : Int32) (x5 : Int32) (x6 : Int32) (P : PS), k13 o0 x1 x2 o3 x4 x5 x6 P = some (r0, T) → cGo p l e rmc_X8_heardTo s m args below meth c 9 D cs t0 (pA P0) (cQI below D cs P0 args s 0 0 r0 T) 0 0 13 [(0, .ref o0), (1, .int x1), (2, .int x2), (3, .ref o3), (4, .int x4), (5, .int x5), (6, .int x6)] [] P) (o0 : Nat) (x1 : Int32) (x2 : Int32) (o3 : Nat) (x4 : Int32) (x5 : Int32) (x6 : Int32) (o7 : Nat) (P : PS), hm_X8_heardTo_57 k13 o0 x1 x2 o3 x4 x5 x6 o7 P = some (r0, T) → cGo p l e rmc_X8_heardTo s m args below meth c 9 D cs t0 (pA P0) (cQI below D cs P0 args s 0 0 r0 T) 0 0 57 [(0, .ref o0), (1, .int x1), (2, .int x2), (3, .ref o3), (4, .int x4), (5, .int x5), (6, .int x6), (7, .ref o7)] [] P := by
    intro k13 hk13 o0 x1 x2 o3 x4 x5 x6 o7 P h H locs ls hl w
    unfold hm_X8_heardTo_57 at h
    refine lv_iconst (v := (1 : Int32)) hx hb dX8_heardTo_57 (by decide) ?_
    refine lv_goto (tgt := 62) hx hb dX8_heardTo_58 (by decide) ?_
    exact J62 k13 hk13 o0 x1 x2 o3 x4 x5 x6 o7 (1 : Int32) P h _ _ _ (lv_sub hl [0, 1, 2, 3, 4, 5, 6, 7] rfl) w
  have L13 : ∀ (n : Nat) (o0 : Nat) (x1 : Int32) (x2 : Int32) (o3 : Nat) (x4 : Int32) (x5 : Int32) (x6 : Int32) (P : PS), hm_X8_heardTo_13L  n o0 x1 x2 o3 x4 x5 x6 P = some (r0, T) → cGo p l e rmc_X8_heardTo s m args below meth c 9 D cs t0 (pA P0) (cQI below D cs P0 args s 0 0 r0 T) 0 0 13 [(0, .ref o0), (1, .int x1), (2, .int x2), (3, .ref o3), (4, .int x4), (5, .int x5), (6, .int x6)] [] P := by
    intro n
    induction n with
    | zero =>
      intro o0 x1 x2 o3 x4 x5 x6 P h
      have h : none = some (r0, T) := h
      cases h
    | succ n hk13 =>
      intro o0 x1 x2 o3 x4 x5 x6 P h H locs ls hl w
      have h : hm_X8_heardTo_13  (hm_X8_heardTo_13L  n) o0 x1 x2 o3 x4 x5 x6 P = some (r0, T) := h
      generalize hm_X8_heardTo_13L  n = k13 at h hk13
      unfold hm_X8_heardTo_13 at h
      refine lv_iload hx hb dX8_heardTo_13 (lv_at hl 6 rfl) ?_
      refine lv_aload_n hx hb dX8_heardTo_15 rfl (lv_at hl 0 rfl) ?_
      replace h := ck_e h
      obtain ⟨hk_407, h⟩ := h
      replace h := nn_e h
      obtain ⟨b_408, hbb_408, h⟩ := h
      refine cw_getS cx hsub w kT9 hk_407 1 (by decide) hbb_408 ⟨hsub _ uf_RX8_20, Or.inl rfl⟩ dX8_heardTo_16 ?_
      replace h := bd_e h
      obtain ⟨r_410, P_409, hc_411, h⟩ := h
      replace h := ck_e h
      obtain ⟨hk_412, h⟩ := h
      refine cc_i (cr_V (As := []) (rest := [.int x6]) cx (hcc_Jx4a65c_size_8abf5 l D cs t0  P P_409 b_408 r_410 hc_411) kT0 hk_412 (cwV 0 hts (uG uw_Jx4a65c_size_8abf5 ul_RX8_80 ui_Jx4a65c_size_8abf5 us_RJx4a65c_Jx4a65c_size_8abf5 un_RJx4a65c) rfl rfl rfl ud_Jx4a65c_size_8abf5 ⟨Nat.le_of_ble_eq_true rfl, Nat.le_of_ble_eq_true rfl⟩) w rfl hl.1 rfl (Nat.le_of_ble_eq_true rfl) dX8_heardTo_19 ⟨(Nat.le_of_ble_eq_true rfl), (Nat.le_of_ble_eq_true rfl)⟩) (fun H locs w => ?_)
      refine lv_icmp_ge (tgt := 96) hx hb dX8_heardTo_22 (by decide) (fun q => ?_) (fun q => ?_)
      · replace h := br_p q h
        refine lv_iload hx hb dX8_heardTo_96 (lv_at hl 5 rfl) ?_
        exact cw_iret cx (rt_e h) w dX8_heardTo_98
      · replace h := br_n q h
        refine lv_aload_n hx hb dX8_heardTo_25 rfl (lv_at hl 0 rfl) ?_
        replace h := ck_e h
        obtain ⟨hk_413, h⟩ := h
        replace h := nn_e h
        obtain ⟨b_414, hbb_414, h⟩ := h
        refine cw_getS cx hsub w kT9 hk_413 1 (by decide) hbb_414 ⟨hsub _ uf_RX8_20, Or.inl rfl⟩ dX8_heardTo_26 ?_
        refine lv_iload hx hb dX8_heardTo_29 (lv_at hl 6 rfl) ?_
        replace h := bd_e h
        obtain ⟨o_416, P_415, hc_417, h⟩ := h
        replace h := ck_e h
        obtain ⟨hk_418, h⟩ := h
        refine cc_q (cr_V (As := [.int x6]) (rest := []) cx (hcc_Jx4a65c_get_915e3 l D cs t0  P_409 P_415 b_414 x6 o_416 hc_417) kT0 hk_418 (cwV 1 hts (uG uw_Jx4a65c_get_915e3 ul_RX8_220 ui_Jx4a65c_get_915e3 us_RJx4a65c_Jx4a65c_get_915e3 un_RJx4a65c) rfl rfl rfl ud_Jx4a65c_get_915e3 ⟨Nat.le_of_ble_eq_true rfl, Nat.le_of_ble_eq_true rfl⟩) w rfl hl.1 rfl (Nat.le_of_ble_eq_true rfl) dX8_heardTo_31 ⟨(Nat.le_of_ble_eq_true rfl), (Nat.le_of_ble_eq_true rfl)⟩) (fun H locs w => ?_)
        replace h := nn_e h
        obtain ⟨b_419, hbb_419, h⟩ := h
        subst hbb_419
        have hl : lv_has ls 9 [(0, .ref o0), (1, .int x1), (2, .int x2), (3, .ref o3), (4, .int x4), (5, .int x5), (6, .int x6)] := hl
        refine W.eq (g2 := F0 m _ ls [.ref b_419]) rfl ?_
        replace h := ck_e h
        obtain ⟨hk_420, h⟩ := h
        refine cw_cast cx w kT8 hk_420 (hsub _ ucl_RX8_84) dX8_heardTo_34 ?_
        refine lv_astore (lv' := [(7, .ref b_419), (0, .ref o0), (1, .int x1), (2, .int x2), (3, .ref o3), (4, .int x4), (5, .int x5), (6, .int x6)]) hx hb dX8_heardTo_37 hl (by decide) (rfl) (fun ls hl => ?_)
        refine lv_iload_n hx hb dX8_heardTo_39 rfl (lv_at hl 2 rfl) ?_
        refine lv_iconst (v := (1 : Int32)) hx hb dX8_heardTo_40 (by decide) ?_
        refine lv_icmp_eq (tgt := 57) hx hb dX8_heardTo_41 (by decide) (fun q => ?_) (fun q => ?_)
        · replace h := br_p q h
          exact J57 k13 hk13 o0 x1 x2 o3 x4 x5 x6 b_419 P_415 h _ _ _ (lv_sub hl [1, 2, 3, 4, 5, 6, 7, 0] rfl) w
        · replace h := br_n q h
          refine lv_aload hx hb dX8_heardTo_44 (lv_at hl 0 rfl) ?_
          refine cw_getI cx hsub w kT8 hk_420 6 (by decide) ⟨hsub _ uf_RX8_102, Or.inl rfl⟩ dX8_heardTo_46 ?_
          refine lv_iload hx hb dX8_heardTo_49 (lv_at hl 5 rfl) ?_
          refine lv_iconst (v := (-1 : Int32)) hx hb dX8_heardTo_51 (by decide) ?_
          refine lv_ixor hx hb dX8_heardTo_52 ?_
          refine lv_iand hx hb dX8_heardTo_53 ?_
          refine lv_if_ne (tgt := 61) hx hb dX8_heardTo_54 (by decide) (fun q => ?_) (fun q => ?_)
          · replace h := br_n q h
            refine lv_iconst (v := (0 : Int32)) hx hb dX8_heardTo_61 (by decide) ?_
            exact J62 k13 hk13 o0 x1 x2 o3 x4 x5 x6 b_419 (0 : Int32) P_415 h _ _ _ (lv_sub hl [1, 2, 3, 4, 5, 6, 7, 0] rfl) w
          · replace h := br_p q h
            exact J57 k13 hk13 o0 x1 x2 o3 x4 x5 x6 b_419 P_415 h _ _ _ (lv_sub hl [1, 2, 3, 4, 5, 6, 7, 0] rfl) w
  have hP0 : P0 = P0 := rfl
  unfold hm_X8_heardTo at h
  refine lv_iload_n hx hb dX8_heardTo_0 rfl (lv_at hl 1 rfl) ?_
  refine lv_if_ne (tgt := 7) hx hb dX8_heardTo_1 (by decide) (fun q => ?_) (fun q => ?_)
  · replace h := br_n q h
    refine lv_iconst (v := (0 : Int32)) hx hb dX8_heardTo_7 (by decide) ?_
    replace h := lt_e h
    obtain ⟨x5_521, ex5_521, h⟩ := h
    refine top_i ex5_521 ?_
    refine lv_istore (lv' := [(5, .int x5_521), (0, .ref th), (1, .int a1), (2, .int a2), (3, .ref a3), (4, .int a4)]) hx hb dX8_heardTo_8 hl (by decide) (rfl) (fun ls hl => ?_)
    refine lv_iconst (v := (0 : Int32)) hx hb dX8_heardTo_10 (by decide) ?_
    replace h := lt_e h
    obtain ⟨x6_522, ex6_522, h⟩ := h
    refine top_i ex6_522 ?_
    refine lv_istore (lv' := [(6, .int x6_522), (5, .int x5_521), (0, .ref th), (1, .int a1), (2, .int a2), (3, .ref a3), (4, .int a4)]) hx hb dX8_heardTo_11 hl (by decide) (rfl) (fun ls hl => ?_)
    exact L13  4000 th a1 a2 a3 a4 x5_521 x6_522 P0 h _ _ _ (lv_sub hl [2, 3, 4, 5, 6, 1, 0] rfl) w
  · replace h := br_p q h
    refine lv_iload hx hb dX8_heardTo_4 (lv_at hl 4 rfl) ?_
    exact cw_iret cx (rt_e h) w dX8_heardTo_6
def hm_X8_hangingOn_101 (k101 : Nat → Nat → Int32 → Int32 → Int32 → Int32 → Int32 → Int32 → PS → Option (Int32 × PS)) (o0 : Nat) (o1 : Nat) (x2 : Int32) (x3 : Int32) (x4 : Int32) (x5 : Int32) (x6 : Int32) (x7 : Int32) (P : PS) : Option (Int32 × PS) := if (4 : Int32) ≤ x7 then (some (x6, P)) else (ck (kk P o1 5) (ck (kk P o0 9) (nn (pR P o0 4) (fun b_103 => ck (kk P b_103 6) (bd (hm_X8_suppose  P o0 (pI P b_103 0) x2 (0 : Int32)) (fun o_106 P_105 => nn o_106 (fun b_108 => bd (hm_X8_heardTo  P_105 o0 x7 (pI P o1 1) b_108 x4) (fun r_110 P_109 => ck (kk P_105 o0 9) (ck (kk P_109 o1 5) (ck (kk P_109 o0 9) (nn (pR P_109 o0 4) (fun b_115 => ck (kk P_109 b_115 6) (bd (hm_X8_suppose  P_109 o0 (pI P_109 b_115 0) x3 (0 : Int32)) (fun o_118 P_117 => nn o_118 (fun b_120 => bd (hm_X8_heardTo  P_117 o0 x7 (pI P_109 o1 1) b_120 x5) (fun r_122 P_121 => ck (kk P_117 o0 9) (bd (hm_J6_bitCount_0f7a4  P_121 (r_110 ^^^ r_122)) (fun r_126 P_125 => lt_ ((x6 + r_126)) (fun x6_128 => lt_ (x7 + (1 : Int32)) (fun x7_129 => k101 o0 o1 x2 x3 x4 x5 x6_128 x7_129 P_125))))))))))))))))))))
def hm_X8_hangingOn_101L : Nat → Nat → Nat → Int32 → Int32 → Int32 → Int32 → Int32 → Int32 → PS → Option (Int32 × PS)
  | 0, _, _, _, _, _, _, _, _, _ => none
  | n + 1, o0, o1, x2, x3, x4, x5, x6, x7, P => hm_X8_hangingOn_101  (hm_X8_hangingOn_101L  n) o0 o1 x2 x3 x4 x5 x6 x7 P
def hm_X8_hangingOn (P : PS) (th : Nat) (a1 : Nat) : Option (Int32 × PS) := ck (kk P a1 5) (if (pI P a1 5) = (0 : Int32) then (some ((0 : Int32), P)) else (ck (kk P th 9) (nn (pR P th 4) (fun b_232 => ck (kk P b_232 6) (lt_ (((pI P b_232 1) ||| ((1 : Int32) <<< ((pI P a1 0) &&& 31)))) (fun x2_234 => nn (pR P th 4) (fun b_235 => ck (kk P b_235 6) (lt_ (((pI P b_235 1) &&& (((1 : Int32) <<< ((pI P a1 0) &&& 31)) ^^^ (-1 : Int32)))) (fun x3_237 => bd (hm_X8_allWords  P th) (fun r_239 P_238 => ck (kk P_238 a1 5) (ck (kk P_238 th 9) (nn (pR P_238 th 4) (fun b_243 => ck (kk P_238 b_243 6) (bd (hm_X8_suppose  P_238 th (pI P_238 b_243 0) x2_234 (0 : Int32)) (fun o_246 P_245 => nn o_246 (fun b_248 => bd (hm_X8_heardToPartsEnd  P_245 th r_239 (pI P_238 a1 1) b_248) (fun r_250 P_249 => ck (kk P_245 th 9) (bd (hm_X8_allWords  P_249 th) (fun r_254 P_253 => ck (kk P_249 th 9) (ck (kk P_253 a1 5) (ck (kk P_253 th 9) (nn (pR P_253 th 4) (fun b_259 => ck (kk P_253 b_259 6) (bd (hm_X8_suppose  P_253 th (pI P_253 b_259 0) x3_237 (0 : Int32)) (fun o_262 P_261 => nn o_262 (fun b_264 => bd (hm_X8_heardToPartsEnd  P_261 th r_254 (pI P_253 a1 1) b_264) (fun r_266 P_265 => ck (kk P_261 th 9) (lt_ ((0 : Int32)) (fun x6_269 => lt_ ((0 : Int32)) (fun x7_270 => hm_X8_hangingOn_101L  4000 th a1 x2_234 x3_237 r_250 r_266 x6_269 x7_270 P_265))))))))))))))))))))))))))))))
abbrev wu_X8_hangingOn : List Cond := .code yX8_hangingOn cX8_hangingOn 10 (some .int) :: wsL_law
theorem ud_X8_hangingOn : yX8_hangingOn.cls = RX8 ∧ yX8_hangingOn.cls ≠ "java/lang/invoke/MethodHandle" ∧ yX8_hangingOn.cls ≠ "java/lang/invoke/VarHandle" ∧ (parseMethodDescriptor yX8_hangingOn.desc).map (fun d => d.parameters.length) = some 1 := by decide +kernel
abbrev rmc_X8_hangingOn : Room := { frames := 7, cells := 0, slots := 0, locals := 164 }
set_option maxHeartbeats 4000000 in
set_option maxRecDepth 100000 in
theorem hcc_X8_hangingOn (l : Launch) (D : va_G) (cs : Nat → ClassId) (t0 : TS) (P0 T : PS) (th : Nat) (a1 : Nat) (r0 : Int32) (h : hm_X8_hangingOn P0 th a1 = some (r0, T)) : MetCI l yX8_hangingOn wu_X8_hangingOn rmc_X8_hangingOn D cs t0 [.ref th, .ref a1] P0 T r0 0 0 := by
  refine co_start (own := RX8) (ty := (some .int)) (cc := cX8_hangingOn) (maxL := 10) ⟨by decide, rfl⟩ rfl (Nat.le_of_ble_eq_true rfl) ?_
  intro p e s m args below meth c ls cx hnm hl w
  have hx := cx.1
  have hb := cx.2.1
  have hts := cx.2.2.2.1
  have hown := cx.2.2.2.2.1
  have hml := cx.2.2.2.2.2.2
  have hsub : ∀ w ∈ wsL_law, w ∈ wu_X8_hangingOn := fun _ hq => List.mem_cons_of_mem _ hq
  have hl : lv_has ls 10 [(0, .ref th), (1, .ref a1)] := hl
  have L101 : ∀ (n : Nat) (o0 : Nat) (o1 : Nat) (x2 : Int32) (x3 : Int32) (x4 : Int32) (x5 : Int32) (x6 : Int32) (x7 : Int32) (P : PS), hm_X8_hangingOn_101L  n o0 o1 x2 x3 x4 x5 x6 x7 P = some (r0, T) → cGo p l e rmc_X8_hangingOn s m args below meth c 10 D cs t0 (pA P0) (cQI below D cs P0 args s 0 0 r0 T) 0 0 101 [(0, .ref o0), (1, .ref o1), (2, .int x2), (3, .int x3), (4, .int x4), (5, .int x5), (6, .int x6), (7, .int x7)] [] P := by
    intro n
    induction n with
    | zero =>
      intro o0 o1 x2 x3 x4 x5 x6 x7 P h
      have h : none = some (r0, T) := h
      cases h
    | succ n hk101 =>
      intro o0 o1 x2 x3 x4 x5 x6 x7 P h H locs ls hl w
      have h : hm_X8_hangingOn_101  (hm_X8_hangingOn_101L  n) o0 o1 x2 x3 x4 x5 x6 x7 P = some (r0, T) := h
      generalize hm_X8_hangingOn_101L  n = k101 at h hk101
      unfold hm_X8_hangingOn_101 at h
      refine lv_iload hx hb dX8_hangingOn_101 (lv_at hl 7 rfl) ?_
      refine lv_iconst (v := (4 : Int32)) hx hb dX8_hangingOn_103 (by decide) ?_
      refine lv_icmp_ge (tgt := 180) hx hb dX8_hangingOn_104 (by decide) (fun q => ?_) (fun q => ?_)
      · replace h := br_p q h
        refine lv_iload hx hb dX8_hangingOn_180 (lv_at hl 6 rfl) ?_
        exact cw_iret cx (rt_e h) w dX8_hangingOn_182
      · replace h := br_n q h
        refine lv_aload_n hx hb dX8_hangingOn_107 rfl (lv_at hl 0 rfl) ?_
        refine lv_iload hx hb dX8_hangingOn_108 (lv_at hl 7 rfl) ?_
        refine lv_aload_n hx hb dX8_hangingOn_110 rfl (lv_at hl 1 rfl) ?_
        replace h := ck_e h
        obtain ⟨hk_101, h⟩ := h
        refine cw_getI cx hsub w kT5 hk_101 1 (by decide) ⟨hsub _ uf_RX8_224, Or.inl rfl⟩ dX8_hangingOn_111 ?_
        refine lv_aload_n hx hb dX8_hangingOn_114 rfl (lv_at hl 0 rfl) ?_
        refine lv_aload_n hx hb dX8_hangingOn_115 rfl (lv_at hl 0 rfl) ?_
        replace h := ck_e h
        obtain ⟨hk_102, h⟩ := h
        replace h := nn_e h
        obtain ⟨b_103, hbb_103, h⟩ := h
        refine cw_getS cx hsub w kT9 hk_102 4 (by decide) hbb_103 ⟨hsub _ uf_RX8_37, Or.inl rfl⟩ dX8_hangingOn_116 ?_
        replace h := ck_e h
        obtain ⟨hk_104, h⟩ := h
        refine cw_getI cx hsub w kT6 hk_104 0 (by decide) ⟨hsub _ uf_RX8_128, Or.inl rfl⟩ dX8_hangingOn_119 ?_
        refine lv_iload_n hx hb dX8_hangingOn_122 rfl (lv_at hl 2 rfl) ?_
        refine lv_iconst (v := (0 : Int32)) hx hb dX8_hangingOn_123 (by decide) ?_
        replace h := bd_e h
        obtain ⟨o_106, P_105, hc_107, h⟩ := h
        refine cc_q (cr_V (As := [.int (pI P b_103 0), .int x2, .int (0 : Int32)]) (rest := [.int (pI P o1 1), .int x7, .ref o0]) cx (hcc_X8_suppose l D cs t0  P P_105 o0 (pI P b_103 0) x2 (0 : Int32) o_106 hc_107) kT9 hk_102 (cwV 3 hts (uG uw_X8_suppose ul_RX8_196 ui_X8_suppose us_RX8_X8_suppose un_RX8) rfl rfl rfl ud_X8_suppose ⟨Nat.le_of_ble_eq_true rfl, Nat.le_of_ble_eq_true rfl⟩) w rfl hl.1 rfl (Nat.le_of_ble_eq_true rfl) dX8_hangingOn_124 ⟨(Nat.le_of_ble_eq_true rfl), (Nat.le_of_ble_eq_true rfl)⟩) (fun H locs w => ?_)
        refine lv_iload hx hb dX8_hangingOn_127 (lv_at hl 4 rfl) ?_
        replace h := nn_e h
        obtain ⟨b_108, hbb_108, h⟩ := h
        subst hbb_108
        have hl : lv_has ls 10 [(0, .ref o0), (1, .ref o1), (2, .int x2), (3, .int x3), (4, .int x4), (5, .int x5), (6, .int x6), (7, .int x7)] := hl
        refine W.eq (g2 := F0 m _ ls [.int x4, .ref b_108, .int (pI P o1 1), .int x7, .ref o0]) rfl ?_
        replace h := bd_e h
        obtain ⟨r_110, P_109, hc_111, h⟩ := h
        replace h := ck_e h
        obtain ⟨hk_112, h⟩ := h
        refine cc_i (cr_V (As := [.int x7, .int (pI P o1 1), .ref b_108, .int x4]) (rest := []) cx (hcc_X8_heardTo l D cs t0  P_105 P_109 o0 x7 (pI P o1 1) b_108 x4 r_110 hc_111) kT9 hk_112 (cwV 4 hts (uG uw_X8_heardTo ul_RX8_238 ui_X8_heardTo us_RX8_X8_heardTo un_RX8) rfl rfl rfl ud_X8_heardTo ⟨Nat.le_of_ble_eq_true rfl, Nat.le_of_ble_eq_true rfl⟩) w rfl hl.1 rfl (Nat.le_of_ble_eq_true rfl) dX8_hangingOn_129 ⟨(Nat.le_of_ble_eq_true rfl), (Nat.le_of_ble_eq_true rfl)⟩) (fun H locs w => ?_)
        refine lv_istore (lv' := [(8, .int r_110), (0, .ref o0), (1, .ref o1), (2, .int x2), (3, .int x3), (4, .int x4), (5, .int x5), (6, .int x6), (7, .int x7)]) hx hb dX8_hangingOn_132 hl (by decide) (rfl) (fun ls hl => ?_)
        refine lv_aload_n hx hb dX8_hangingOn_134 rfl (lv_at hl 1 rfl) ?_
        refine lv_iload hx hb dX8_hangingOn_135 (lv_at hl 8 rfl) ?_
        refine lv_aload_n hx hb dX8_hangingOn_137 rfl (lv_at hl 2 rfl) ?_
        replace h := ck_e h
        obtain ⟨hk_113, h⟩ := h
        refine cw_getI cx hsub w kT5 hk_113 1 (by decide) ⟨hsub _ uf_RX8_224, Or.inl rfl⟩ dX8_hangingOn_138 ?_
        refine lv_aload_n hx hb dX8_hangingOn_141 rfl (lv_at hl 1 rfl) ?_
        refine lv_aload_n hx hb dX8_hangingOn_142 rfl (lv_at hl 1 rfl) ?_
        replace h := ck_e h
        obtain ⟨hk_114, h⟩ := h
        replace h := nn_e h
        obtain ⟨b_115, hbb_115, h⟩ := h
        refine cw_getS cx hsub w kT9 hk_114 4 (by decide) hbb_115 ⟨hsub _ uf_RX8_37, Or.inl rfl⟩ dX8_hangingOn_143 ?_
        replace h := ck_e h
        obtain ⟨hk_116, h⟩ := h
        refine cw_getI cx hsub w kT6 hk_116 0 (by decide) ⟨hsub _ uf_RX8_128, Or.inl rfl⟩ dX8_hangingOn_146 ?_
        refine lv_iload_n hx hb dX8_hangingOn_149 rfl (lv_at hl 4 rfl) ?_
        refine lv_iconst (v := (0 : Int32)) hx hb dX8_hangingOn_150 (by decide) ?_
        replace h := bd_e h
        obtain ⟨o_118, P_117, hc_119, h⟩ := h
        refine cc_q (cr_V (As := [.int (pI P_109 b_115 0), .int x3, .int (0 : Int32)]) (rest := [.int (pI P_109 o1 1), .int x7, .ref o0]) cx (hcc_X8_suppose l D cs t0  P_109 P_117 o0 (pI P_109 b_115 0) x3 (0 : Int32) o_118 hc_119) kT9 hk_114 (cwV 3 hts (uG uw_X8_suppose ul_RX8_196 ui_X8_suppose us_RX8_X8_suppose un_RX8) rfl rfl rfl ud_X8_suppose ⟨Nat.le_of_ble_eq_true rfl, Nat.le_of_ble_eq_true rfl⟩) w rfl hl.1 rfl (Nat.le_of_ble_eq_true rfl) dX8_hangingOn_151 ⟨(Nat.le_of_ble_eq_true rfl), (Nat.le_of_ble_eq_true rfl)⟩) (fun H locs w => ?_)
        refine lv_iload hx hb dX8_hangingOn_154 (lv_at hl 6 rfl) ?_
        replace h := nn_e h
        obtain ⟨b_120, hbb_120, h⟩ := h
        subst hbb_120
        have hl : lv_has ls 10 [(8, .int r_110), (0, .ref o0), (1, .ref o1), (2, .int x2), (3, .int x3), (4, .int x4), (5, .int x5), (6, .int x6), (7, .int x7)] := hl
        refine W.eq (g2 := F0 m _ ls [.int x5, .ref b_120, .int (pI P_109 o1 1), .int x7, .ref o0]) rfl ?_
        replace h := bd_e h
        obtain ⟨r_122, P_121, hc_123, h⟩ := h
        replace h := ck_e h
        obtain ⟨hk_124, h⟩ := h
        refine cc_i (cr_V (As := [.int x7, .int (pI P_109 o1 1), .ref b_120, .int x5]) (rest := []) cx (hcc_X8_heardTo l D cs t0  P_117 P_121 o0 x7 (pI P_109 o1 1) b_120 x5 r_122 hc_123) kT9 hk_124 (cwV 4 hts (uG uw_X8_heardTo ul_RX8_238 ui_X8_heardTo us_RX8_X8_heardTo un_RX8) rfl rfl rfl ud_X8_heardTo ⟨Nat.le_of_ble_eq_true rfl, Nat.le_of_ble_eq_true rfl⟩) w rfl hl.1 rfl (Nat.le_of_ble_eq_true rfl) dX8_hangingOn_156 ⟨(Nat.le_of_ble_eq_true rfl), (Nat.le_of_ble_eq_true rfl)⟩) (fun H locs w => ?_)
        refine lv_istore (lv' := [(9, .int r_122), (8, .int r_110), (0, .ref o0), (1, .ref o1), (2, .int x2), (3, .int x3), (4, .int x4), (5, .int x5), (6, .int x6), (7, .int x7)]) hx hb dX8_hangingOn_159 hl (by decide) (rfl) (fun ls hl => ?_)
        refine lv_iload hx hb dX8_hangingOn_161 (lv_at hl 8 rfl) ?_
        refine lv_iload hx hb dX8_hangingOn_163 (lv_at hl 1 rfl) ?_
        refine lv_iload hx hb dX8_hangingOn_165 (lv_at hl 0 rfl) ?_
        refine lv_ixor hx hb dX8_hangingOn_167 ?_
        replace h := bd_e h
        obtain ⟨r_126, P_125, hc_127, h⟩ := h
        refine cc_i (cr_S (As := [.int (r_110 ^^^ r_122)]) (rest := [.int x6]) cx (hcc_J6_bitCount_0f7a4 l D cs t0  P_121 P_125 (r_110 ^^^ r_122) r_126 hc_127) (va_cwS 1 hts (uGS uw_J6_bitCount_0f7a4 ul_RX8_191 ut_J6_bitCount_0f7a4 un_RJ6) rfl rfl rfl ud_J6_bitCount_0f7a4.2 ⟨Nat.le_of_ble_eq_true rfl, Nat.le_of_ble_eq_true rfl⟩) w rfl hl.1 rfl (Nat.le_of_ble_eq_true rfl) dX8_hangingOn_168 ⟨(Nat.le_of_ble_eq_true rfl), (Nat.le_of_ble_eq_true rfl)⟩) (fun H locs w => ?_)
        refine lv_iadd hx hb dX8_hangingOn_171 ?_
        replace h := lt_e h
        obtain ⟨x6_128, ex6_128, h⟩ := h
        refine top_i ex6_128 ?_
        refine lv_istore (lv' := [(6, .int x6_128), (9, .int r_122), (8, .int r_110), (0, .ref o0), (1, .ref o1), (2, .int x2), (3, .int x3), (4, .int x4), (5, .int x5), (7, .int x7)]) hx hb dX8_hangingOn_172 hl (by decide) (rfl) (fun ls hl => ?_)
        replace h := lt_e h
        obtain ⟨x7_129, ex7_129, h⟩ := h
        refine lv_iinc (v := x7_129) (lv' := [(7, .int x7_129), (6, .int x6_128), (9, .int r_122), (8, .int r_110), (0, .ref o0), (1, .ref o1), (2, .int x2), (3, .int x3), (4, .int x4), (5, .int x5)]) hx hb dX8_hangingOn_174 hl (k := 9) rfl (by rw [ex7_129]; rfl) (by decide) (rfl) (fun ls hl => ?_)
        refine lv_goto (tgt := 101) hx hb dX8_hangingOn_177 (by decide) ?_
        exact hk101 o0 o1 x2 x3 x4 x5 x6_128 x7_129 P_125 h _ _ _ (lv_sub hl [4, 5, 6, 7, 8, 9, 1, 0] rfl) w
  have hP0 : P0 = P0 := rfl
  unfold hm_X8_hangingOn at h
  refine lv_aload_n hx hb dX8_hangingOn_0 rfl (lv_at hl 1 rfl) ?_
  replace h := ck_e h
  obtain ⟨hk_230, h⟩ := h
  refine cw_getI cx hsub w kT5 hk_230 5 (by decide) ⟨hsub _ uf_RX8_322, Or.inl rfl⟩ dX8_hangingOn_1 ?_
  refine lv_if_ne (tgt := 9) hx hb dX8_hangingOn_4 (by decide) (fun q => ?_) (fun q => ?_)
  · replace h := br_n q h
    refine lv_aload_n hx hb dX8_hangingOn_9 rfl (lv_at hl 0 rfl) ?_
    replace h := ck_e h
    obtain ⟨hk_231, h⟩ := h
    replace h := nn_e h
    obtain ⟨b_232, hbb_232, h⟩ := h
    refine cw_getS cx hsub w kT9 hk_231 4 (by decide) hbb_232 ⟨hsub _ uf_RX8_37, Or.inl rfl⟩ dX8_hangingOn_10 ?_
    replace h := ck_e h
    obtain ⟨hk_233, h⟩ := h
    refine cw_getI cx hsub w kT6 hk_233 1 (by decide) ⟨hsub _ uf_RX8_145, Or.inl rfl⟩ dX8_hangingOn_13 ?_
    refine lv_iconst (v := (1 : Int32)) hx hb dX8_hangingOn_16 (by decide) ?_
    refine lv_aload_n hx hb dX8_hangingOn_17 rfl (lv_at hl 1 rfl) ?_
    refine cw_getI cx hsub w kT5 hk_230 0 (by decide) ⟨hsub _ uf_RX8_325, Or.inl rfl⟩ dX8_hangingOn_18 ?_
    refine lv_ishl hx hb dX8_hangingOn_21 ?_
    refine lv_ior hx hb dX8_hangingOn_22 ?_
    replace h := lt_e h
    obtain ⟨x2_234, ex2_234, h⟩ := h
    refine top_i ex2_234 ?_
    refine lv_istore_n (lv' := [(2, .int x2_234), (0, .ref th), (1, .ref a1)]) hx hb dX8_hangingOn_23 rfl hl (by decide) (rfl) (fun ls hl => ?_)
    refine lv_aload_n hx hb dX8_hangingOn_24 rfl (lv_at hl 1 rfl) ?_
    replace h := nn_e h
    obtain ⟨b_235, hbb_235, h⟩ := h
    refine cw_getS cx hsub w kT9 hk_231 4 (by decide) hbb_235 ⟨hsub _ uf_RX8_37, Or.inl rfl⟩ dX8_hangingOn_25 ?_
    replace h := ck_e h
    obtain ⟨hk_236, h⟩ := h
    refine cw_getI cx hsub w kT6 hk_236 1 (by decide) ⟨hsub _ uf_RX8_145, Or.inl rfl⟩ dX8_hangingOn_28 ?_
    refine lv_iconst (v := (1 : Int32)) hx hb dX8_hangingOn_31 (by decide) ?_
    refine lv_aload_n hx hb dX8_hangingOn_32 rfl (lv_at hl 2 rfl) ?_
    refine cw_getI cx hsub w kT5 hk_230 0 (by decide) ⟨hsub _ uf_RX8_325, Or.inl rfl⟩ dX8_hangingOn_33 ?_
    refine lv_ishl hx hb dX8_hangingOn_36 ?_
    refine lv_iconst (v := (-1 : Int32)) hx hb dX8_hangingOn_37 (by decide) ?_
    refine lv_ixor hx hb dX8_hangingOn_38 ?_
    refine lv_iand hx hb dX8_hangingOn_39 ?_
    replace h := lt_e h
    obtain ⟨x3_237, ex3_237, h⟩ := h
    refine top_i ex3_237 ?_
    refine lv_istore_n (lv' := [(3, .int x3_237), (2, .int x2_234), (0, .ref th), (1, .ref a1)]) hx hb dX8_hangingOn_40 rfl hl (by decide) (rfl) (fun ls hl => ?_)
    refine lv_aload_n hx hb dX8_hangingOn_41 rfl (lv_at hl 2 rfl) ?_
    refine lv_aload_n hx hb dX8_hangingOn_42 rfl (lv_at hl 2 rfl) ?_
    replace h := bd_e h
    obtain ⟨r_239, P_238, hc_240, h⟩ := h
    refine cc_i (cr_V (As := []) (rest := [.ref th]) cx (hcc_X8_allWords l D cs t0  P0 P_238 th r_239 hc_240) kT9 hk_231 (cwV 0 hts (uG uw_X8_allWords ul_RX8_207 ui_X8_allWords us_RX8_X8_allWords un_RX8) rfl rfl rfl ud_X8_allWords ⟨Nat.le_of_ble_eq_true rfl, Nat.le_of_ble_eq_true rfl⟩) w rfl hl.1 rfl (Nat.le_of_ble_eq_true rfl) dX8_hangingOn_43 ⟨(Nat.le_of_ble_eq_true rfl), (Nat.le_of_ble_eq_true rfl)⟩) (fun H locs w => ?_)
    refine lv_aload_n hx hb dX8_hangingOn_46 rfl (lv_at hl 3 rfl) ?_
    replace h := ck_e h
    obtain ⟨hk_241, h⟩ := h
    refine cw_getI cx hsub w kT5 hk_241 1 (by decide) ⟨hsub _ uf_RX8_224, Or.inl rfl⟩ dX8_hangingOn_47 ?_
    refine lv_aload_n hx hb dX8_hangingOn_50 rfl (lv_at hl 2 rfl) ?_
    refine lv_aload_n hx hb dX8_hangingOn_51 rfl (lv_at hl 2 rfl) ?_
    replace h := ck_e h
    obtain ⟨hk_242, h⟩ := h
    replace h := nn_e h
    obtain ⟨b_243, hbb_243, h⟩ := h
    refine cw_getS cx hsub w kT9 hk_242 4 (by decide) hbb_243 ⟨hsub _ uf_RX8_37, Or.inl rfl⟩ dX8_hangingOn_52 ?_
    replace h := ck_e h
    obtain ⟨hk_244, h⟩ := h
    refine cw_getI cx hsub w kT6 hk_244 0 (by decide) ⟨hsub _ uf_RX8_128, Or.inl rfl⟩ dX8_hangingOn_55 ?_
    refine lv_iload_n hx hb dX8_hangingOn_58 rfl (lv_at hl 1 rfl) ?_
    refine lv_iconst (v := (0 : Int32)) hx hb dX8_hangingOn_59 (by decide) ?_
    replace h := bd_e h
    obtain ⟨o_246, P_245, hc_247, h⟩ := h
    refine cc_q (cr_V (As := [.int (pI P_238 b_243 0), .int x2_234, .int (0 : Int32)]) (rest := [.int (pI P_238 a1 1), .int r_239, .ref th]) cx (hcc_X8_suppose l D cs t0  P_238 P_245 th (pI P_238 b_243 0) x2_234 (0 : Int32) o_246 hc_247) kT9 hk_242 (cwV 3 hts (uG uw_X8_suppose ul_RX8_196 ui_X8_suppose us_RX8_X8_suppose un_RX8) rfl rfl rfl ud_X8_suppose ⟨Nat.le_of_ble_eq_true rfl, Nat.le_of_ble_eq_true rfl⟩) w rfl hl.1 rfl (Nat.le_of_ble_eq_true rfl) dX8_hangingOn_60 ⟨(Nat.le_of_ble_eq_true rfl), (Nat.le_of_ble_eq_true rfl)⟩) (fun H locs w => ?_)
    replace h := nn_e h
    obtain ⟨b_248, hbb_248, h⟩ := h
    subst hbb_248
    have hl : lv_has ls 10 [(3, .int x3_237), (2, .int x2_234), (0, .ref th), (1, .ref a1)] := hl
    refine W.eq (g2 := F0 m _ ls [.ref b_248, .int (pI P_238 a1 1), .int r_239, .ref th]) rfl ?_
    replace h := bd_e h
    obtain ⟨r_250, P_249, hc_251, h⟩ := h
    replace h := ck_e h
    obtain ⟨hk_252, h⟩ := h
    refine cc_i (cr_V (As := [.int r_239, .int (pI P_238 a1 1), .ref b_248]) (rest := []) cx (hcc_X8_heardToPartsEnd l D cs t0  P_245 P_249 th r_239 (pI P_238 a1 1) b_248 r_250 hc_251) kT9 hk_252 (cwV 3 hts (uG uw_X8_heardToPartsEnd ul_RX8_180 ui_X8_heardToPartsEnd us_RX8_X8_heardToPartsEnd un_RX8) rfl rfl rfl ud_X8_heardToPartsEnd ⟨Nat.le_of_ble_eq_true rfl, Nat.le_of_ble_eq_true rfl⟩) w rfl hl.1 rfl (Nat.le_of_ble_eq_true rfl) dX8_hangingOn_63 ⟨(Nat.le_of_ble_eq_true rfl), (Nat.le_of_ble_eq_true rfl)⟩) (fun H locs w => ?_)
    refine lv_istore (lv' := [(4, .int r_250), (3, .int x3_237), (2, .int x2_234), (0, .ref th), (1, .ref a1)]) hx hb dX8_hangingOn_66 hl (by decide) (rfl) (fun ls hl => ?_)
    refine lv_aload_n hx hb dX8_hangingOn_68 rfl (lv_at hl 3 rfl) ?_
    refine lv_aload_n hx hb dX8_hangingOn_69 rfl (lv_at hl 3 rfl) ?_
    replace h := bd_e h
    obtain ⟨r_254, P_253, hc_255, h⟩ := h
    replace h := ck_e h
    obtain ⟨hk_256, h⟩ := h
    refine cc_i (cr_V (As := []) (rest := [.ref th]) cx (hcc_X8_allWords l D cs t0  P_249 P_253 th r_254 hc_255) kT9 hk_256 (cwV 0 hts (uG uw_X8_allWords ul_RX8_207 ui_X8_allWords us_RX8_X8_allWords un_RX8) rfl rfl rfl ud_X8_allWords ⟨Nat.le_of_ble_eq_true rfl, Nat.le_of_ble_eq_true rfl⟩) w rfl hl.1 rfl (Nat.le_of_ble_eq_true rfl) dX8_hangingOn_70 ⟨(Nat.le_of_ble_eq_true rfl), (Nat.le_of_ble_eq_true rfl)⟩) (fun H locs w => ?_)
    refine lv_aload_n hx hb dX8_hangingOn_73 rfl (lv_at hl 4 rfl) ?_
    replace h := ck_e h
    obtain ⟨hk_257, h⟩ := h
    refine cw_getI cx hsub w kT5 hk_257 1 (by decide) ⟨hsub _ uf_RX8_224, Or.inl rfl⟩ dX8_hangingOn_74 ?_
    refine lv_aload_n hx hb dX8_hangingOn_77 rfl (lv_at hl 3 rfl) ?_
    refine lv_aload_n hx hb dX8_hangingOn_78 rfl (lv_at hl 3 rfl) ?_
    replace h := ck_e h
    obtain ⟨hk_258, h⟩ := h
    replace h := nn_e h
    obtain ⟨b_259, hbb_259, h⟩ := h
    refine cw_getS cx hsub w kT9 hk_258 4 (by decide) hbb_259 ⟨hsub _ uf_RX8_37, Or.inl rfl⟩ dX8_hangingOn_79 ?_
    replace h := ck_e h
    obtain ⟨hk_260, h⟩ := h
    refine cw_getI cx hsub w kT6 hk_260 0 (by decide) ⟨hsub _ uf_RX8_128, Or.inl rfl⟩ dX8_hangingOn_82 ?_
    refine lv_iload_n hx hb dX8_hangingOn_85 rfl (lv_at hl 1 rfl) ?_
    refine lv_iconst (v := (0 : Int32)) hx hb dX8_hangingOn_86 (by decide) ?_
    replace h := bd_e h
    obtain ⟨o_262, P_261, hc_263, h⟩ := h
    refine cc_q (cr_V (As := [.int (pI P_253 b_259 0), .int x3_237, .int (0 : Int32)]) (rest := [.int (pI P_253 a1 1), .int r_254, .ref th]) cx (hcc_X8_suppose l D cs t0  P_253 P_261 th (pI P_253 b_259 0) x3_237 (0 : Int32) o_262 hc_263) kT9 hk_258 (cwV 3 hts (uG uw_X8_suppose ul_RX8_196 ui_X8_suppose us_RX8_X8_suppose un_RX8) rfl rfl rfl ud_X8_suppose ⟨Nat.le_of_ble_eq_true rfl, Nat.le_of_ble_eq_true rfl⟩) w rfl hl.1 rfl (Nat.le_of_ble_eq_true rfl) dX8_hangingOn_87 ⟨(Nat.le_of_ble_eq_true rfl), (Nat.le_of_ble_eq_true rfl)⟩) (fun H locs w => ?_)
    replace h := nn_e h
    obtain ⟨b_264, hbb_264, h⟩ := h
    subst hbb_264
    have hl : lv_has ls 10 [(4, .int r_250), (3, .int x3_237), (2, .int x2_234), (0, .ref th), (1, .ref a1)] := hl
    refine W.eq (g2 := F0 m _ ls [.ref b_264, .int (pI P_253 a1 1), .int r_254, .ref th]) rfl ?_
    replace h := bd_e h
    obtain ⟨r_266, P_265, hc_267, h⟩ := h
    replace h := ck_e h
    obtain ⟨hk_268, h⟩ := h
    refine cc_i (cr_V (As := [.int r_254, .int (pI P_253 a1 1), .ref b_264]) (rest := []) cx (hcc_X8_heardToPartsEnd l D cs t0  P_261 P_265 th r_254 (pI P_253 a1 1) b_264 r_266 hc_267) kT9 hk_268 (cwV 3 hts (uG uw_X8_heardToPartsEnd ul_RX8_180 ui_X8_heardToPartsEnd us_RX8_X8_heardToPartsEnd un_RX8) rfl rfl rfl ud_X8_heardToPartsEnd ⟨Nat.le_of_ble_eq_true rfl, Nat.le_of_ble_eq_true rfl⟩) w rfl hl.1 rfl (Nat.le_of_ble_eq_true rfl) dX8_hangingOn_90 ⟨(Nat.le_of_ble_eq_true rfl), (Nat.le_of_ble_eq_true rfl)⟩) (fun H locs w => ?_)
    refine lv_istore (lv' := [(5, .int r_266), (4, .int r_250), (3, .int x3_237), (2, .int x2_234), (0, .ref th), (1, .ref a1)]) hx hb dX8_hangingOn_93 hl (by decide) (rfl) (fun ls hl => ?_)
    refine lv_iconst (v := (0 : Int32)) hx hb dX8_hangingOn_95 (by decide) ?_
    replace h := lt_e h
    obtain ⟨x6_269, ex6_269, h⟩ := h
    refine top_i ex6_269 ?_
    refine lv_istore (lv' := [(6, .int x6_269), (5, .int r_266), (4, .int r_250), (3, .int x3_237), (2, .int x2_234), (0, .ref th), (1, .ref a1)]) hx hb dX8_hangingOn_96 hl (by decide) (rfl) (fun ls hl => ?_)
    refine lv_iconst (v := (0 : Int32)) hx hb dX8_hangingOn_98 (by decide) ?_
    replace h := lt_e h
    obtain ⟨x7_270, ex7_270, h⟩ := h
    refine top_i ex7_270 ?_
    refine lv_istore (lv' := [(7, .int x7_270), (6, .int x6_269), (5, .int r_266), (4, .int r_250), (3, .int x3_237), (2, .int x2_234), (0, .ref th), (1, .ref a1)]) hx hb dX8_hangingOn_99 hl (by decide) (rfl) (fun ls hl => ?_)
    exact L101  4000 th a1 x2_234 x3_237 r_250 r_266 x6_269 x7_270 P_265 h _ _ _ (lv_sub hl [6, 7, 5, 4, 3, 2, 1, 0] rfl) w
  · replace h := br_p q h
    refine lv_iconst (v := (0 : Int32)) hx hb dX8_hangingOn_7 (by decide) ?_
    exact cw_iret cx (rt_e h) w dX8_hangingOn_8
def hm_X8_hangs (P : PS) (th : Nat) (a1 : Int32) : Option (Int32 × PS) := bd (hm_X8_ruleAt  P th a1) (fun o_102 P_101 => ck (kk P th 9) (nl o_102 (some ((-1 : Int32), P_101)) (fun b_105 => bd (hm_X8_hangingOn  P_101 th b_105) (fun r_107 P_106 => ck (kk P_101 th 9) (some (r_107, P_106))))))
abbrev wu_X8_hangs : List Cond := .code yX8_hangs cX8_hangs 3 (some .int) :: wsL_law
theorem ud_X8_hangs : yX8_hangs.cls = RX8 ∧ yX8_hangs.cls ≠ "java/lang/invoke/MethodHandle" ∧ yX8_hangs.cls ≠ "java/lang/invoke/VarHandle" ∧ (parseMethodDescriptor yX8_hangs.desc).map (fun d => d.parameters.length) = some 1 := by decide +kernel
abbrev rmc_X8_hangs : Room := { frames := 8, cells := 0, slots := 0, locals := 193 }
set_option maxHeartbeats 4000000 in
set_option maxRecDepth 100000 in
theorem hcc_X8_hangs (l : Launch) (D : va_G) (cs : Nat → ClassId) (t0 : TS) (P0 T : PS) (th : Nat) (a1 : Int32) (r0 : Int32) (h : hm_X8_hangs P0 th a1 = some (r0, T)) : MetCI l yX8_hangs wu_X8_hangs rmc_X8_hangs D cs t0 [.ref th, .int a1] P0 T r0 0 0 := by
  refine co_start (own := RX8) (ty := (some .int)) (cc := cX8_hangs) (maxL := 3) ⟨by decide, rfl⟩ rfl (Nat.le_of_ble_eq_true rfl) ?_
  intro p e s m args below meth c ls cx hnm hl w
  have hx := cx.1
  have hb := cx.2.1
  have hts := cx.2.2.2.1
  have hown := cx.2.2.2.2.1
  have hml := cx.2.2.2.2.2.2
  have hsub : ∀ w ∈ wsL_law, w ∈ wu_X8_hangs := fun _ hq => List.mem_cons_of_mem _ hq
  have hl : lv_has ls 3 [(0, .ref th), (1, .int a1)] := hl
  have hP0 : P0 = P0 := rfl
  unfold hm_X8_hangs at h
  refine lv_aload_n hx hb dX8_hangs_0 rfl (lv_at hl 0 rfl) ?_
  refine lv_iload_n hx hb dX8_hangs_1 rfl (lv_at hl 1 rfl) ?_
  replace h := bd_e h
  obtain ⟨o_102, P_101, hc_103, h⟩ := h
  replace h := ck_e h
  obtain ⟨hk_104, h⟩ := h
  refine cc_q (cr_V (As := [.int a1]) (rest := []) cx (hcc_X8_ruleAt l D cs t0  P0 P_101 th a1 o_102 hc_103) kT9 hk_104 (cwV 1 hts (uG uw_X8_ruleAt ul_RX8_148 ui_X8_ruleAt us_RX8_X8_ruleAt un_RX8) rfl rfl rfl ud_X8_ruleAt ⟨Nat.le_of_ble_eq_true rfl, Nat.le_of_ble_eq_true rfl⟩) w rfl hl.1 rfl (Nat.le_of_ble_eq_true rfl) dX8_hangs_2 ⟨(Nat.le_of_ble_eq_true rfl), (Nat.le_of_ble_eq_true rfl)⟩) (fun H locs w => ?_)
  refine lq_astore_n (lv' := [(2, va_rf o_102), (0, .ref th), (1, .int a1)]) hx hb dX8_hangs_5 rfl hl (by decide) (fun v hv => by subst hv; exact (rfl)) (fun ls hl => ?_)
  refine lq_aload_n hx hb dX8_hangs_6 rfl (lv_at hl 0 rfl) ?_
  cases o_102 with
  | none =>
    replace h := nl_n h
    have hl : lv_has ls 3 [(2, .null), (0, .ref th), (1, .int a1)] := hl
    refine lv_ifnonnullN hx hb dX8_hangs_7 ?_
    refine lv_iconst (v := (-1 : Int32)) hx hb dX8_hangs_10 (by decide) ?_
    refine lv_goto (tgt := 19) hx hb dX8_hangs_11 (by decide) ?_
    exact cw_iret cx (rt_e h) w dX8_hangs_19
  | some b_105 =>
    replace h := nl_s h
    have hl : lv_has ls 3 [(2, .ref b_105), (0, .ref th), (1, .int a1)] := hl
    refine lv_ifnonnull (tgt := 14) hx hb dX8_hangs_7 (by decide) ?_
    refine lv_aload_n hx hb dX8_hangs_14 rfl (lv_at hl 1 rfl) ?_
    refine lv_aload_n hx hb dX8_hangs_15 rfl (lv_at hl 0 rfl) ?_
    replace h := bd_e h
    obtain ⟨r_107, P_106, hc_108, h⟩ := h
    replace h := ck_e h
    obtain ⟨hk_109, h⟩ := h
    refine cc_i (cr_V (As := [.ref b_105]) (rest := []) cx (hcc_X8_hangingOn l D cs t0  P_101 P_106 th b_105 r_107 hc_108) kT9 hk_109 (cwV 1 hts (uG uw_X8_hangingOn ul_RX8_234 ui_X8_hangingOn us_RX8_X8_hangingOn un_RX8) rfl rfl rfl ud_X8_hangingOn ⟨Nat.le_of_ble_eq_true rfl, Nat.le_of_ble_eq_true rfl⟩) w rfl hl.1 rfl (Nat.le_of_ble_eq_true rfl) dX8_hangs_16 ⟨(Nat.le_of_ble_eq_true rfl), (Nat.le_of_ble_eq_true rfl)⟩) (fun H locs w => ?_)
    exact cw_iret cx (rt_e h) w dX8_hangs_19
def hm_X8_most_46 (k7 : Nat → Int32 → Int32 → Int32 → PS → Option (Int32 × PS)) (o0 : Nat) (x1 : Int32) (x2 : Int32) (x3 : Int32) (P : PS) : Option (Int32 × PS) := lt_ (x3 + (1 : Int32)) (fun x3_101 => k7 o0 x1 x2 x3_101 P)
def hm_X8_most_7 (k7 : Nat → Int32 → Int32 → Int32 → PS → Option (Int32 × PS)) (o0 : Nat) (x1 : Int32) (x2 : Int32) (x3 : Int32) (P : PS) : Option (Int32 × PS) := ck (kk P o0 9) (nn (pR P o0 2) (fun b_203 => bd (hm_Jx4a65c_size_8abf5  P b_203) (fun r_205 P_204 => ck (kk P b_203 0) (if r_205 ≤ x3 then (some (x1, P_204)) else (ck (kk P_204 o0 9) (nn (pR P_204 o0 2) (fun b_209 => bd (hm_Jx4a65c_get_915e3  P_204 b_209 x3) (fun o_211 P_210 => ck (kk P_204 b_209 0) (nn o_211 (fun b_214 => ck (kk P_210 b_214 5) (bd (hm_X8_hangingOn  P_210 o0 b_214) (fun r_217 P_216 => ck (kk P_210 o0 9) (if r_217 ≤ x2 then (hm_X8_most_46 k7 o0 x1 x2 x3 P_216) else (hm_X8_most_46 k7 o0 x3 r_217 x3 P_216))))))))))))))
def hm_X8_most_7L : Nat → Nat → Int32 → Int32 → Int32 → PS → Option (Int32 × PS)
  | 0, _, _, _, _, _ => none
  | n + 1, o0, x1, x2, x3, P => hm_X8_most_7  (hm_X8_most_7L  n) o0 x1 x2 x3 P
def hm_X8_most (P : PS) (th : Nat) : Option (Int32 × PS) := lt_ ((-5 : Int32)) (fun x1_320 => lt_ ((-1 : Int32)) (fun x2_321 => lt_ ((0 : Int32)) (fun x3_322 => hm_X8_most_7L  4000 th x1_320 x2_321 x3_322 P)))
abbrev wu_X8_most : List Cond := .code yX8_most cX8_most 5 (some .int) :: wsL_law
theorem ud_X8_most : yX8_most.cls = RX8 ∧ yX8_most.cls ≠ "java/lang/invoke/MethodHandle" ∧ yX8_most.cls ≠ "java/lang/invoke/VarHandle" ∧ (parseMethodDescriptor yX8_most.desc).map (fun d => d.parameters.length) = some 0 := by decide +kernel
abbrev rmc_X8_most : Room := { frames := 8, cells := 0, slots := 0, locals := 193 }
set_option maxHeartbeats 4000000 in
set_option maxRecDepth 100000 in
theorem hcc_X8_most (l : Launch) (D : va_G) (cs : Nat → ClassId) (t0 : TS) (P0 T : PS) (th : Nat) (r0 : Int32) (h : hm_X8_most P0 th = some (r0, T)) : MetCI l yX8_most wu_X8_most rmc_X8_most D cs t0 [.ref th] P0 T r0 0 0 := by
  refine co_start (own := RX8) (ty := (some .int)) (cc := cX8_most) (maxL := 5) ⟨by decide, rfl⟩ rfl (Nat.le_of_ble_eq_true rfl) ?_
  intro p e s m args below meth c ls cx hnm hl w
  have hx := cx.1
  have hb := cx.2.1
  have hts := cx.2.2.2.1
  have hown := cx.2.2.2.2.1
  have hml := cx.2.2.2.2.2.2
  have hsub : ∀ w ∈ wsL_law, w ∈ wu_X8_most := fun _ hq => List.mem_cons_of_mem _ hq
  have hl : lv_has ls 5 [(0, .ref th)] := hl
  have J46 : ∀ (k7 : Nat → Int32 → Int32 → Int32 → PS → Option (Int32 × PS)) (hk7 : ∀ (o0 : Nat) (x1 : Int32) (x2 : Int32) (x3 : Int32) (P : PS), k7 o0 x1 x2 x3 P = some (r0, T) → cGo p l e rmc_X8_most s m args below meth c 5 D cs t0 (pA P0) (cQI below D cs P0 args s 0 0 r0 T) 0 0 7 [(0, .ref o0), (1, .int x1), (2, .int x2), (3, .int x3)] [] P) (o0 : Nat) (x1 : Int32) (x2 : Int32) (x3 : Int32) (P : PS), hm_X8_most_46 k7 o0 x1 x2 x3 P = some (r0, T) → cGo p l e rmc_X8_most s m args below meth c 5 D cs t0 (pA P0) (cQI below D cs P0 args s 0 0 r0 T) 0 0 46 [(0, .ref o0), (1, .int x1), (2, .int x2), (3, .int x3)] [] P := by
    intro k7 hk7 o0 x1 x2 x3 P h H locs ls hl w
    unfold hm_X8_most_46 at h
    replace h := lt_e h
    obtain ⟨x3_101, ex3_101, h⟩ := h
    refine lv_iinc (v := x3_101) (lv' := [(3, .int x3_101), (0, .ref o0), (1, .int x1), (2, .int x2)]) hx hb dX8_most_46 hl (k := 3) rfl (by rw [ex3_101]; rfl) (by decide) (rfl) (fun ls hl => ?_)
    refine lv_goto (tgt := 7) hx hb dX8_most_49 (by decide) ?_
    exact hk7 o0 x1 x2 x3_101 P h _ _ _ (lv_sub hl [1, 2, 3, 0] rfl) w
  have L7 : ∀ (n : Nat) (o0 : Nat) (x1 : Int32) (x2 : Int32) (x3 : Int32) (P : PS), hm_X8_most_7L  n o0 x1 x2 x3 P = some (r0, T) → cGo p l e rmc_X8_most s m args below meth c 5 D cs t0 (pA P0) (cQI below D cs P0 args s 0 0 r0 T) 0 0 7 [(0, .ref o0), (1, .int x1), (2, .int x2), (3, .int x3)] [] P := by
    intro n
    induction n with
    | zero =>
      intro o0 x1 x2 x3 P h
      have h : none = some (r0, T) := h
      cases h
    | succ n hk7 =>
      intro o0 x1 x2 x3 P h H locs ls hl w
      have h : hm_X8_most_7  (hm_X8_most_7L  n) o0 x1 x2 x3 P = some (r0, T) := h
      generalize hm_X8_most_7L  n = k7 at h hk7
      unfold hm_X8_most_7 at h
      refine lv_iload_n hx hb dX8_most_7 rfl (lv_at hl 3 rfl) ?_
      refine lv_aload_n hx hb dX8_most_8 rfl (lv_at hl 0 rfl) ?_
      replace h := ck_e h
      obtain ⟨hk_202, h⟩ := h
      replace h := nn_e h
      obtain ⟨b_203, hbb_203, h⟩ := h
      refine cw_getS cx hsub w kT9 hk_202 2 (by decide) hbb_203 ⟨hsub _ uf_RX8_24, Or.inl rfl⟩ dX8_most_9 ?_
      replace h := bd_e h
      obtain ⟨r_205, P_204, hc_206, h⟩ := h
      replace h := ck_e h
      obtain ⟨hk_207, h⟩ := h
      refine cc_i (cr_V (As := []) (rest := [.int x3]) cx (hcc_Jx4a65c_size_8abf5 l D cs t0  P P_204 b_203 r_205 hc_206) kT0 hk_207 (cwV 0 hts (uG uw_Jx4a65c_size_8abf5 ul_RX8_80 ui_Jx4a65c_size_8abf5 us_RJx4a65c_Jx4a65c_size_8abf5 un_RJx4a65c) rfl rfl rfl ud_Jx4a65c_size_8abf5 ⟨Nat.le_of_ble_eq_true rfl, Nat.le_of_ble_eq_true rfl⟩) w rfl hl.1 rfl (Nat.le_of_ble_eq_true rfl) dX8_most_12 ⟨(Nat.le_of_ble_eq_true rfl), (Nat.le_of_ble_eq_true rfl)⟩) (fun H locs w => ?_)
      refine lv_icmp_ge (tgt := 52) hx hb dX8_most_15 (by decide) (fun q => ?_) (fun q => ?_)
      · replace h := br_p q h
        refine lv_iload_n hx hb dX8_most_52 rfl (lv_at hl 1 rfl) ?_
        exact cw_iret cx (rt_e h) w dX8_most_53
      · replace h := br_n q h
        refine lv_aload_n hx hb dX8_most_18 rfl (lv_at hl 0 rfl) ?_
        refine lv_aload_n hx hb dX8_most_19 rfl (lv_at hl 0 rfl) ?_
        replace h := ck_e h
        obtain ⟨hk_208, h⟩ := h
        replace h := nn_e h
        obtain ⟨b_209, hbb_209, h⟩ := h
        refine cw_getS cx hsub w kT9 hk_208 2 (by decide) hbb_209 ⟨hsub _ uf_RX8_24, Or.inl rfl⟩ dX8_most_20 ?_
        refine lv_iload_n hx hb dX8_most_23 rfl (lv_at hl 3 rfl) ?_
        replace h := bd_e h
        obtain ⟨o_211, P_210, hc_212, h⟩ := h
        replace h := ck_e h
        obtain ⟨hk_213, h⟩ := h
        refine cc_q (cr_V (As := [.int x3]) (rest := [.ref o0]) cx (hcc_Jx4a65c_get_915e3 l D cs t0  P_204 P_210 b_209 x3 o_211 hc_212) kT0 hk_213 (cwV 1 hts (uG uw_Jx4a65c_get_915e3 ul_RX8_220 ui_Jx4a65c_get_915e3 us_RJx4a65c_Jx4a65c_get_915e3 un_RJx4a65c) rfl rfl rfl ud_Jx4a65c_get_915e3 ⟨Nat.le_of_ble_eq_true rfl, Nat.le_of_ble_eq_true rfl⟩) w rfl hl.1 rfl (Nat.le_of_ble_eq_true rfl) dX8_most_24 ⟨(Nat.le_of_ble_eq_true rfl), (Nat.le_of_ble_eq_true rfl)⟩) (fun H locs w => ?_)
        replace h := nn_e h
        obtain ⟨b_214, hbb_214, h⟩ := h
        subst hbb_214
        have hl : lv_has ls 5 [(0, .ref o0), (1, .int x1), (2, .int x2), (3, .int x3)] := hl
        refine W.eq (g2 := F0 m _ ls [.ref b_214, .ref o0]) rfl ?_
        replace h := ck_e h
        obtain ⟨hk_215, h⟩ := h
        refine cw_cast cx w kT5 hk_215 (hsub _ ucl_RX8_153) dX8_most_27 ?_
        replace h := bd_e h
        obtain ⟨r_217, P_216, hc_218, h⟩ := h
        replace h := ck_e h
        obtain ⟨hk_219, h⟩ := h
        refine cc_i (cr_V (As := [.ref b_214]) (rest := []) cx (hcc_X8_hangingOn l D cs t0  P_210 P_216 o0 b_214 r_217 hc_218) kT9 hk_219 (cwV 1 hts (uG uw_X8_hangingOn ul_RX8_234 ui_X8_hangingOn us_RX8_X8_hangingOn un_RX8) rfl rfl rfl ud_X8_hangingOn ⟨Nat.le_of_ble_eq_true rfl, Nat.le_of_ble_eq_true rfl⟩) w rfl hl.1 rfl (Nat.le_of_ble_eq_true rfl) dX8_most_30 ⟨(Nat.le_of_ble_eq_true rfl), (Nat.le_of_ble_eq_true rfl)⟩) (fun H locs w => ?_)
        refine lv_istore (lv' := [(4, .int r_217), (0, .ref o0), (1, .int x1), (2, .int x2), (3, .int x3)]) hx hb dX8_most_33 hl (by decide) (rfl) (fun ls hl => ?_)
        refine lv_iload hx hb dX8_most_35 (lv_at hl 0 rfl) ?_
        refine lv_iload_n hx hb dX8_most_37 rfl (lv_at hl 3 rfl) ?_
        refine lv_icmp_le (tgt := 46) hx hb dX8_most_38 (by decide) (fun q => ?_) (fun q => ?_)
        · replace h := br_p q h
          exact J46 k7 hk7 o0 x1 x2 x3 P_216 h _ _ _ (lv_sub hl [1, 2, 3, 4] rfl) w
        · replace h := br_n q h
          refine lv_iload hx hb dX8_most_41 (lv_at hl 0 rfl) ?_
          refine lv_istore_n (lv' := [(2, .int r_217), (4, .int r_217), (0, .ref o0), (1, .int x1), (3, .int x3)]) hx hb dX8_most_43 rfl hl (by decide) (rfl) (fun ls hl => ?_)
          refine lv_iload_n hx hb dX8_most_44 rfl (lv_at hl 4 rfl) ?_
          refine lv_istore_n (lv' := [(1, .int x3), (2, .int r_217), (4, .int r_217), (0, .ref o0), (3, .int x3)]) hx hb dX8_most_45 rfl hl (by decide) (rfl) (fun ls hl => ?_)
          exact J46 k7 hk7 o0 x3 r_217 x3 P_216 h _ _ _ (lv_sub hl [3, 0, 1, 4] rfl) w
  have hP0 : P0 = P0 := rfl
  unfold hm_X8_most at h
  refine lv_bipush (v := (-5 : Int32)) hx hb dX8_most_0 (by decide) ?_
  replace h := lt_e h
  obtain ⟨x1_320, ex1_320, h⟩ := h
  refine top_i ex1_320 ?_
  refine lv_istore_n (lv' := [(1, .int x1_320), (0, .ref th)]) hx hb dX8_most_2 rfl hl (by decide) (rfl) (fun ls hl => ?_)
  refine lv_iconst (v := (-1 : Int32)) hx hb dX8_most_3 (by decide) ?_
  replace h := lt_e h
  obtain ⟨x2_321, ex2_321, h⟩ := h
  refine top_i ex2_321 ?_
  refine lv_istore_n (lv' := [(2, .int x2_321), (1, .int x1_320), (0, .ref th)]) hx hb dX8_most_4 rfl hl (by decide) (rfl) (fun ls hl => ?_)
  refine lv_iconst (v := (0 : Int32)) hx hb dX8_most_5 (by decide) ?_
  replace h := lt_e h
  obtain ⟨x3_322, ex3_322, h⟩ := h
  refine top_i ex3_322 ?_
  refine lv_istore_n (lv' := [(3, .int x3_322), (2, .int x2_321), (1, .int x1_320), (0, .ref th)]) hx hb dX8_most_6 rfl hl (by decide) (rfl) (fun ls hl => ?_)
  exact L7  4000 th x1_320 x2_321 x3_322 P0 h _ _ _ (lv_sub hl [3, 2, 1, 0] rfl) w
def hm_X8_beside_16  (P : PS) : Option (Int32 × PS) := some ((-1 : Int32), P)
def hm_X8_beside (P : PS) (th : Nat) (a1 : Int32) (a2 : Int32) : Option (Int32 × PS) := bd (hm_X8_within  P a1 (4 : Int32)) (fun r_202 P_201 => if r_202 = (0 : Int32) then (hm_X8_beside_16   P_201) else (bd (hm_X8_within  P_201 a2 (3 : Int32)) (fun r_205 P_204 => if r_205 = (0 : Int32) then (hm_X8_beside_16   P_204) else (ck (kk P_204 th 9) (nn (pR P_204 th 4) (fun b_208 => bd (hm_X8_allWords  P_204 th) (fun r_210 P_209 => ck (kk P_209 th 9) (nn (pR P_209 th 4) (fun b_213 => bd (hm_X8_heardToPartsEnd  P_209 th r_210 (0 : Int32) b_213) (fun r_215 P_214 => bd (hm_X8_heardTo  P_214 th a1 (0 : Int32) b_208 r_215) (fun r_218 P_217 => ck (kk P_214 th 9) (ck (kk P_217 th 9) (nn (pR P_217 th 4) (fun b_222 => bd (hm_X8_allWords  P_217 th) (fun r_224 P_223 => ck (kk P_223 th 9) (nn (pR P_223 th 4) (fun b_227 => bd (hm_X8_heardToPartsEnd  P_223 th r_224 (1 : Int32) b_227) (fun r_229 P_228 => bd (hm_X8_heardTo  P_228 th a1 (1 : Int32) b_222 r_229) (fun r_232 P_231 => ck (kk P_228 th 9) (if a2 = (0 : Int32) then (some ((r_218 &&& (r_232 ^^^ (-1 : Int32))), P_231)) else (if a2 = (1 : Int32) then (some ((r_232 &&& (r_218 ^^^ (-1 : Int32))), P_231)) else (some ((r_218 &&& r_232), P_231)))))))))))))))))))))))
abbrev wu_X8_beside : List Cond := .code yX8_beside cX8_beside 5 (some .int) :: wsL_law
theorem ud_X8_beside : yX8_beside.cls = RX8 ∧ yX8_beside.cls ≠ "java/lang/invoke/MethodHandle" ∧ yX8_beside.cls ≠ "java/lang/invoke/VarHandle" ∧ (parseMethodDescriptor yX8_beside.desc).map (fun d => d.parameters.length) = some 2 := by decide +kernel
abbrev rmc_X8_beside : Room := { frames := 7, cells := 0, slots := 0, locals := 164 }
set_option maxHeartbeats 4000000 in
set_option maxRecDepth 100000 in
theorem hcc_X8_beside (l : Launch) (D : va_G) (cs : Nat → ClassId) (t0 : TS) (P0 T : PS) (th : Nat) (a1 : Int32) (a2 : Int32) (r0 : Int32) (h : hm_X8_beside P0 th a1 a2 = some (r0, T)) : MetCI l yX8_beside wu_X8_beside rmc_X8_beside D cs t0 [.ref th, .int a1, .int a2] P0 T r0 0 0 := by
  refine co_start (own := RX8) (ty := (some .int)) (cc := cX8_beside) (maxL := 5) ⟨by decide, rfl⟩ rfl (Nat.le_of_ble_eq_true rfl) ?_
  intro p e s m args below meth c ls cx hnm hl w
  have hx := cx.1
  have hb := cx.2.1
  have hts := cx.2.2.2.1
  have hown := cx.2.2.2.2.1
  have hml := cx.2.2.2.2.2.2
  have hsub : ∀ w ∈ wsL_law, w ∈ wu_X8_beside := fun _ hq => List.mem_cons_of_mem _ hq
  have hl : lv_has ls 5 [(0, .ref th), (1, .int a1), (2, .int a2)] := hl
  have J16 : ∀  (P : PS), hm_X8_beside_16   P = some (r0, T) → cGo p l e rmc_X8_beside s m args below meth c 5 D cs t0 (pA P0) (cQI below D cs P0 args s 0 0 r0 T) 0 0 16 [] [] P := by
    intro  P h H locs ls hl w
    unfold hm_X8_beside_16 at h
    refine lv_iconst (v := (-1 : Int32)) hx hb dX8_beside_16 (by decide) ?_
    exact cw_iret cx (rt_e h) w dX8_beside_17
  have hP0 : P0 = P0 := rfl
  unfold hm_X8_beside at h
  refine lv_iload_n hx hb dX8_beside_0 rfl (lv_at hl 1 rfl) ?_
  refine lv_iconst (v := (4 : Int32)) hx hb dX8_beside_1 (by decide) ?_
  replace h := bd_e h
  obtain ⟨r_202, P_201, hc_203, h⟩ := h
  refine cc_i (cr_S (As := [.int a1, .int (4 : Int32)]) (rest := []) cx (hcc_X8_within l D cs t0  P0 P_201 a1 (4 : Int32) r_202 hc_203) (va_cwS 2 hts (uGS uw_X8_within ul_RX8_72 ut_X8_within un_RX8) rfl rfl rfl ud_X8_within.2 ⟨Nat.le_of_ble_eq_true rfl, Nat.le_of_ble_eq_true rfl⟩) w rfl hl.1 rfl (Nat.le_of_ble_eq_true rfl) dX8_beside_2 ⟨(Nat.le_of_ble_eq_true rfl), (Nat.le_of_ble_eq_true rfl)⟩) (fun H locs w => ?_)
  refine lv_if_eq (tgt := 16) hx hb dX8_beside_5 (by decide) (fun q => ?_) (fun q => ?_)
  · replace h := br_p q h
    exact J16   P_201 h _ _ _ (lv_sub hl [] rfl) w
  · replace h := br_n q h
    refine lv_iload_n hx hb dX8_beside_8 rfl (lv_at hl 2 rfl) ?_
    refine lv_iconst (v := (3 : Int32)) hx hb dX8_beside_9 (by decide) ?_
    replace h := bd_e h
    obtain ⟨r_205, P_204, hc_206, h⟩ := h
    refine cc_i (cr_S (As := [.int a2, .int (3 : Int32)]) (rest := []) cx (hcc_X8_within l D cs t0  P_201 P_204 a2 (3 : Int32) r_205 hc_206) (va_cwS 2 hts (uGS uw_X8_within ul_RX8_72 ut_X8_within un_RX8) rfl rfl rfl ud_X8_within.2 ⟨Nat.le_of_ble_eq_true rfl, Nat.le_of_ble_eq_true rfl⟩) w rfl hl.1 rfl (Nat.le_of_ble_eq_true rfl) dX8_beside_10 ⟨(Nat.le_of_ble_eq_true rfl), (Nat.le_of_ble_eq_true rfl)⟩) (fun H locs w => ?_)
    refine lv_if_ne (tgt := 18) hx hb dX8_beside_13 (by decide) (fun q => ?_) (fun q => ?_)
    · replace h := br_n q h
      refine lv_aload_n hx hb dX8_beside_18 rfl (lv_at hl 0 rfl) ?_
      refine lv_iload_n hx hb dX8_beside_19 rfl (lv_at hl 1 rfl) ?_
      refine lv_iconst (v := (0 : Int32)) hx hb dX8_beside_20 (by decide) ?_
      refine lv_aload_n hx hb dX8_beside_21 rfl (lv_at hl 0 rfl) ?_
      replace h := ck_e h
      obtain ⟨hk_207, h⟩ := h
      replace h := nn_e h
      obtain ⟨b_208, hbb_208, h⟩ := h
      refine cw_getS cx hsub w kT9 hk_207 4 (by decide) hbb_208 ⟨hsub _ uf_RX8_37, Or.inl rfl⟩ dX8_beside_22 ?_
      refine lv_aload_n hx hb dX8_beside_25 rfl (lv_at hl 0 rfl) ?_
      refine lv_aload_n hx hb dX8_beside_26 rfl (lv_at hl 0 rfl) ?_
      replace h := bd_e h
      obtain ⟨r_210, P_209, hc_211, h⟩ := h
      refine cc_i (cr_V (As := []) (rest := [.ref th, .ref b_208, .int (0 : Int32), .int a1, .ref th]) cx (hcc_X8_allWords l D cs t0  P_204 P_209 th r_210 hc_211) kT9 hk_207 (cwV 0 hts (uG uw_X8_allWords ul_RX8_207 ui_X8_allWords us_RX8_X8_allWords un_RX8) rfl rfl rfl ud_X8_allWords ⟨Nat.le_of_ble_eq_true rfl, Nat.le_of_ble_eq_true rfl⟩) w rfl hl.1 rfl (Nat.le_of_ble_eq_true rfl) dX8_beside_27 ⟨(Nat.le_of_ble_eq_true rfl), (Nat.le_of_ble_eq_true rfl)⟩) (fun H locs w => ?_)
      refine lv_iconst (v := (0 : Int32)) hx hb dX8_beside_30 (by decide) ?_
      refine lv_aload_n hx hb dX8_beside_31 rfl (lv_at hl 0 rfl) ?_
      replace h := ck_e h
      obtain ⟨hk_212, h⟩ := h
      replace h := nn_e h
      obtain ⟨b_213, hbb_213, h⟩ := h
      refine cw_getS cx hsub w kT9 hk_212 4 (by decide) hbb_213 ⟨hsub _ uf_RX8_37, Or.inl rfl⟩ dX8_beside_32 ?_
      replace h := bd_e h
      obtain ⟨r_215, P_214, hc_216, h⟩ := h
      refine cc_i (cr_V (As := [.int r_210, .int (0 : Int32), .ref b_213]) (rest := [.ref b_208, .int (0 : Int32), .int a1, .ref th]) cx (hcc_X8_heardToPartsEnd l D cs t0  P_209 P_214 th r_210 (0 : Int32) b_213 r_215 hc_216) kT9 hk_212 (cwV 3 hts (uG uw_X8_heardToPartsEnd ul_RX8_180 ui_X8_heardToPartsEnd us_RX8_X8_heardToPartsEnd un_RX8) rfl rfl rfl ud_X8_heardToPartsEnd ⟨Nat.le_of_ble_eq_true rfl, Nat.le_of_ble_eq_true rfl⟩) w rfl hl.1 rfl (Nat.le_of_ble_eq_true rfl) dX8_beside_35 ⟨(Nat.le_of_ble_eq_true rfl), (Nat.le_of_ble_eq_true rfl)⟩) (fun H locs w => ?_)
      replace h := bd_e h
      obtain ⟨r_218, P_217, hc_219, h⟩ := h
      replace h := ck_e h
      obtain ⟨hk_220, h⟩ := h
      refine cc_i (cr_V (As := [.int a1, .int (0 : Int32), .ref b_208, .int r_215]) (rest := []) cx (hcc_X8_heardTo l D cs t0  P_214 P_217 th a1 (0 : Int32) b_208 r_215 r_218 hc_219) kT9 hk_220 (cwV 4 hts (uG uw_X8_heardTo ul_RX8_238 ui_X8_heardTo us_RX8_X8_heardTo un_RX8) rfl rfl rfl ud_X8_heardTo ⟨Nat.le_of_ble_eq_true rfl, Nat.le_of_ble_eq_true rfl⟩) w rfl hl.1 rfl (Nat.le_of_ble_eq_true rfl) dX8_beside_38 ⟨(Nat.le_of_ble_eq_true rfl), (Nat.le_of_ble_eq_true rfl)⟩) (fun H locs w => ?_)
      refine lv_istore_n (lv' := [(3, .int r_218), (0, .ref th), (1, .int a1), (2, .int a2)]) hx hb dX8_beside_41 rfl hl (by decide) (rfl) (fun ls hl => ?_)
      refine lv_aload_n hx hb dX8_beside_42 rfl (lv_at hl 1 rfl) ?_
      refine lv_iload_n hx hb dX8_beside_43 rfl (lv_at hl 2 rfl) ?_
      refine lv_iconst (v := (1 : Int32)) hx hb dX8_beside_44 (by decide) ?_
      refine lv_aload_n hx hb dX8_beside_45 rfl (lv_at hl 1 rfl) ?_
      replace h := ck_e h
      obtain ⟨hk_221, h⟩ := h
      replace h := nn_e h
      obtain ⟨b_222, hbb_222, h⟩ := h
      refine cw_getS cx hsub w kT9 hk_221 4 (by decide) hbb_222 ⟨hsub _ uf_RX8_37, Or.inl rfl⟩ dX8_beside_46 ?_
      refine lv_aload_n hx hb dX8_beside_49 rfl (lv_at hl 1 rfl) ?_
      refine lv_aload_n hx hb dX8_beside_50 rfl (lv_at hl 1 rfl) ?_
      replace h := bd_e h
      obtain ⟨r_224, P_223, hc_225, h⟩ := h
      refine cc_i (cr_V (As := []) (rest := [.ref th, .ref b_222, .int (1 : Int32), .int a1, .ref th]) cx (hcc_X8_allWords l D cs t0  P_217 P_223 th r_224 hc_225) kT9 hk_221 (cwV 0 hts (uG uw_X8_allWords ul_RX8_207 ui_X8_allWords us_RX8_X8_allWords un_RX8) rfl rfl rfl ud_X8_allWords ⟨Nat.le_of_ble_eq_true rfl, Nat.le_of_ble_eq_true rfl⟩) w rfl hl.1 rfl (Nat.le_of_ble_eq_true rfl) dX8_beside_51 ⟨(Nat.le_of_ble_eq_true rfl), (Nat.le_of_ble_eq_true rfl)⟩) (fun H locs w => ?_)
      refine lv_iconst (v := (1 : Int32)) hx hb dX8_beside_54 (by decide) ?_
      refine lv_aload_n hx hb dX8_beside_55 rfl (lv_at hl 1 rfl) ?_
      replace h := ck_e h
      obtain ⟨hk_226, h⟩ := h
      replace h := nn_e h
      obtain ⟨b_227, hbb_227, h⟩ := h
      refine cw_getS cx hsub w kT9 hk_226 4 (by decide) hbb_227 ⟨hsub _ uf_RX8_37, Or.inl rfl⟩ dX8_beside_56 ?_
      replace h := bd_e h
      obtain ⟨r_229, P_228, hc_230, h⟩ := h
      refine cc_i (cr_V (As := [.int r_224, .int (1 : Int32), .ref b_227]) (rest := [.ref b_222, .int (1 : Int32), .int a1, .ref th]) cx (hcc_X8_heardToPartsEnd l D cs t0  P_223 P_228 th r_224 (1 : Int32) b_227 r_229 hc_230) kT9 hk_226 (cwV 3 hts (uG uw_X8_heardToPartsEnd ul_RX8_180 ui_X8_heardToPartsEnd us_RX8_X8_heardToPartsEnd un_RX8) rfl rfl rfl ud_X8_heardToPartsEnd ⟨Nat.le_of_ble_eq_true rfl, Nat.le_of_ble_eq_true rfl⟩) w rfl hl.1 rfl (Nat.le_of_ble_eq_true rfl) dX8_beside_59 ⟨(Nat.le_of_ble_eq_true rfl), (Nat.le_of_ble_eq_true rfl)⟩) (fun H locs w => ?_)
      replace h := bd_e h
      obtain ⟨r_232, P_231, hc_233, h⟩ := h
      replace h := ck_e h
      obtain ⟨hk_234, h⟩ := h
      refine cc_i (cr_V (As := [.int a1, .int (1 : Int32), .ref b_222, .int r_229]) (rest := []) cx (hcc_X8_heardTo l D cs t0  P_228 P_231 th a1 (1 : Int32) b_222 r_229 r_232 hc_233) kT9 hk_234 (cwV 4 hts (uG uw_X8_heardTo ul_RX8_238 ui_X8_heardTo us_RX8_X8_heardTo un_RX8) rfl rfl rfl ud_X8_heardTo ⟨Nat.le_of_ble_eq_true rfl, Nat.le_of_ble_eq_true rfl⟩) w rfl hl.1 rfl (Nat.le_of_ble_eq_true rfl) dX8_beside_62 ⟨(Nat.le_of_ble_eq_true rfl), (Nat.le_of_ble_eq_true rfl)⟩) (fun H locs w => ?_)
      refine lv_istore (lv' := [(4, .int r_232), (3, .int r_218), (0, .ref th), (1, .int a1), (2, .int a2)]) hx hb dX8_beside_65 hl (by decide) (rfl) (fun ls hl => ?_)
      refine lv_iload_n hx hb dX8_beside_67 rfl (lv_at hl 4 rfl) ?_
      refine lv_if_ne (tgt := 78) hx hb dX8_beside_68 (by decide) (fun q => ?_) (fun q => ?_)
      · replace h := br_n q h
        refine lv_iload_n hx hb dX8_beside_78 rfl (lv_at hl 4 rfl) ?_
        refine lv_iconst (v := (1 : Int32)) hx hb dX8_beside_79 (by decide) ?_
        refine lv_icmp_ne (tgt := 92) hx hb dX8_beside_80 (by decide) (fun q => ?_) (fun q => ?_)
        · replace h := br_n q h
          refine lv_iload_n hx hb dX8_beside_92 rfl (lv_at hl 1 rfl) ?_
          refine lv_iload hx hb dX8_beside_93 (lv_at hl 0 rfl) ?_
          refine lv_iand hx hb dX8_beside_95 ?_
          exact cw_iret cx (rt_e h) w dX8_beside_96
        · replace h := br_p q h
          refine lv_iload hx hb dX8_beside_83 (lv_at hl 0 rfl) ?_
          refine lv_iload_n hx hb dX8_beside_85 rfl (lv_at hl 1 rfl) ?_
          refine lv_iconst (v := (-1 : Int32)) hx hb dX8_beside_86 (by decide) ?_
          refine lv_ixor hx hb dX8_beside_87 ?_
          refine lv_iand hx hb dX8_beside_88 ?_
          refine lv_goto (tgt := 96) hx hb dX8_beside_89 (by decide) ?_
          exact cw_iret cx (rt_e h) w dX8_beside_96
      · replace h := br_p q h
        refine lv_iload_n hx hb dX8_beside_71 rfl (lv_at hl 1 rfl) ?_
        refine lv_iload hx hb dX8_beside_72 (lv_at hl 0 rfl) ?_
        refine lv_iconst (v := (-1 : Int32)) hx hb dX8_beside_74 (by decide) ?_
        refine lv_ixor hx hb dX8_beside_75 ?_
        refine lv_iand hx hb dX8_beside_76 ?_
        exact cw_iret cx (rt_e h) w dX8_beside_77
    · replace h := br_p q h
      exact J16   P_204 h _ _ _ (lv_sub hl [] rfl) w
def hm_X8_tapeAt_22  (P : PS) : Option (Option Nat × PS) := some (none, P)
def hm_X8_tapeAt (P : PS) (th : Nat) (a1 : Int32) : Option (Option Nat × PS) := if a1 < (0 : Int32) then (hm_X8_tapeAt_22   P) else (ck (kk P th 9) (nn (pR P th 6) (fun b_202 => ck (kk P b_202 16) (if (nI (pN P b_202)) ≤ a1 then (hm_X8_tapeAt_22   P) else (nn (pR P th 6) (fun b_204 => ck (kk P b_204 16) (ck (vin a1 (pN P b_204)) (nn (pR P b_204 (a1).toNatClampNeg) (fun b_207 => some ((some b_207), P))))))))))
abbrev wu_X8_tapeAt : List Cond := .code yX8_tapeAt cX8_tapeAt 2 (some (.object "HeardWords$Tape")) :: wsL_law
theorem ud_X8_tapeAt : yX8_tapeAt.cls = RX8 ∧ yX8_tapeAt.cls ≠ "java/lang/invoke/MethodHandle" ∧ yX8_tapeAt.cls ≠ "java/lang/invoke/VarHandle" ∧ (parseMethodDescriptor yX8_tapeAt.desc).map (fun d => d.parameters.length) = some 1 := by decide +kernel
abbrev rmc_X8_tapeAt : Room := { frames := 0, cells := 0, slots := 0, locals := 0 }
set_option maxHeartbeats 4000000 in
set_option maxRecDepth 100000 in
theorem hcc_X8_tapeAt (l : Launch) (D : va_G) (cs : Nat → ClassId) (t0 : TS) (P0 T : PS) (th : Nat) (a1 : Int32) (r0 : Option Nat) (h : hm_X8_tapeAt P0 th a1 = some (r0, T)) : MetCQ l yX8_tapeAt wu_X8_tapeAt rmc_X8_tapeAt D cs t0 [.ref th, .int a1] P0 T r0 0 0 := by
  refine co_start (own := RX8) (ty := (some (.object "HeardWords$Tape"))) (cc := cX8_tapeAt) (maxL := 2) ⟨by decide, rfl⟩ rfl (Nat.le_of_ble_eq_true rfl) ?_
  intro p e s m args below meth c ls cx hnm hl w
  have hx := cx.1
  have hb := cx.2.1
  have hts := cx.2.2.2.1
  have hown := cx.2.2.2.2.1
  have hml := cx.2.2.2.2.2.2
  have hsub : ∀ w ∈ wsL_law, w ∈ wu_X8_tapeAt := fun _ hq => List.mem_cons_of_mem _ hq
  have hl : lv_has ls 2 [(0, .ref th), (1, .int a1)] := hl
  have J22 : ∀  (P : PS), hm_X8_tapeAt_22   P = some (r0, T) → cGo p l e rmc_X8_tapeAt s m args below meth c 2 D cs t0 (pA P0) (cQQ below D cs P0 args s 0 0 r0 T) 0 0 22 [] [] P := by
    intro  P h H locs ls hl w
    unfold hm_X8_tapeAt_22 at h
    refine lv_null hx hb dX8_tapeAt_22 ?_
    exact cw_aret cx (by first | exact Or.inl ⟨_, rfl⟩ | exact Or.inr ⟨_, rfl⟩) (v := none) (rt_e h) w dX8_tapeAt_23
  have hP0 : P0 = P0 := rfl
  unfold hm_X8_tapeAt at h
  refine lv_iload_n hx hb dX8_tapeAt_0 rfl (lv_at hl 1 rfl) ?_
  refine lv_if_lt (tgt := 22) hx hb dX8_tapeAt_1 (by decide) (fun q => ?_) (fun q => ?_)
  · replace h := br_p q h
    exact J22   P0 h _ _ _ (lv_sub hl [] rfl) w
  · replace h := br_n q h
    refine lv_iload_n hx hb dX8_tapeAt_4 rfl (lv_at hl 1 rfl) ?_
    refine lv_aload_n hx hb dX8_tapeAt_5 rfl (lv_at hl 0 rfl) ?_
    replace h := ck_e h
    obtain ⟨hk_201, h⟩ := h
    replace h := nn_e h
    obtain ⟨b_202, hbb_202, h⟩ := h
    refine cw_getS cx hsub w kT9 hk_201 6 (by decide) hbb_202 ⟨hsub _ uf_RX8_46, Or.inl rfl⟩ dX8_tapeAt_6 ?_
    replace h := ck_e h
    obtain ⟨hk_203, h⟩ := h
    refine cw_alen cx w hk_203 rfl dX8_tapeAt_9 ?_
    refine lv_icmp_ge (tgt := 22) hx hb dX8_tapeAt_10 (by decide) (fun q => ?_) (fun q => ?_)
    · replace h := br_p q h
      exact J22   P0 h _ _ _ (lv_sub hl [] rfl) w
    · replace h := br_n q h
      refine lv_aload_n hx hb dX8_tapeAt_13 rfl (lv_at hl 0 rfl) ?_
      replace h := nn_e h
      obtain ⟨b_204, hbb_204, h⟩ := h
      refine cw_getS cx hsub w kT9 hk_201 6 (by decide) hbb_204 ⟨hsub _ uf_RX8_46, Or.inl rfl⟩ dX8_tapeAt_14 ?_
      refine lv_iload_n hx hb dX8_tapeAt_17 rfl (lv_at hl 1 rfl) ?_
      replace h := ck_e h
      obtain ⟨hk_205, h⟩ := h
      replace h := ck_e h
      obtain ⟨hq_206, h⟩ := h
      replace h := nn_e h
      obtain ⟨b_207, hbb_207, h⟩ := h
      refine cw_tald cx w hk_205 hq_206 hbb_207.symm dX8_tapeAt_18 ?_
      have hl : lv_has ls 2 [(0, .ref th), (1, .int a1)] := hl
      refine W.eq (g2 := F0 m _ ls [.ref b_207]) rfl ?_
      refine lv_goto (tgt := 23) hx hb dX8_tapeAt_19 (by decide) ?_
      exact cw_aret cx (by first | exact Or.inl ⟨_, rfl⟩ | exact Or.inr ⟨_, rfl⟩) (v := (some b_207)) (rt_e h) w dX8_tapeAt_23
