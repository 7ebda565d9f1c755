def hm_X5_init (P : PS) (th : Nat) : Option (Int32 × PS) := some ((0 : Int32), P)
abbrev wu_X5_init : List Cond := .code yX5_init cX5_init 1 none :: wsL_law
theorem ud_X5_init : yX5_init.cls = RX5 ∧ yX5_init.cls ≠ "java/lang/invoke/MethodHandle" ∧ yX5_init.cls ≠ "java/lang/invoke/VarHandle" ∧ (parseMethodDescriptor yX5_init.desc).map (fun d => d.parameters.length) = some 0 := by decide +kernel
abbrev rmc_X5_init : Room := { frames := 1, cells := 0, slots := 0, locals := 40 }
set_option maxHeartbeats 4000000 in
set_option maxRecDepth 100000 in
theorem hcc_X5_init (l : Launch) (D : va_G) (cs : Nat → ClassId) (t0 : TS) (P0 T : PS) (th : Nat) (r0 : Int32) (h : hm_X5_init P0 th = some (r0, T)) : MetCV l yX5_init wu_X5_init rmc_X5_init D cs t0 [.ref th] P0 T r0 0 0 := by
  refine co_start (own := RX5) (ty := none) (cc := cX5_init) (maxL := 1) ⟨by decide, rfl⟩ rfl (Nat.le_of_ble_eq_true rfl) ?_
  intro p e s m args below meth c ls cx hnm hl w
  have hx := cx.1
  have hb := cx.2.1
  have hts := cx.2.2.2.1
  have hown := cx.2.2.2.2.1
  have hml := cx.2.2.2.2.2.2
  have hsub : ∀ w ∈ wsL_law, w ∈ wu_X5_init := fun _ hq => List.mem_cons_of_mem _ hq
  have hl : lv_has ls 1 [(0, .ref th)] := hl
  have hP0 : P0 = P0 := rfl
  unfold hm_X5_init at h
  refine lv_aload_n hx hb dX5_init_0 rfl (lv_at hl 0 rfl) ?_
  refine W.objInit hx hb hown (hts _ (hsub _ ul_RX5_1)) (hts _ (hsub _ uoi_i)) (hts _ (hsub _ uoi_c)) rfl (by rw [hml]; exact hl.1) rfl dX5_init_1 (Nat.le_of_ble_eq_true rfl) (Nat.le_of_ble_eq_true rfl) ?_
  refine W.eq (g2 := F0 m _ ls []) rfl ?_
  exact cw_vret cx (rt_e h) w dX5_init_4
def hm_X6_init (P : PS) (th : Nat) : Option (Int32 × PS) := lt_ (pZ P) (fun z_101 => lt_ (pNew P 13 ((60 : Int32)).toNatClampNeg) (fun P_102 => ck (kk P_102 th 7) (lt_ (pRu P_102 th 0 (some z_101)) (fun P_104 => lt_ (pIu P_104 th 1 (-1 : Int32)) (fun P_106 => some ((0 : Int32), P_106))))))
abbrev wu_X6_init : List Cond := .code yX6_init cX6_init 1 none :: wsL_law
theorem ud_X6_init : yX6_init.cls = RX6 ∧ yX6_init.cls ≠ "java/lang/invoke/MethodHandle" ∧ yX6_init.cls ≠ "java/lang/invoke/VarHandle" ∧ (parseMethodDescriptor yX6_init.desc).map (fun d => d.parameters.length) = some 0 := by decide +kernel
abbrev rmc_X6_init : Room := { frames := 1, cells := 1, slots := 60, locals := 40 }
set_option maxHeartbeats 4000000 in
set_option maxRecDepth 100000 in
theorem hcc_X6_init (l : Launch) (D : va_G) (cs : Nat → ClassId) (t0 : TS) (P0 T : PS) (th : Nat) (r0 : Int32) (h : hm_X6_init P0 th = some (r0, T)) : MetCV l yX6_init wu_X6_init rmc_X6_init D cs t0 [.ref th] P0 T r0 1 60 := by
  refine co_start (own := RX6) (ty := none) (cc := cX6_init) (maxL := 1) ⟨by decide, rfl⟩ rfl (Nat.le_of_ble_eq_true rfl) ?_
  intro p e s m args below meth c ls cx hnm hl w
  have hx := cx.1
  have hb := cx.2.1
  have hts := cx.2.2.2.1
  have hown := cx.2.2.2.2.1
  have hml := cx.2.2.2.2.2.2
  have hsub : ∀ w ∈ wsL_law, w ∈ wu_X6_init := fun _ hq => List.mem_cons_of_mem _ hq
  have hl : lv_has ls 1 [(0, .ref th)] := hl
  have hP0 : P0 = P0 := rfl
  unfold hm_X6_init at h
  refine lv_aload_n hx hb dX6_init_0 rfl (lv_at hl 0 rfl) ?_
  refine W.objInit hx hb hown (hts _ (hsub _ ul_RX6_3)) (hts _ (hsub _ uoi_i)) (hts _ (hsub _ uoi_c)) rfl (by rw [hml]; exact hl.1) rfl dX6_init_1 (Nat.le_of_ble_eq_true rfl) (Nat.le_of_ble_eq_true rfl) ?_
  refine W.eq (g2 := F0 m _ ls []) rfl ?_
  refine lv_aload_n hx hb dX6_init_4 rfl (lv_at hl 0 rfl) ?_
  refine lv_bipush (v := (60 : Int32)) hx hb dX6_init_5 (by decide) ?_
  replace h := lt_e h
  obtain ⟨z_101, ez_101, h⟩ := h
  replace h := lt_e h
  obtain ⟨P_102, eP_102, h⟩ := h
  refine cw_newl cx w (by decide) (by decide) eP_102 (hsub _ uar_long) (Nat.le_of_ble_eq_true rfl) (Nat.le_of_ble_eq_true rfl) dX6_init_7 (fun H w => ?_)
  refine W.widen (k := 1) (n := 60) (Nat.le_of_ble_eq_true rfl) (Nat.le_of_ble_eq_true rfl) ?_
  have hkz_101 : kk P_102 z_101 13 = true := by rw [ez_101]; exact kk_new eP_102
  rw [← ez_101]
  replace h := ck_e h
  obtain ⟨hk_103, h⟩ := h
  replace h := lt_e h
  obtain ⟨P_104, eP_104, h⟩ := h
  refine cw_putR cx hsub w kT7 hk_103 0 (v := (some z_101)) eP_104 (by decide) (by first | exact Or.inl ⟨_, rfl⟩ | exact Or.inr ⟨_, rfl⟩) (Or.inr ⟨rfl, hnm, rfl⟩) ⟨hsub _ uf_RX6_9, Or.inl rfl⟩ dX6_init_9 (fun H locs w => ?_)
  refine lv_aload_n hx hb dX6_init_12 rfl (lv_at hl 0 rfl) ?_
  refine lv_iconst (v := (-1 : Int32)) hx hb dX6_init_13 (by decide) ?_
  have hk_105 : kk P_104 th 7 = true := by rw [eP_104]; exact hk_103
  replace h := lt_e h
  obtain ⟨P_106, eP_106, h⟩ := h
  refine cw_putI cx hsub w kT7 hk_105 1 eP_106 ⟨by decide, by decide, rfl⟩ (Or.inl rfl) ⟨hsub _ uf_RX6_15, Or.inl rfl⟩ dX6_init_14 (fun H locs w => ?_)
  refine W.widen (k := 1) (n := 60) (Nat.le_of_ble_eq_true rfl) (Nat.le_of_ble_eq_true rfl) ?_
  exact cw_vret cx (rt_e h) w dX6_init_17
def hm_J7_fill_d0a16_6 (k6 : Nat → Int64 → Int32 → Int32 → PS → Option (Int32 × PS)) (o0 : Nat) (x1 : Int64) (x3 : Int32) (x4 : Int32) (P : PS) : Option (Int32 × PS) := if x4 ≤ x3 then (some ((0 : Int32), P)) else (ck (kk P o0 13) (ck (vin x3 (pN P o0)) (lt_ (pJu P o0 (x3).toNatClampNeg x1) (fun P_103 => lt_ (x3 + (1 : Int32)) (fun x3_104 => k6 o0 x1 x3_104 x4 P_103)))))
def hm_J7_fill_d0a16_6L : Nat → Nat → Int64 → Int32 → Int32 → PS → Option (Int32 × PS)
  | 0, _, _, _, _, _ => none
  | n + 1, o0, x1, x3, x4, P => hm_J7_fill_d0a16_6  (hm_J7_fill_d0a16_6L  n) o0 x1 x3 x4 P
def hm_J7_fill_d0a16 (P : PS) (a1 : Nat) (a2 : Int64) : Option (Int32 × PS) := lt_ ((0 : Int32)) (fun x3_205 => ck (kk P a1 13) (lt_ ((nI (pN P a1))) (fun x4_207 => hm_J7_fill_d0a16_6L  4000 a1 a2 x3_205 x4_207 P)))
abbrev wu_J7_fill_d0a16 : List Cond := .code yJ7_fill_d0a16 cJ7_fill_d0a16 5 none :: wsL_law
theorem ud_J7_fill_d0a16 : yJ7_fill_d0a16.cls = RJ7 ∧ yJ7_fill_d0a16.cls ≠ "java/lang/invoke/MethodHandle" ∧ yJ7_fill_d0a16.cls ≠ "java/lang/invoke/VarHandle" ∧ (parseMethodDescriptor yJ7_fill_d0a16.desc).map (fun d => d.parameters.length) = some 2 := by decide +kernel
abbrev rmc_J7_fill_d0a16 : Room := { frames := 0, cells := 0, slots := 0, locals := 0 }
set_option maxHeartbeats 4000000 in
set_option maxRecDepth 100000 in
theorem hcc_J7_fill_d0a16 (l : Launch) (D : va_G) (cs : Nat → ClassId) (t0 : TS) (P0 T : PS) (a1 : Nat) (a2 : Int64) (r0 : Int32) (h : hm_J7_fill_d0a16 P0 a1 a2 = some (r0, T)) : MetCV l yJ7_fill_d0a16 wu_J7_fill_d0a16 rmc_J7_fill_d0a16 D cs t0 [.ref a1, .long a2] P0 T r0 0 0 := by
  refine co_start (own := RJ7) (ty := none) (cc := cJ7_fill_d0a16) (maxL := 5) ⟨by decide, rfl⟩ rfl (Nat.le_of_ble_eq_true rfl) ?_
  intro p e s m args below meth c ls cx hnm hl w
  have hx := cx.1
  have hb := cx.2.1
  have hts := cx.2.2.2.1
  have hown := cx.2.2.2.2.1
  have hml := cx.2.2.2.2.2.2
  have hsub : ∀ w ∈ wsL_law, w ∈ wu_J7_fill_d0a16 := fun _ hq => List.mem_cons_of_mem _ hq
  have hl : lv_has ls 5 [(0, .ref a1), (1, .long a2)] := hl
  have L6 : ∀ (n : Nat) (o0 : Nat) (x1 : Int64) (x3 : Int32) (x4 : Int32) (P : PS), hm_J7_fill_d0a16_6L  n o0 x1 x3 x4 P = some (r0, T) → cGo p l e rmc_J7_fill_d0a16 s m args below meth c 5 D cs t0 (pA P0) (cQV below D cs P0 args s 0 0 r0 T) 0 0 6 [(0, .ref o0), (1, .long x1), (3, .int x3), (4, .int x4)] [] P := by
    intro n
    induction n with
    | zero =>
      intro o0 x1 x3 x4 P h
      have h : none = some (r0, T) := h
      cases h
    | succ n hk6 =>
      intro o0 x1 x3 x4 P h H locs ls hl w
      have h : hm_J7_fill_d0a16_6  (hm_J7_fill_d0a16_6L  n) o0 x1 x3 x4 P = some (r0, T) := h
      generalize hm_J7_fill_d0a16_6L  n = k6 at h hk6
      unfold hm_J7_fill_d0a16_6 at h
      refine lv_iload_n hx hb dJ7_fill_d0a16_6 rfl (lv_at hl 2 rfl) ?_
      refine lv_iload hx hb dJ7_fill_d0a16_7 (lv_at hl 3 rfl) ?_
      refine lv_icmp_ge (tgt := 22) hx hb dJ7_fill_d0a16_9 (by decide) (fun q => ?_) (fun q => ?_)
      · replace h := br_p q h
        exact cw_vret cx (rt_e h) w dJ7_fill_d0a16_22
      · replace h := br_n q h
        refine lv_aload_n hx hb dJ7_fill_d0a16_12 rfl (lv_at hl 0 rfl) ?_
        refine lv_iload_n hx hb dJ7_fill_d0a16_13 rfl (lv_at hl 2 rfl) ?_
        refine lv_lload_n hx hb dJ7_fill_d0a16_14 rfl (lv_at hl 1 rfl) ?_
        replace h := ck_e h
        obtain ⟨hk_101, h⟩ := h
        replace h := ck_e h
        obtain ⟨hq_102, h⟩ := h
        replace h := lt_e h
        obtain ⟨P_103, eP_103, h⟩ := h
        refine cw_last cx w hk_101 hq_102 eP_103 dJ7_fill_d0a16_15 (fun H locs w => ?_)
        replace h := lt_e h
        obtain ⟨x3_104, ex3_104, h⟩ := h
        refine lv_iinc (v := x3_104) (lv' := [(3, .int x3_104), (0, .ref o0), (1, .long x1), (4, .int x4)]) hx hb dJ7_fill_d0a16_16 hl (k := 2) rfl (by rw [ex3_104]; rfl) (by decide) (rfl) (fun ls hl => ?_)
        refine lv_goto (tgt := 6) hx hb dJ7_fill_d0a16_19 (by decide) ?_
        exact hk6 o0 x1 x3_104 x4 P_103 h _ _ _ (lv_sub hl [1, 2, 0, 3] rfl) w
  have hP0 : P0 = P0 := rfl
  unfold hm_J7_fill_d0a16 at h
  refine lv_iconst (v := (0 : Int32)) hx hb dJ7_fill_d0a16_0 (by decide) ?_
  replace h := lt_e h
  obtain ⟨x3_205, ex3_205, h⟩ := h
  refine top_i ex3_205 ?_
  refine lv_istore_n (lv' := [(3, .int x3_205), (0, .ref a1), (1, .long a2)]) hx hb dJ7_fill_d0a16_1 rfl hl (by decide) (rfl) (fun ls hl => ?_)
  refine lv_aload_n hx hb dJ7_fill_d0a16_2 rfl (lv_at hl 1 rfl) ?_
  replace h := ck_e h
  obtain ⟨hk_206, h⟩ := h
  refine cw_alen cx w hk_206 rfl dJ7_fill_d0a16_3 ?_
  replace h := lt_e h
  obtain ⟨x4_207, ex4_207, h⟩ := h
  refine top_i ex4_207 ?_
  refine lv_istore (lv' := [(4, .int x4_207), (3, .int x3_205), (0, .ref a1), (1, .long a2)]) hx hb dJ7_fill_d0a16_4 hl (by decide) (rfl) (fun ls hl => ?_)
  exact L6  4000 a1 a2 x3_205 x4_207 P0 h _ _ _ (lv_sub hl [2, 3, 1, 0] rfl) w
def hm_X6_become (P : PS) (th : Nat) (a1 : Int32) (a2 : Int32) : Option (Int32 × PS) := ck (kk P th 7) (lt_ (pIu P th 1 a1) (fun P_102 => lt_ (pIu P_102 th 2 a2) (fun P_104 => nn (pR P_104 th 0) (fun b_106 => bd (hm_J7_fill_d0a16  P_104 b_106 (0 : Int64)) (fun _ P_107 => some ((0 : Int32), P_107))))))
abbrev wu_X6_become : List Cond := .code yX6_become cX6_become 3 none :: wsL_law
theorem ud_X6_become : yX6_become.cls = RX6 ∧ yX6_become.cls ≠ "java/lang/invoke/MethodHandle" ∧ yX6_become.cls ≠ "java/lang/invoke/VarHandle" ∧ (parseMethodDescriptor yX6_become.desc).map (fun d => d.parameters.length) = some 2 := by decide +kernel
abbrev rmc_X6_become : Room := { frames := 1, cells := 0, slots := 0, locals := 24 }
set_option maxHeartbeats 4000000 in
set_option maxRecDepth 100000 in
theorem hcc_X6_become (l : Launch) (D : va_G) (cs : Nat → ClassId) (t0 : TS) (P0 T : PS) (th : Nat) (a1 : Int32) (a2 : Int32) (r0 : Int32) (h : hm_X6_become P0 th a1 a2 = some (r0, T)) : MetCV l yX6_become wu_X6_become rmc_X6_become D cs t0 [.ref th, .int a1, .int a2] P0 T r0 0 0 := by
  refine co_start (own := RX6) (ty := none) (cc := cX6_become) (maxL := 3) ⟨by decide, rfl⟩ rfl (Nat.le_of_ble_eq_true rfl) ?_
  intro p e s m args below meth c ls cx hnm hl w
  have hx := cx.1
  have hb := cx.2.1
  have hts := cx.2.2.2.1
  have hown := cx.2.2.2.2.1
  have hml := cx.2.2.2.2.2.2
  have hsub : ∀ w ∈ wsL_law, w ∈ wu_X6_become := fun _ hq => List.mem_cons_of_mem _ hq
  have hl : lv_has ls 3 [(0, .ref th), (1, .int a1), (2, .int a2)] := hl
  have hP0 : P0 = P0 := rfl
  unfold hm_X6_become at h
  refine lv_aload_n hx hb dX6_become_0 rfl (lv_at hl 0 rfl) ?_
  refine lv_iload_n hx hb dX6_become_1 rfl (lv_at hl 1 rfl) ?_
  replace h := ck_e h
  obtain ⟨hk_101, h⟩ := h
  replace h := lt_e h
  obtain ⟨P_102, eP_102, h⟩ := h
  refine cw_putI cx hsub w kT7 hk_101 1 eP_102 ⟨by decide, by decide, rfl⟩ (Or.inl rfl) ⟨hsub _ uf_RX6_15, Or.inl rfl⟩ dX6_become_2 (fun H locs w => ?_)
  refine lv_aload_n hx hb dX6_become_5 rfl (lv_at hl 0 rfl) ?_
  refine lv_iload_n hx hb dX6_become_6 rfl (lv_at hl 2 rfl) ?_
  have hk_103 : kk P_102 th 7 = true := by rw [eP_102]; exact hk_101
  replace h := lt_e h
  obtain ⟨P_104, eP_104, h⟩ := h
  refine cw_putI cx hsub w kT7 hk_103 2 eP_104 ⟨by decide, by decide, rfl⟩ (Or.inl rfl) ⟨hsub _ uf_RX6_19, Or.inl rfl⟩ dX6_become_7 (fun H locs w => ?_)
  refine lv_aload_n hx hb dX6_become_10 rfl (lv_at hl 0 rfl) ?_
  have hk_105 : kk P_104 th 7 = true := by rw [eP_104]; exact hk_103
  replace h := nn_e h
  obtain ⟨b_106, hbb_106, h⟩ := h
  refine cw_getS cx hsub w kT7 hk_105 0 (by decide) hbb_106 ⟨hsub _ uf_RX6_9, Or.inl rfl⟩ dX6_become_11 ?_
  refine lv_lconst (v := (0 : Int64)) hx hb dX6_become_14 (by decide) ?_
  replace h := bd_e h
  obtain ⟨r_108, P_107, hc_109, h⟩ := h
  refine cc_v (cr_S (As := [.ref b_106, .long (0 : Int64)]) (rest := []) cx (hcc_J7_fill_d0a16 l D cs t0  P_104 P_107 b_106 (0 : Int64) r_108 hc_109) (va_cwS 2 hts (uGS uw_J7_fill_d0a16 ul_RX6_22 ut_J7_fill_d0a16 un_RJ7) rfl rfl rfl ud_J7_fill_d0a16.2 ⟨Nat.le_of_ble_eq_true rfl, Nat.le_of_ble_eq_true rfl⟩) w rfl hl.1 rfl (Nat.le_of_ble_eq_true rfl) dX6_become_15 ⟨(Nat.le_of_ble_eq_true rfl), (Nat.le_of_ble_eq_true rfl)⟩) (fun H locs w => ?_)
  exact cw_vret cx (rt_e h) w dX6_become_18
def hm_X6_hasPlace_25  (P : PS) : Option (Int32 × PS) := some ((0 : Int32), P)
def hm_X6_hasPlace (P : PS) (th : Nat) (a1 : Int32) : Option (Int32 × PS) := if a1 < (0 : Int32) then (hm_X6_hasPlace_25   P) else (ck (kk P th 7) (if (pI P th 2) ≤ a1 then (hm_X6_hasPlace_25   P) else (nn (pR P th 0) (fun b_202 => ck (kk P b_202 13) (if (nI (pN P b_202)) ≤ a1 then (hm_X6_hasPlace_25   P) else (some ((1 : Int32), P)))))))
abbrev wu_X6_hasPlace : List Cond := .code yX6_hasPlace cX6_hasPlace 2 (some .boolean) :: wsL_law
theorem ud_X6_hasPlace : yX6_hasPlace.cls = RX6 ∧ yX6_hasPlace.cls ≠ "java/lang/invoke/MethodHandle" ∧ yX6_hasPlace.cls ≠ "java/lang/invoke/VarHandle" ∧ (parseMethodDescriptor yX6_hasPlace.desc).map (fun d => d.parameters.length) = some 1 := by decide +kernel
abbrev rmc_X6_hasPlace : Room := { frames := 0, cells := 0, slots := 0, locals := 0 }
set_option maxHeartbeats 4000000 in
set_option maxRecDepth 100000 in
theorem hcc_X6_hasPlace (l : Launch) (D : va_G) (cs : Nat → ClassId) (t0 : TS) (P0 T : PS) (th : Nat) (a1 : Int32) (r0 : Int32) (h : hm_X6_hasPlace P0 th a1 = some (r0, T)) : MetCI l yX6_hasPlace wu_X6_hasPlace rmc_X6_hasPlace D cs t0 [.ref th, .int a1] P0 T r0 0 0 := by
  refine co_start (own := RX6) (ty := (some .boolean)) (cc := cX6_hasPlace) (maxL := 2) ⟨by decide, rfl⟩ rfl (Nat.le_of_ble_eq_true rfl) ?_
  intro p e s m args below meth c ls cx hnm hl w
  have hx := cx.1
  have hb := cx.2.1
  have hts := cx.2.2.2.1
  have hown := cx.2.2.2.2.1
  have hml := cx.2.2.2.2.2.2
  have hsub : ∀ w ∈ wsL_law, w ∈ wu_X6_hasPlace := fun _ hq => List.mem_cons_of_mem _ hq
  have hl : lv_has ls 2 [(0, .ref th), (1, .int a1)] := hl
  have J25 : ∀  (P : PS), hm_X6_hasPlace_25   P = some (r0, T) → cGo p l e rmc_X6_hasPlace s m args below meth c 2 D cs t0 (pA P0) (cQI below D cs P0 args s 0 0 r0 T) 0 0 25 [] [] P := by
    intro  P h H locs ls hl w
    unfold hm_X6_hasPlace_25 at h
    refine lv_iconst (v := (0 : Int32)) hx hb dX6_hasPlace_25 (by decide) ?_
    exact cw_zret cx (Or.inl rfl) (rt_e h) w dX6_hasPlace_26
  have hP0 : P0 = P0 := rfl
  unfold hm_X6_hasPlace at h
  refine lv_iload_n hx hb dX6_hasPlace_0 rfl (lv_at hl 1 rfl) ?_
  refine lv_if_lt (tgt := 25) hx hb dX6_hasPlace_1 (by decide) (fun q => ?_) (fun q => ?_)
  · replace h := br_p q h
    exact J25   P0 h _ _ _ (lv_sub hl [] rfl) w
  · replace h := br_n q h
    refine lv_iload_n hx hb dX6_hasPlace_4 rfl (lv_at hl 1 rfl) ?_
    refine lv_aload_n hx hb dX6_hasPlace_5 rfl (lv_at hl 0 rfl) ?_
    replace h := ck_e h
    obtain ⟨hk_201, h⟩ := h
    refine cw_getI cx hsub w kT7 hk_201 2 (by decide) ⟨hsub _ uf_RX6_19, Or.inl rfl⟩ dX6_hasPlace_6 ?_
    refine lv_icmp_ge (tgt := 25) hx hb dX6_hasPlace_9 (by decide) (fun q => ?_) (fun q => ?_)
    · replace h := br_p q h
      exact J25   P0 h _ _ _ (lv_sub hl [] rfl) w
    · replace h := br_n q h
      refine lv_iload_n hx hb dX6_hasPlace_12 rfl (lv_at hl 1 rfl) ?_
      refine lv_aload_n hx hb dX6_hasPlace_13 rfl (lv_at hl 0 rfl) ?_
      replace h := nn_e h
      obtain ⟨b_202, hbb_202, h⟩ := h
      refine cw_getS cx hsub w kT7 hk_201 0 (by decide) hbb_202 ⟨hsub _ uf_RX6_9, Or.inl rfl⟩ dX6_hasPlace_14 ?_
      replace h := ck_e h
      obtain ⟨hk_203, h⟩ := h
      refine cw_alen cx w hk_203 rfl dX6_hasPlace_17 ?_
      refine lv_icmp_ge (tgt := 25) hx hb dX6_hasPlace_18 (by decide) (fun q => ?_) (fun q => ?_)
      · replace h := br_p q h
        exact J25   P0 h _ _ _ (lv_sub hl [] rfl) w
      · replace h := br_n q h
        refine lv_iconst (v := (1 : Int32)) hx hb dX6_hasPlace_21 (by decide) ?_
        refine lv_goto (tgt := 26) hx hb dX6_hasPlace_22 (by decide) ?_
        exact cw_zret cx (Or.inr rfl) (rt_e h) w dX6_hasPlace_26
def hm_X6_hasStretch_42  (P : PS) : Option (Int32 × PS) := some ((0 : Int32), P)
def hm_X6_hasStretch (P : PS) (th : Nat) (a1 : Int32) (a2 : Int32) : Option (Int32 × PS) := if a2 < (0 : Int32) then (hm_X6_hasStretch_42   P) else (if a1 < (0 : Int32) then (hm_X6_hasStretch_42   P) else (ck (kk P th 7) (if (pI P th 2) < a1 then (hm_X6_hasStretch_42   P) else (if ((pI P th 2) - a1) < a2 then (hm_X6_hasStretch_42   P) else (nn (pR P th 0) (fun b_202 => ck (kk P b_202 13) (if (nI (pN P b_202)) < (pI P th 2) then (hm_X6_hasStretch_42   P) else (some ((1 : Int32), P)))))))))
abbrev wu_X6_hasStretch : List Cond := .code yX6_hasStretch cX6_hasStretch 3 (some .boolean) :: wsL_law
theorem ud_X6_hasStretch : yX6_hasStretch.cls = RX6 ∧ yX6_hasStretch.cls ≠ "java/lang/invoke/MethodHandle" ∧ yX6_hasStretch.cls ≠ "java/lang/invoke/VarHandle" ∧ (parseMethodDescriptor yX6_hasStretch.desc).map (fun d => d.parameters.length) = some 2 := by decide +kernel
abbrev rmc_X6_hasStretch : Room := { frames := 0, cells := 0, slots := 0, locals := 0 }
set_option maxHeartbeats 4000000 in
set_option maxRecDepth 100000 in
theorem hcc_X6_hasStretch (l : Launch) (D : va_G) (cs : Nat → ClassId) (t0 : TS) (P0 T : PS) (th : Nat) (a1 : Int32) (a2 : Int32) (r0 : Int32) (h : hm_X6_hasStretch P0 th a1 a2 = some (r0, T)) : MetCI l yX6_hasStretch wu_X6_hasStretch rmc_X6_hasStretch D cs t0 [.ref th, .int a1, .int a2] P0 T r0 0 0 := by
  refine co_start (own := RX6) (ty := (some .boolean)) (cc := cX6_hasStretch) (maxL := 3) ⟨by decide, rfl⟩ rfl (Nat.le_of_ble_eq_true rfl) ?_
  intro p e s m args below meth c ls cx hnm hl w
  have hx := cx.1
  have hb := cx.2.1
  have hts := cx.2.2.2.1
  have hown := cx.2.2.2.2.1
  have hml := cx.2.2.2.2.2.2
  have hsub : ∀ w ∈ wsL_law, w ∈ wu_X6_hasStretch := fun _ hq => List.mem_cons_of_mem _ hq
  have hl : lv_has ls 3 [(0, .ref th), (1, .int a1), (2, .int a2)] := hl
  have J42 : ∀  (P : PS), hm_X6_hasStretch_42   P = some (r0, T) → cGo p l e rmc_X6_hasStretch s m args below meth c 3 D cs t0 (pA P0) (cQI below D cs P0 args s 0 0 r0 T) 0 0 42 [] [] P := by
    intro  P h H locs ls hl w
    unfold hm_X6_hasStretch_42 at h
    refine lv_iconst (v := (0 : Int32)) hx hb dX6_hasStretch_42 (by decide) ?_
    exact cw_zret cx (Or.inl rfl) (rt_e h) w dX6_hasStretch_43
  have hP0 : P0 = P0 := rfl
  unfold hm_X6_hasStretch at h
  refine lv_iload_n hx hb dX6_hasStretch_0 rfl (lv_at hl 2 rfl) ?_
  refine lv_if_lt (tgt := 42) hx hb dX6_hasStretch_1 (by decide) (fun q => ?_) (fun q => ?_)
  · replace h := br_p q h
    exact J42   P0 h _ _ _ (lv_sub hl [] rfl) w
  · replace h := br_n q h
    refine lv_iload_n hx hb dX6_hasStretch_4 rfl (lv_at hl 1 rfl) ?_
    refine lv_if_lt (tgt := 42) hx hb dX6_hasStretch_5 (by decide) (fun q => ?_) (fun q => ?_)
    · replace h := br_p q h
      exact J42   P0 h _ _ _ (lv_sub hl [] rfl) w
    · replace h := br_n q h
      refine lv_iload_n hx hb dX6_hasStretch_8 rfl (lv_at hl 1 rfl) ?_
      refine lv_aload_n hx hb dX6_hasStretch_9 rfl (lv_at hl 0 rfl) ?_
      replace h := ck_e h
      obtain ⟨hk_201, h⟩ := h
      refine cw_getI cx hsub w kT7 hk_201 2 (by decide) ⟨hsub _ uf_RX6_19, Or.inl rfl⟩ dX6_hasStretch_10 ?_
      refine lv_icmp_gt (tgt := 42) hx hb dX6_hasStretch_13 (by decide) (fun q => ?_) (fun q => ?_)
      · replace h := br_p q h
        exact J42   P0 h _ _ _ (lv_sub hl [] rfl) w
      · replace h := br_n q h
        refine lv_iload_n hx hb dX6_hasStretch_16 rfl (lv_at hl 2 rfl) ?_
        refine lv_aload_n hx hb dX6_hasStretch_17 rfl (lv_at hl 0 rfl) ?_
        refine cw_getI cx hsub w kT7 hk_201 2 (by decide) ⟨hsub _ uf_RX6_19, Or.inl rfl⟩ dX6_hasStretch_18 ?_
        refine lv_iload_n hx hb dX6_hasStretch_21 rfl (lv_at hl 1 rfl) ?_
        refine lv_isub hx hb dX6_hasStretch_22 ?_
        refine lv_icmp_gt (tgt := 42) hx hb dX6_hasStretch_23 (by decide) (fun q => ?_) (fun q => ?_)
        · replace h := br_p q h
          exact J42   P0 h _ _ _ (lv_sub hl [] rfl) w
        · replace h := br_n q h
          refine lv_aload_n hx hb dX6_hasStretch_26 rfl (lv_at hl 0 rfl) ?_
          refine cw_getI cx hsub w kT7 hk_201 2 (by decide) ⟨hsub _ uf_RX6_19, Or.inl rfl⟩ dX6_hasStretch_27 ?_
          refine lv_aload_n hx hb dX6_hasStretch_30 rfl (lv_at hl 0 rfl) ?_
          replace h := nn_e h
          obtain ⟨b_202, hbb_202, h⟩ := h
          refine cw_getS cx hsub w kT7 hk_201 0 (by decide) hbb_202 ⟨hsub _ uf_RX6_9, Or.inl rfl⟩ dX6_hasStretch_31 ?_
          replace h := ck_e h
          obtain ⟨hk_203, h⟩ := h
          refine cw_alen cx w hk_203 rfl dX6_hasStretch_34 ?_
          refine lv_icmp_gt (tgt := 42) hx hb dX6_hasStretch_35 (by decide) (fun q => ?_) (fun q => ?_)
          · replace h := br_p q h
            exact J42   P0 h _ _ _ (lv_sub hl [] rfl) w
          · replace h := br_n q h
            refine lv_iconst (v := (1 : Int32)) hx hb dX6_hasStretch_38 (by decide) ?_
            refine lv_goto (tgt := 43) hx hb dX6_hasStretch_39 (by decide) ?_
            exact cw_zret cx (Or.inr rfl) (rt_e h) w dX6_hasStretch_43
def hm_X6_get (P : PS) (th : Nat) (a1 : Int32) : Option (Int64 × PS) := bd (hm_X6_hasPlace  P th a1) (fun r_102 P_101 => ck (kk P th 7) (if r_102 = (0 : Int32) then (some ((-9223372036854775808 : Int64), P_101)) else (ck (kk P_101 th 7) (nn (pR P_101 th 0) (fun b_106 => ck (kk P_101 b_106 13) (ck (vin a1 (pN P_101 b_106)) (some ((pJ P_101 b_106 (a1).toNatClampNeg), P_101))))))))
abbrev wu_X6_get : List Cond := .code yX6_get cX6_get 2 (some .long) :: wsL_law
theorem ud_X6_get : yX6_get.cls = RX6 ∧ yX6_get.cls ≠ "java/lang/invoke/MethodHandle" ∧ yX6_get.cls ≠ "java/lang/invoke/VarHandle" ∧ (parseMethodDescriptor yX6_get.desc).map (fun d => d.parameters.length) = some 1 := by decide +kernel
abbrev rmc_X6_get : Room := { frames := 1, cells := 0, slots := 0, locals := 21 }
set_option maxHeartbeats 4000000 in
set_option maxRecDepth 100000 in
theorem hcc_X6_get (l : Launch) (D : va_G) (cs : Nat → ClassId) (t0 : TS) (P0 T : PS) (th : Nat) (a1 : Int32) (r0 : Int64) (h : hm_X6_get P0 th a1 = some (r0, T)) : MetCL l yX6_get wu_X6_get rmc_X6_get D cs t0 [.ref th, .int a1] P0 T r0 0 0 := by
  refine co_start (own := RX6) (ty := (some .long)) (cc := cX6_get) (maxL := 2) ⟨by decide, rfl⟩ rfl (Nat.le_of_ble_eq_true rfl) ?_
  intro p e s m args below meth c ls cx hnm hl w
  have hx := cx.1
  have hb := cx.2.1
  have hts := cx.2.2.2.1
  have hown := cx.2.2.2.2.1
  have hml := cx.2.2.2.2.2.2
  have hsub : ∀ w ∈ wsL_law, w ∈ wu_X6_get := fun _ hq => List.mem_cons_of_mem _ hq
  have hl : lv_has ls 2 [(0, .ref th), (1, .int a1)] := hl
  have hP0 : P0 = P0 := rfl
  unfold hm_X6_get at h
  refine lv_aload_n hx hb dX6_get_0 rfl (lv_at hl 0 rfl) ?_
  refine lv_iload_n hx hb dX6_get_1 rfl (lv_at hl 1 rfl) ?_
  replace h := bd_e h
  obtain ⟨r_102, P_101, hc_103, h⟩ := h
  replace h := ck_e h
  obtain ⟨hk_104, h⟩ := h
  refine cc_i (cr_V (As := [.int a1]) (rest := []) cx (hcc_X6_hasPlace l D cs t0  P0 P_101 th a1 r_102 hc_103) kT7 hk_104 (cwV 1 hts (uG uw_X6_hasPlace ul_RX6_28 ui_X6_hasPlace us_RX6_X6_hasPlace un_RX6) rfl rfl rfl ud_X6_hasPlace ⟨Nat.le_of_ble_eq_true rfl, Nat.le_of_ble_eq_true rfl⟩) w rfl hl.1 rfl (Nat.le_of_ble_eq_true rfl) dX6_get_2 ⟨(Nat.le_of_ble_eq_true rfl), (Nat.le_of_ble_eq_true rfl)⟩) (fun H locs w => ?_)
  refine lv_if_eq (tgt := 17) hx hb dX6_get_5 (by decide) (fun q => ?_) (fun q => ?_)
  · replace h := br_p q h
    refine lv_ldc2 (v := (-9223372036854775808 : Int64)) hx hb hown (hts _ (hsub _ uc_RX6_32)) dX6_get_17 ?_
    exact cw_lret cx (rt_e h) w dX6_get_20
  · replace h := br_n q h
    refine lv_aload_n hx hb dX6_get_8 rfl (lv_at hl 0 rfl) ?_
    replace h := ck_e h
    obtain ⟨hk_105, h⟩ := h
    replace h := nn_e h
    obtain ⟨b_106, hbb_106, h⟩ := h
    refine cw_getS cx hsub w kT7 hk_105 0 (by decide) hbb_106 ⟨hsub _ uf_RX6_9, Or.inl rfl⟩ dX6_get_9 ?_
    refine lv_iload_n hx hb dX6_get_12 rfl (lv_at hl 1 rfl) ?_
    replace h := ck_e h
    obtain ⟨hk_107, h⟩ := h
    replace h := ck_e h
    obtain ⟨hq_108, h⟩ := h
    refine cw_lald cx w hk_107 hq_108 dX6_get_13 ?_
    refine lv_goto (tgt := 20) hx hb dX6_get_14 (by decide) ?_
    exact cw_lret cx (rt_e h) w dX6_get_20
def hm_X6_fitted (P : PS) (th : Nat) (a1 : Int64) : Option (Int64 × PS) := ck (kk P th 7) (if (pI P th 1) = (0 : Int32) then (some ((((a1).toInt32).toInt8.toInt32).toInt64, P)) else (if (pI P th 1) = (1 : Int32) then (some ((((a1).toInt32).toInt16.toInt32).toInt64, P)) else (if (pI P th 1) = (2 : Int32) then (some (((a1).toInt32).toInt64, P)) else (if (pI P th 1) = (3 : Int32) then (some (a1, P)) else (if (lg_cmp a1 (0 : Int64)) = (0 : Int32) then (some ((0 : Int64), P)) else (some ((1 : Int64), P)))))))
abbrev wu_X6_fitted : List Cond := .code yX6_fitted cX6_fitted 3 (some .long) :: wsL_law
theorem ud_X6_fitted : yX6_fitted.cls = RX6 ∧ yX6_fitted.cls ≠ "java/lang/invoke/MethodHandle" ∧ yX6_fitted.cls ≠ "java/lang/invoke/VarHandle" ∧ (parseMethodDescriptor yX6_fitted.desc).map (fun d => d.parameters.length) = some 1 := by decide +kernel
abbrev rmc_X6_fitted : Room := { frames := 0, cells := 0, slots := 0, locals := 0 }
set_option maxHeartbeats 4000000 in
set_option maxRecDepth 100000 in
theorem hcc_X6_fitted (l : Launch) (D : va_G) (cs : Nat → ClassId) (t0 : TS) (P0 T : PS) (th : Nat) (a1 : Int64) (r0 : Int64) (h : hm_X6_fitted P0 th a1 = some (r0, T)) : MetCL l yX6_fitted wu_X6_fitted rmc_X6_fitted D cs t0 [.ref th, .long a1] P0 T r0 0 0 := by
  refine co_start (own := RX6) (ty := (some .long)) (cc := cX6_fitted) (maxL := 3) ⟨by decide, rfl⟩ rfl (Nat.le_of_ble_eq_true rfl) ?_
  intro p e s m args below meth c ls cx hnm hl w
  have hx := cx.1
  have hb := cx.2.1
  have hts := cx.2.2.2.1
  have hown := cx.2.2.2.2.1
  have hml := cx.2.2.2.2.2.2
  have hsub : ∀ w ∈ wsL_law, w ∈ wu_X6_fitted := fun _ hq => List.mem_cons_of_mem _ hq
  have hl : lv_has ls 3 [(0, .ref th), (1, .long a1)] := hl
  have hP0 : P0 = P0 := rfl
  unfold hm_X6_fitted at h
  refine lv_aload_n hx hb dX6_fitted_0 rfl (lv_at hl 0 rfl) ?_
  replace h := ck_e h
  obtain ⟨hk_101, h⟩ := h
  refine cw_getI cx hsub w kT7 hk_101 1 (by decide) ⟨hsub _ uf_RX6_15, Or.inl rfl⟩ dX6_fitted_1 ?_
  by_cases q_102 : (pI P0 th 1) = (0 : Int32)
  · replace h := br_p q_102 h
    refine lv_tableIn (tgt := 36) hx hb dX6_fitted_4 (by rw [q_102]; decide) (by rw [q_102]; decide) (by rw [q_102]; rfl) (by decide) ?_
    refine lv_lload_n hx hb dX6_fitted_36 rfl (lv_at hl 1 rfl) ?_
    refine lv_l2i hx hb dX6_fitted_37 rfl ?_
    refine lv_i2b hx hb dX6_fitted_38 rfl ?_
    refine lv_i2l hx hb dX6_fitted_39 rfl ?_
    exact cw_lret cx (rt_e h) w dX6_fitted_40
  replace h := br_n q_102 h
  by_cases q_103 : (pI P0 th 1) = (1 : Int32)
  · replace h := br_p q_103 h
    refine lv_tableIn (tgt := 41) hx hb dX6_fitted_4 (by rw [q_103]; decide) (by rw [q_103]; decide) (by rw [q_103]; rfl) (by decide) ?_
    refine lv_lload_n hx hb dX6_fitted_41 rfl (lv_at hl 1 rfl) ?_
    refine lv_l2i hx hb dX6_fitted_42 rfl ?_
    refine lv_i2s hx hb dX6_fitted_43 rfl ?_
    refine lv_i2l hx hb dX6_fitted_44 rfl ?_
    exact cw_lret cx (rt_e h) w dX6_fitted_45
  replace h := br_n q_103 h
  by_cases q_104 : (pI P0 th 1) = (2 : Int32)
  · replace h := br_p q_104 h
    refine lv_tableIn (tgt := 46) hx hb dX6_fitted_4 (by rw [q_104]; decide) (by rw [q_104]; decide) (by rw [q_104]; rfl) (by decide) ?_
    refine lv_lload_n hx hb dX6_fitted_46 rfl (lv_at hl 1 rfl) ?_
    refine lv_l2i hx hb dX6_fitted_47 rfl ?_
    refine lv_i2l hx hb dX6_fitted_48 rfl ?_
    exact cw_lret cx (rt_e h) w dX6_fitted_49
  replace h := br_n q_104 h
  by_cases q_105 : (pI P0 th 1) = (3 : Int32)
  · replace h := br_p q_105 h
    refine lv_tableIn (tgt := 50) hx hb dX6_fitted_4 (by rw [q_105]; decide) (by rw [q_105]; decide) (by rw [q_105]; rfl) (by decide) ?_
    refine lv_lload_n hx hb dX6_fitted_50 rfl (lv_at hl 1 rfl) ?_
    exact cw_lret cx (rt_e h) w dX6_fitted_51
  replace h := br_n q_105 h
  refine lv_tableH (tgt := 52) hx hb dX6_fitted_4 (by exact Or.inl (by have := lv_neT q_102 (a := 0) (by decide); have := lv_neT q_103 (a := 1) (by decide); have := lv_neT q_104 (a := 2) (by decide); have := lv_neT q_105 (a := 3) (by decide); omega)) (by decide) ?_
  refine lv_lload_n hx hb dX6_fitted_52 rfl (lv_at hl 1 rfl) ?_
  refine lv_lconst (v := (0 : Int64)) hx hb dX6_fitted_53 (by decide) ?_
  refine W.lcmp hx hb dX6_fitted_54 ?_
  refine lv_if_eq (tgt := 62) hx hb dX6_fitted_55 (by decide) (fun q => ?_) (fun q => ?_)
  · replace h := br_p q h
    refine lv_lconst (v := (0 : Int64)) hx hb dX6_fitted_62 (by decide) ?_
    exact cw_lret cx (rt_e h) w dX6_fitted_63
  · replace h := br_n q h
    refine lv_lconst (v := (1 : Int64)) hx hb dX6_fitted_58 (by decide) ?_
    refine lv_goto (tgt := 63) hx hb dX6_fitted_59 (by decide) ?_
    exact cw_lret cx (rt_e h) w dX6_fitted_63
def hm_X6_put (P : PS) (th : Nat) (a1 : Int32) (a2 : Int64) : Option (Int32 × PS) := bd (hm_X6_hasPlace  P th a1) (fun r_102 P_101 => ck (kk P th 7) (if r_102 = (0 : Int32) then (some ((0 : Int32), P_101)) else (ck (kk P_101 th 7) (nn (pR P_101 th 0) (fun b_106 => bd (hm_X6_fitted  P_101 th a2) (fun r_108 P_107 => ck (kk P_107 b_106 13) (ck (vin a1 (pN P_107 b_106)) (lt_ (pJu P_107 b_106 (a1).toNatClampNeg r_108) (fun P_112 => some ((0 : Int32), P_112))))))))))
abbrev wu_X6_put : List Cond := .code yX6_put cX6_put 4 none :: wsL_law
theorem ud_X6_put : yX6_put.cls = RX6 ∧ yX6_put.cls ≠ "java/lang/invoke/MethodHandle" ∧ yX6_put.cls ≠ "java/lang/invoke/VarHandle" ∧ (parseMethodDescriptor yX6_put.desc).map (fun d => d.parameters.length) = some 2 := by decide +kernel
abbrev rmc_X6_put : Room := { frames := 1, cells := 0, slots := 0, locals := 22 }
set_option maxHeartbeats 4000000 in
set_option maxRecDepth 100000 in
theorem hcc_X6_put (l : Launch) (D : va_G) (cs : Nat → ClassId) (t0 : TS) (P0 T : PS) (th : Nat) (a1 : Int32) (a2 : Int64) (r0 : Int32) (h : hm_X6_put P0 th a1 a2 = some (r0, T)) : MetCV l yX6_put wu_X6_put rmc_X6_put D cs t0 [.ref th, .int a1, .long a2] P0 T r0 0 0 := by
  refine co_start (own := RX6) (ty := none) (cc := cX6_put) (maxL := 4) ⟨by decide, rfl⟩ rfl (Nat.le_of_ble_eq_true rfl) ?_
  intro p e s m args below meth c ls cx hnm hl w
  have hx := cx.1
  have hb := cx.2.1
  have hts := cx.2.2.2.1
  have hown := cx.2.2.2.2.1
  have hml := cx.2.2.2.2.2.2
  have hsub : ∀ w ∈ wsL_law, w ∈ wu_X6_put := fun _ hq => List.mem_cons_of_mem _ hq
  have hl : lv_has ls 4 [(0, .ref th), (1, .int a1), (2, .long a2)] := hl
  have hP0 : P0 = P0 := rfl
  unfold hm_X6_put at h
  refine lv_aload_n hx hb dX6_put_0 rfl (lv_at hl 0 rfl) ?_
  refine lv_iload_n hx hb dX6_put_1 rfl (lv_at hl 1 rfl) ?_
  replace h := bd_e h
  obtain ⟨r_102, P_101, hc_103, h⟩ := h
  replace h := ck_e h
  obtain ⟨hk_104, h⟩ := h
  refine cc_i (cr_V (As := [.int a1]) (rest := []) cx (hcc_X6_hasPlace l D cs t0  P0 P_101 th a1 r_102 hc_103) kT7 hk_104 (cwV 1 hts (uG uw_X6_hasPlace ul_RX6_28 ui_X6_hasPlace us_RX6_X6_hasPlace un_RX6) rfl rfl rfl ud_X6_hasPlace ⟨Nat.le_of_ble_eq_true rfl, Nat.le_of_ble_eq_true rfl⟩) w rfl hl.1 rfl (Nat.le_of_ble_eq_true rfl) dX6_put_2 ⟨(Nat.le_of_ble_eq_true rfl), (Nat.le_of_ble_eq_true rfl)⟩) (fun H locs w => ?_)
  refine lv_if_eq (tgt := 19) hx hb dX6_put_5 (by decide) (fun q => ?_) (fun q => ?_)
  · replace h := br_p q h
    exact cw_vret cx (rt_e h) w dX6_put_19
  · replace h := br_n q h
    refine lv_aload_n hx hb dX6_put_8 rfl (lv_at hl 0 rfl) ?_
    replace h := ck_e h
    obtain ⟨hk_105, h⟩ := h
    replace h := nn_e h
    obtain ⟨b_106, hbb_106, h⟩ := h
    refine cw_getS cx hsub w kT7 hk_105 0 (by decide) hbb_106 ⟨hsub _ uf_RX6_9, Or.inl rfl⟩ dX6_put_9 ?_
    refine lv_iload_n hx hb dX6_put_12 rfl (lv_at hl 1 rfl) ?_
    refine lv_aload_n hx hb dX6_put_13 rfl (lv_at hl 0 rfl) ?_
    refine lv_lload_n hx hb dX6_put_14 rfl (lv_at hl 2 rfl) ?_
    replace h := bd_e h
    obtain ⟨r_108, P_107, hc_109, h⟩ := h
    refine cc_l (cr_V (As := [.long a2]) (rest := [.int a1, .ref b_106]) cx (hcc_X6_fitted l D cs t0  P_101 P_107 th a2 r_108 hc_109) kT7 hk_105 (cwV 1 hts (uG uw_X6_fitted ul_RX6_34 ui_X6_fitted us_RX6_X6_fitted un_RX6) rfl rfl rfl ud_X6_fitted ⟨Nat.le_of_ble_eq_true rfl, Nat.le_of_ble_eq_true rfl⟩) w rfl hl.1 rfl (Nat.le_of_ble_eq_true rfl) dX6_put_15 ⟨(Nat.le_of_ble_eq_true rfl), (Nat.le_of_ble_eq_true rfl)⟩) (fun H locs w => ?_)
    replace h := ck_e h
    obtain ⟨hk_110, h⟩ := h
    replace h := ck_e h
    obtain ⟨hq_111, h⟩ := h
    replace h := lt_e h
    obtain ⟨P_112, eP_112, h⟩ := h
    refine cw_last cx w hk_110 hq_111 eP_112 dX6_put_18 (fun H locs w => ?_)
    exact cw_vret cx (rt_e h) w dX6_put_19
def hm_X7_mayHold_27  (P : PS) : Option (Int32 × PS) := some ((4 : Int32), P)
def hm_X7_mayHold (P : PS) (th : Nat) : Option (Int32 × PS) := ck (kk P th 8) (if (pI P th 1) = (6 : Int32) then (some ((1 : Int32), P)) else (if (pI P th 1) = (2 : Int32) then (hm_X7_mayHold_27   P) else (if (pI P th 1) = (5 : Int32) then (hm_X7_mayHold_27   P) else (some ((0 : Int32), P)))))
abbrev wu_X7_mayHold : List Cond := .code yX7_mayHold cX7_mayHold 1 (some .int) :: wsL_law
theorem ud_X7_mayHold : yX7_mayHold.cls = RX7 ∧ yX7_mayHold.cls ≠ "java/lang/invoke/MethodHandle" ∧ yX7_mayHold.cls ≠ "java/lang/invoke/VarHandle" ∧ (parseMethodDescriptor yX7_mayHold.desc).map (fun d => d.parameters.length) = some 0 := by decide +kernel
abbrev rmc_X7_mayHold : Room := { frames := 0, cells := 0, slots := 0, locals := 0 }
set_option maxHeartbeats 4000000 in
set_option maxRecDepth 100000 in
theorem hcc_X7_mayHold (l : Launch) (D : va_G) (cs : Nat → ClassId) (t0 : TS) (P0 T : PS) (th : Nat) (r0 : Int32) (h : hm_X7_mayHold P0 th = some (r0, T)) : MetCI l yX7_mayHold wu_X7_mayHold rmc_X7_mayHold D cs t0 [.ref th] P0 T r0 0 0 := by
  refine co_start (own := RX7) (ty := (some .int)) (cc := cX7_mayHold) (maxL := 1) ⟨by decide, rfl⟩ rfl (Nat.le_of_ble_eq_true rfl) ?_
  intro p e s m args below meth c ls cx hnm hl w
  have hx := cx.1
  have hb := cx.2.1
  have hts := cx.2.2.2.1
  have hown := cx.2.2.2.2.1
  have hml := cx.2.2.2.2.2.2
  have hsub : ∀ w ∈ wsL_law, w ∈ wu_X7_mayHold := fun _ hq => List.mem_cons_of_mem _ hq
  have hl : lv_has ls 1 [(0, .ref th)] := hl
  have J27 : ∀  (P : PS), hm_X7_mayHold_27   P = some (r0, T) → cGo p l e rmc_X7_mayHold s m args below meth c 1 D cs t0 (pA P0) (cQI below D cs P0 args s 0 0 r0 T) 0 0 27 [] [] P := by
    intro  P h H locs ls hl w
    unfold hm_X7_mayHold_27 at h
    refine lv_iconst (v := (4 : Int32)) hx hb dX7_mayHold_27 (by decide) ?_
    refine lv_goto (tgt := 32) hx hb dX7_mayHold_28 (by decide) ?_
    exact cw_iret cx (rt_e h) w dX7_mayHold_32
  have hP0 : P0 = P0 := rfl
  unfold hm_X7_mayHold at h
  refine lv_aload_n hx hb dX7_mayHold_0 rfl (lv_at hl 0 rfl) ?_
  replace h := ck_e h
  obtain ⟨hk_201, h⟩ := h
  refine cw_getI cx hsub w kT8 hk_201 1 (by decide) ⟨hsub _ uf_RX7_22, Or.inl rfl⟩ dX7_mayHold_1 ?_
  refine lv_bipush (v := (6 : Int32)) hx hb dX7_mayHold_4 (by decide) ?_
  refine lv_icmp_ne (tgt := 11) hx hb dX7_mayHold_6 (by decide) (fun q => ?_) (fun q => ?_)
  · replace h := br_n q h
    refine lv_aload_n hx hb dX7_mayHold_11 rfl (lv_at hl 0 rfl) ?_
    refine cw_getI cx hsub w kT8 hk_201 1 (by decide) ⟨hsub _ uf_RX7_22, Or.inl rfl⟩ dX7_mayHold_12 ?_
    refine lv_iconst (v := (2 : Int32)) hx hb dX7_mayHold_15 (by decide) ?_
    refine lv_icmp_eq (tgt := 27) hx hb dX7_mayHold_16 (by decide) (fun q => ?_) (fun q => ?_)
    · replace h := br_p q h
      exact J27   P0 h _ _ _ (lv_sub hl [] rfl) w
    · replace h := br_n q h
      refine lv_aload_n hx hb dX7_mayHold_19 rfl (lv_at hl 0 rfl) ?_
      refine cw_getI cx hsub w kT8 hk_201 1 (by decide) ⟨hsub _ uf_RX7_22, Or.inl rfl⟩ dX7_mayHold_20 ?_
      refine lv_iconst (v := (5 : Int32)) hx hb dX7_mayHold_23 (by decide) ?_
      refine lv_icmp_ne (tgt := 31) hx hb dX7_mayHold_24 (by decide) (fun q => ?_) (fun q => ?_)
      · replace h := br_n q h
        refine lv_iconst (v := (0 : Int32)) hx hb dX7_mayHold_31 (by decide) ?_
        exact cw_iret cx (rt_e h) w dX7_mayHold_32
      · replace h := br_p q h
        exact J27   P0 h _ _ _ (lv_sub hl [] rfl) w
  · replace h := br_p q h
    refine lv_iconst (v := (1 : Int32)) hx hb dX7_mayHold_9 (by decide) ?_
    exact cw_iret cx (rt_e h) w dX7_mayHold_10
def hm_X7_partAt_29  (P : PS) : Option (Option Nat × PS) := some (none, P)
def hm_X7_partAt (P : PS) (th : Nat) (a1 : Int32) : Option (Option Nat × PS) := if a1 < (0 : Int32) then (hm_X7_partAt_29   P) else (ck (kk P th 8) (nn (pR P th 5) (fun b_202 => bd (hm_Jx4a65c_size_8abf5  P b_202) (fun r_204 P_203 => ck (kk P b_202 0) (if r_204 ≤ a1 then (hm_X7_partAt_29   P_203) else (ck (kk P_203 th 8) (nn (pR P_203 th 5) (fun b_208 => bd (hm_Jx4a65c_get_915e3  P_203 b_208 a1) (fun o_210 P_209 => ck (kk P_203 b_208 0) (nn o_210 (fun b_213 => ck (kk P_209 b_213 8) (some ((some b_213), P_209)))))))))))))
abbrev wu_X7_partAt : List Cond := .code yX7_partAt cX7_partAt 2 (some (.object "HeardWords$Word")) :: wsL_law
theorem ud_X7_partAt : yX7_partAt.cls = RX7 ∧ yX7_partAt.cls ≠ "java/lang/invoke/MethodHandle" ∧ yX7_partAt.cls ≠ "java/lang/invoke/VarHandle" ∧ (parseMethodDescriptor yX7_partAt.desc).map (fun d => d.parameters.length) = some 1 := by decide +kernel
abbrev rmc_X7_partAt : Room := { frames := 3, cells := 0, slots := 0, locals := 64 }
set_option maxHeartbeats 4000000 in
set_option maxRecDepth 100000 in
theorem hcc_X7_partAt (l : Launch) (D : va_G) (cs : Nat → ClassId) (t0 : TS) (P0 T : PS) (th : Nat) (a1 : Int32) (r0 : Option Nat) (h : hm_X7_partAt P0 th a1 = some (r0, T)) : MetCQ l yX7_partAt wu_X7_partAt rmc_X7_partAt D cs t0 [.ref th, .int a1] P0 T r0 0 0 := by
  refine co_start (own := RX7) (ty := (some (.object "HeardWords$Word"))) (cc := cX7_partAt) (maxL := 2) ⟨by decide, rfl⟩ rfl (Nat.le_of_ble_eq_true rfl) ?_
  intro p e s m args below meth c ls cx hnm hl w
  have hx := cx.1
  have hb := cx.2.1
  have hts := cx.2.2.2.1
  have hown := cx.2.2.2.2.1
  have hml := cx.2.2.2.2.2.2
  have hsub : ∀ w ∈ wsL_law, w ∈ wu_X7_partAt := fun _ hq => List.mem_cons_of_mem _ hq
  have hl : lv_has ls 2 [(0, .ref th), (1, .int a1)] := hl
  have J29 : ∀  (P : PS), hm_X7_partAt_29   P = some (r0, T) → cGo p l e rmc_X7_partAt s m args below meth c 2 D cs t0 (pA P0) (cQQ below D cs P0 args s 0 0 r0 T) 0 0 29 [] [] P := by
    intro  P h H locs ls hl w
    unfold hm_X7_partAt_29 at h
    refine lv_null hx hb dX7_partAt_29 ?_
    exact cw_aret cx (by first | exact Or.inl ⟨_, rfl⟩ | exact Or.inr ⟨_, rfl⟩) (v := none) (rt_e h) w dX7_partAt_30
  have hP0 : P0 = P0 := rfl
  unfold hm_X7_partAt at h
  refine lv_iload_n hx hb dX7_partAt_0 rfl (lv_at hl 1 rfl) ?_
  refine lv_if_lt (tgt := 29) hx hb dX7_partAt_1 (by decide) (fun q => ?_) (fun q => ?_)
  · replace h := br_p q h
    exact J29   P0 h _ _ _ (lv_sub hl [] rfl) w
  · replace h := br_n q h
    refine lv_iload_n hx hb dX7_partAt_4 rfl (lv_at hl 1 rfl) ?_
    refine lv_aload_n hx hb dX7_partAt_5 rfl (lv_at hl 0 rfl) ?_
    replace h := ck_e h
    obtain ⟨hk_201, h⟩ := h
    replace h := nn_e h
    obtain ⟨b_202, hbb_202, h⟩ := h
    refine cw_getS cx hsub w kT8 hk_201 5 (by decide) hbb_202 ⟨hsub _ uf_RX7_12, Or.inl rfl⟩ dX7_partAt_6 ?_
    replace h := bd_e h
    obtain ⟨r_204, P_203, hc_205, h⟩ := h
    replace h := ck_e h
    obtain ⟨hk_206, h⟩ := h
    refine cc_i (cr_V (As := []) (rest := [.int a1]) cx (hcc_Jx4a65c_size_8abf5 l D cs t0  P0 P_203 b_202 r_204 hc_205) kT0 hk_206 (cwV 0 hts (uG uw_Jx4a65c_size_8abf5 ul_RX7_39 ui_Jx4a65c_size_8abf5 us_RJx4a65c_Jx4a65c_size_8abf5 un_RJx4a65c) rfl rfl rfl ud_Jx4a65c_size_8abf5 ⟨Nat.le_of_ble_eq_true rfl, Nat.le_of_ble_eq_true rfl⟩) w rfl hl.1 rfl (Nat.le_of_ble_eq_true rfl) dX7_partAt_9 ⟨(Nat.le_of_ble_eq_true rfl), (Nat.le_of_ble_eq_true rfl)⟩) (fun H locs w => ?_)
    refine lv_icmp_ge (tgt := 29) hx hb dX7_partAt_12 (by decide) (fun q => ?_) (fun q => ?_)
    · replace h := br_p q h
      exact J29   P_203 h _ _ _ (lv_sub hl [] rfl) w
    · replace h := br_n q h
      refine lv_aload_n hx hb dX7_partAt_15 rfl (lv_at hl 0 rfl) ?_
      replace h := ck_e h
      obtain ⟨hk_207, h⟩ := h
      replace h := nn_e h
      obtain ⟨b_208, hbb_208, h⟩ := h
      refine cw_getS cx hsub w kT8 hk_207 5 (by decide) hbb_208 ⟨hsub _ uf_RX7_12, Or.inl rfl⟩ dX7_partAt_16 ?_
      refine lv_iload_n hx hb dX7_partAt_19 rfl (lv_at hl 1 rfl) ?_
      replace h := bd_e h
      obtain ⟨o_210, P_209, hc_211, h⟩ := h
      replace h := ck_e h
      obtain ⟨hk_212, h⟩ := h
      refine cc_q (cr_V (As := [.int a1]) (rest := []) cx (hcc_Jx4a65c_get_915e3 l D cs t0  P_203 P_209 b_208 a1 o_210 hc_211) kT0 hk_212 (cwV 1 hts (uG uw_Jx4a65c_get_915e3 ul_RX7_43 ui_Jx4a65c_get_915e3 us_RJx4a65c_Jx4a65c_get_915e3 un_RJx4a65c) rfl rfl rfl ud_Jx4a65c_get_915e3 ⟨Nat.le_of_ble_eq_true rfl, Nat.le_of_ble_eq_true rfl⟩) w rfl hl.1 rfl (Nat.le_of_ble_eq_true rfl) dX7_partAt_20 ⟨(Nat.le_of_ble_eq_true rfl), (Nat.le_of_ble_eq_true rfl)⟩) (fun H locs w => ?_)
      replace h := nn_e h
      obtain ⟨b_213, hbb_213, h⟩ := h
      subst hbb_213
      have hl : lv_has ls 2 [(0, .ref th), (1, .int a1)] := hl
      refine W.eq (g2 := F0 m _ ls [.ref b_213]) rfl ?_
      replace h := ck_e h
      obtain ⟨hk_214, h⟩ := h
      refine cw_cast cx w kT8 hk_214 (hsub _ ucl_RX7_13) dX7_partAt_23 ?_
      refine lv_goto (tgt := 30) hx hb dX7_partAt_26 (by decide) ?_
      exact cw_aret cx (by first | exact Or.inl ⟨_, rfl⟩ | exact Or.inr ⟨_, rfl⟩) (v := (some b_213)) (rt_e h) w dX7_partAt_30
def hm_X7_factsLeft_45 (k7 : Nat → Int32 → Int32 → Int32 → PS → Option (Int32 × PS)) (o0 : Nat) (x1 : Int32) (x2 : Int32) (x3 : Int32) (P : PS) : Option (Int32 × PS) := lt_ (x3 + (1 : Int32)) (fun x3_101 => k7 o0 x1 x2 x3_101 P)
def hm_X7_factsLeft_7 (k7 : Nat → Int32 → Int32 → Int32 → PS → Option (Int32 × PS)) (o0 : Nat) (x1 : Int32) (x2 : Int32) (x3 : Int32) (P : PS) : Option (Int32 × PS) := ck (kk P o0 8) (nn (pR P o0 5) (fun b_203 => bd (hm_Jx4a65c_size_8abf5  P b_203) (fun r_205 P_204 => ck (kk P b_203 0) (if r_205 ≤ x3 then (some (x2, P_204)) else (bd (hm_X8_has  P_204 x1 x3) (fun r_209 P_208 => if r_209 = (0 : Int32) then (hm_X7_factsLeft_45 k7 o0 x1 x2 x3 P_208) else (ck (kk P_208 o0 8) (nn (pR P_208 o0 5) (fun b_212 => bd (hm_Jx4a65c_get_915e3  P_208 b_212 x3) (fun o_214 P_213 => ck (kk P_208 b_212 0) (nn o_214 (fun b_217 => ck (kk P_213 b_217 8) (lt_ ((x2 &&& ((pI P_213 b_217 4) ^^^ (-1 : Int32)))) (fun x2_219 => hm_X7_factsLeft_45 k7 o0 x1 x2_219 x3 P_213))))))))))))))
def hm_X7_factsLeft_7L : Nat → Nat → Int32 → Int32 → Int32 → PS → Option (Int32 × PS)
  | 0, _, _, _, _, _ => none
  | n + 1, o0, x1, x2, x3, P => hm_X7_factsLeft_7  (hm_X7_factsLeft_7L  n) o0 x1 x2 x3 P
def hm_X7_factsLeft (P : PS) (th : Nat) (a1 : Int32) : Option (Int32 × PS) := ck (kk P th 8) (lt_ ((pI P th 4)) (fun x2_321 => lt_ ((0 : Int32)) (fun x3_322 => hm_X7_factsLeft_7L  4000 th a1 x2_321 x3_322 P)))
abbrev wu_X7_factsLeft : List Cond := .code yX7_factsLeft cX7_factsLeft 4 (some .int) :: wsL_law
theorem ud_X7_factsLeft : yX7_factsLeft.cls = RX7 ∧ yX7_factsLeft.cls ≠ "java/lang/invoke/MethodHandle" ∧ yX7_factsLeft.cls ≠ "java/lang/invoke/VarHandle" ∧ (parseMethodDescriptor yX7_factsLeft.desc).map (fun d => d.parameters.length) = some 1 := by decide +kernel
abbrev rmc_X7_factsLeft : Room := { frames := 3, cells := 0, slots := 0, locals := 64 }
set_option maxHeartbeats 4000000 in
set_option maxRecDepth 100000 in
theorem hcc_X7_factsLeft (l : Launch) (D : va_G) (cs : Nat → ClassId) (t0 : TS) (P0 T : PS) (th : Nat) (a1 : Int32) (r0 : Int32) (h : hm_X7_factsLeft P0 th a1 = some (r0, T)) : MetCI l yX7_factsLeft wu_X7_factsLeft rmc_X7_factsLeft D cs t0 [.ref th, .int a1] P0 T r0 0 0 := by
  refine co_start (own := RX7) (ty := (some .int)) (cc := cX7_factsLeft) (maxL := 4) ⟨by decide, rfl⟩ rfl (Nat.le_of_ble_eq_true rfl) ?_
  intro p e s m args below meth c ls cx hnm hl w
  have hx := cx.1
  have hb := cx.2.1
  have hts := cx.2.2.2.1
  have hown := cx.2.2.2.2.1
  have hml := cx.2.2.2.2.2.2
  have hsub : ∀ w ∈ wsL_law, w ∈ wu_X7_factsLeft := fun _ hq => List.mem_cons_of_mem _ hq
  have hl : lv_has ls 4 [(0, .ref th), (1, .int a1)] := hl
  have J45 : ∀ (k7 : Nat → Int32 → Int32 → Int32 → PS → Option (Int32 × PS)) (hk7 : ∀ (o0 : Nat) (x1 : Int32) (x2 : Int32) (x3 : Int32) (P : PS), k7 o0 x1 x2 x3 P = some (r0, T) → cGo p l e rmc_X7_factsLeft s m args below meth c 4 D cs t0 (pA P0) (cQI below D cs P0 args s 0 0 r0 T) 0 0 7 [(0, .ref o0), (1, .int x1), (2, .int x2), (3, .int x3)] [] P) (o0 : Nat) (x1 : Int32) (x2 : Int32) (x3 : Int32) (P : PS), hm_X7_factsLeft_45 k7 o0 x1 x2 x3 P = some (r0, T) → cGo p l e rmc_X7_factsLeft s m args below meth c 4 D cs t0 (pA P0) (cQI below D cs P0 args s 0 0 r0 T) 0 0 45 [(0, .ref o0), (1, .int x1), (2, .int x2), (3, .int x3)] [] P := by
    intro k7 hk7 o0 x1 x2 x3 P h H locs ls hl w
    unfold hm_X7_factsLeft_45 at h
    replace h := lt_e h
    obtain ⟨x3_101, ex3_101, h⟩ := h
    refine lv_iinc (v := x3_101) (lv' := [(3, .int x3_101), (0, .ref o0), (1, .int x1), (2, .int x2)]) hx hb dX7_factsLeft_45 hl (k := 3) rfl (by rw [ex3_101]; rfl) (by decide) (rfl) (fun ls hl => ?_)
    refine lv_goto (tgt := 7) hx hb dX7_factsLeft_48 (by decide) ?_
    exact hk7 o0 x1 x2 x3_101 P h _ _ _ (lv_sub hl [1, 2, 3, 0] rfl) w
  have L7 : ∀ (n : Nat) (o0 : Nat) (x1 : Int32) (x2 : Int32) (x3 : Int32) (P : PS), hm_X7_factsLeft_7L  n o0 x1 x2 x3 P = some (r0, T) → cGo p l e rmc_X7_factsLeft s m args below meth c 4 D cs t0 (pA P0) (cQI below D cs P0 args s 0 0 r0 T) 0 0 7 [(0, .ref o0), (1, .int x1), (2, .int x2), (3, .int x3)] [] P := by
    intro n
    induction n with
    | zero =>
      intro o0 x1 x2 x3 P h
      have h : none = some (r0, T) := h
      cases h
    | succ n hk7 =>
      intro o0 x1 x2 x3 P h H locs ls hl w
      have h : hm_X7_factsLeft_7  (hm_X7_factsLeft_7L  n) o0 x1 x2 x3 P = some (r0, T) := h
      generalize hm_X7_factsLeft_7L  n = k7 at h hk7
      unfold hm_X7_factsLeft_7 at h
      refine lv_iload_n hx hb dX7_factsLeft_7 rfl (lv_at hl 3 rfl) ?_
      refine lv_aload_n hx hb dX7_factsLeft_8 rfl (lv_at hl 0 rfl) ?_
      replace h := ck_e h
      obtain ⟨hk_202, h⟩ := h
      replace h := nn_e h
      obtain ⟨b_203, hbb_203, h⟩ := h
      refine cw_getS cx hsub w kT8 hk_202 5 (by decide) hbb_203 ⟨hsub _ uf_RX7_12, Or.inl rfl⟩ dX7_factsLeft_9 ?_
      replace h := bd_e h
      obtain ⟨r_205, P_204, hc_206, h⟩ := h
      replace h := ck_e h
      obtain ⟨hk_207, h⟩ := h
      refine cc_i (cr_V (As := []) (rest := [.int x3]) cx (hcc_Jx4a65c_size_8abf5 l D cs t0  P P_204 b_203 r_205 hc_206) kT0 hk_207 (cwV 0 hts (uG uw_Jx4a65c_size_8abf5 ul_RX7_39 ui_Jx4a65c_size_8abf5 us_RJx4a65c_Jx4a65c_size_8abf5 un_RJx4a65c) rfl rfl rfl ud_Jx4a65c_size_8abf5 ⟨Nat.le_of_ble_eq_true rfl, Nat.le_of_ble_eq_true rfl⟩) w rfl hl.1 rfl (Nat.le_of_ble_eq_true rfl) dX7_factsLeft_12 ⟨(Nat.le_of_ble_eq_true rfl), (Nat.le_of_ble_eq_true rfl)⟩) (fun H locs w => ?_)
      refine lv_icmp_ge (tgt := 51) hx hb dX7_factsLeft_15 (by decide) (fun q => ?_) (fun q => ?_)
      · replace h := br_p q h
        refine lv_iload_n hx hb dX7_factsLeft_51 rfl (lv_at hl 2 rfl) ?_
        exact cw_iret cx (rt_e h) w dX7_factsLeft_52
      · replace h := br_n q h
        refine lv_iload_n hx hb dX7_factsLeft_18 rfl (lv_at hl 1 rfl) ?_
        refine lv_iload_n hx hb dX7_factsLeft_19 rfl (lv_at hl 3 rfl) ?_
        replace h := bd_e h
        obtain ⟨r_209, P_208, hc_210, h⟩ := h
        refine cc_i (cr_SN (As := [.int x1, .int x3]) (rest := []) cx (hcc_X8_has l D cs t0  P_204 P_208 x1 x3 r_209 hc_210) ⟨va_cnB (host := "HeardWords") 2 hts (uGB uw_X8_has) rfl rfl rfl (w.2.2.2.2.2.2.1.2.1 ("HeardWords$Word", 47, yX8_has, "HeardWords") (by decide +kernel)) (hts _ (hsub _ un_RX8)) ud_X8_has.2 ⟨Nat.le_of_ble_eq_true rfl, Nat.le_of_ble_eq_true rfl⟩, hts _ (hsub _ ut_X8_has), trivial⟩ w rfl hl.1 rfl (Nat.le_of_ble_eq_true rfl) dX7_factsLeft_20 ⟨(Nat.le_of_ble_eq_true rfl), (Nat.le_of_ble_eq_true rfl)⟩) (fun H locs w => ?_)
        refine lv_if_eq (tgt := 45) hx hb dX7_factsLeft_23 (by decide) (fun q => ?_) (fun q => ?_)
        · replace h := br_p q h
          exact J45 k7 hk7 o0 x1 x2 x3 P_208 h _ _ _ (lv_sub hl [0, 1, 2, 3] rfl) w
        · replace h := br_n q h
          refine lv_iload_n hx hb dX7_factsLeft_26 rfl (lv_at hl 2 rfl) ?_
          refine lv_aload_n hx hb dX7_factsLeft_27 rfl (lv_at hl 0 rfl) ?_
          replace h := ck_e h
          obtain ⟨hk_211, h⟩ := h
          replace h := nn_e h
          obtain ⟨b_212, hbb_212, h⟩ := h
          refine cw_getS cx hsub w kT8 hk_211 5 (by decide) hbb_212 ⟨hsub _ uf_RX7_12, Or.inl rfl⟩ dX7_factsLeft_28 ?_
          refine lv_iload_n hx hb dX7_factsLeft_31 rfl (lv_at hl 3 rfl) ?_
          replace h := bd_e h
          obtain ⟨o_214, P_213, hc_215, h⟩ := h
          replace h := ck_e h
          obtain ⟨hk_216, h⟩ := h
          refine cc_q (cr_V (As := [.int x3]) (rest := [.int x2]) cx (hcc_Jx4a65c_get_915e3 l D cs t0  P_208 P_213 b_212 x3 o_214 hc_215) kT0 hk_216 (cwV 1 hts (uG uw_Jx4a65c_get_915e3 ul_RX7_43 ui_Jx4a65c_get_915e3 us_RJx4a65c_Jx4a65c_get_915e3 un_RJx4a65c) rfl rfl rfl ud_Jx4a65c_get_915e3 ⟨Nat.le_of_ble_eq_true rfl, Nat.le_of_ble_eq_true rfl⟩) w rfl hl.1 rfl (Nat.le_of_ble_eq_true rfl) dX7_factsLeft_32 ⟨(Nat.le_of_ble_eq_true rfl), (Nat.le_of_ble_eq_true rfl)⟩) (fun H locs w => ?_)
          replace h := nn_e h
          obtain ⟨b_217, hbb_217, h⟩ := h
          subst hbb_217
          have hl : lv_has ls 4 [(0, .ref o0), (1, .int x1), (2, .int x2), (3, .int x3)] := hl
          refine W.eq (g2 := F0 m _ ls [.ref b_217, .int x2]) rfl ?_
          replace h := ck_e h
          obtain ⟨hk_218, h⟩ := h
          refine cw_cast cx w kT8 hk_218 (hsub _ ucl_RX7_13) dX7_factsLeft_35 ?_
          refine cw_getI cx hsub w kT8 hk_218 4 (by decide) ⟨hsub _ uf_RX7_29, Or.inl rfl⟩ dX7_factsLeft_38 ?_
          refine lv_iconst (v := (-1 : Int32)) hx hb dX7_factsLeft_41 (by decide) ?_
          refine lv_ixor hx hb dX7_factsLeft_42 ?_
          refine lv_iand hx hb dX7_factsLeft_43 ?_
          replace h := lt_e h
          obtain ⟨x2_219, ex2_219, h⟩ := h
          refine top_i ex2_219 ?_
          refine lv_istore_n (lv' := [(2, .int x2_219), (0, .ref o0), (1, .int x1), (3, .int x3)]) hx hb dX7_factsLeft_44 rfl hl (by decide) (rfl) (fun ls hl => ?_)
          exact J45 k7 hk7 o0 x1 x2_219 x3 P_213 h _ _ _ (lv_sub hl [1, 2, 0, 3] rfl) w
  have hP0 : P0 = P0 := rfl
  unfold hm_X7_factsLeft at h
  refine lv_aload_n hx hb dX7_factsLeft_0 rfl (lv_at hl 0 rfl) ?_
  replace h := ck_e h
  obtain ⟨hk_320, h⟩ := h
  refine cw_getI cx hsub w kT8 hk_320 4 (by decide) ⟨hsub _ uf_RX7_29, Or.inl rfl⟩ dX7_factsLeft_1 ?_
  replace h := lt_e h
  obtain ⟨x2_321, ex2_321, h⟩ := h
  refine top_i ex2_321 ?_
  refine lv_istore_n (lv' := [(2, .int x2_321), (0, .ref th), (1, .int a1)]) hx hb dX7_factsLeft_4 rfl hl (by decide) (rfl) (fun ls hl => ?_)
  refine lv_iconst (v := (0 : Int32)) hx hb dX7_factsLeft_5 (by decide) ?_
  replace h := lt_e h
  obtain ⟨x3_322, ex3_322, h⟩ := h
  refine top_i ex3_322 ?_
  refine lv_istore_n (lv' := [(3, .int x3_322), (2, .int x2_321), (0, .ref th), (1, .int a1)]) hx hb dX7_factsLeft_6 rfl hl (by decide) (rfl) (fun ls hl => ?_)
  exact L7  4000 th a1 x2_321 x3_322 P0 h _ _ _ (lv_sub hl [2, 3, 1, 0] rfl) w
def hm_X8_personAt_22  (P : PS) : Option (Option Nat × PS) := some (none, P)
def hm_X8_personAt (P : PS) (th : Nat) (a1 : Int32) : Option (Option Nat × PS) := if a1 < (0 : Int32) then (hm_X8_personAt_22   P) else (ck (kk P th 9) (nn (pR P th 0) (fun b_202 => ck (kk P b_202 15) (if (nI (pN P b_202)) ≤ a1 then (hm_X8_personAt_22   P) else (nn (pR P th 0) (fun b_204 => ck (kk P b_204 15) (ck (vin a1 (pN P b_204)) (nn (pR P b_204 (a1).toNatClampNeg) (fun b_207 => some ((some b_207), P))))))))))
abbrev wu_X8_personAt : List Cond := .code yX8_personAt cX8_personAt 2 (some (.object "HeardWords$Person")) :: wsL_law
theorem ud_X8_personAt : yX8_personAt.cls = RX8 ∧ yX8_personAt.cls ≠ "java/lang/invoke/MethodHandle" ∧ yX8_personAt.cls ≠ "java/lang/invoke/VarHandle" ∧ (parseMethodDescriptor yX8_personAt.desc).map (fun d => d.parameters.length) = some 1 := by decide +kernel
abbrev rmc_X8_personAt : Room := { frames := 0, cells := 0, slots := 0, locals := 0 }
set_option maxHeartbeats 4000000 in
set_option maxRecDepth 100000 in
theorem hcc_X8_personAt (l : Launch) (D : va_G) (cs : Nat → ClassId) (t0 : TS) (P0 T : PS) (th : Nat) (a1 : Int32) (r0 : Option Nat) (h : hm_X8_personAt P0 th a1 = some (r0, T)) : MetCQ l yX8_personAt wu_X8_personAt rmc_X8_personAt D cs t0 [.ref th, .int a1] P0 T r0 0 0 := by
  refine co_start (own := RX8) (ty := (some (.object "HeardWords$Person"))) (cc := cX8_personAt) (maxL := 2) ⟨by decide, rfl⟩ rfl (Nat.le_of_ble_eq_true rfl) ?_
  intro p e s m args below meth c ls cx hnm hl w
  have hx := cx.1
  have hb := cx.2.1
  have hts := cx.2.2.2.1
  have hown := cx.2.2.2.2.1
  have hml := cx.2.2.2.2.2.2
  have hsub : ∀ w ∈ wsL_law, w ∈ wu_X8_personAt := fun _ hq => List.mem_cons_of_mem _ hq
  have hl : lv_has ls 2 [(0, .ref th), (1, .int a1)] := hl
  have J22 : ∀  (P : PS), hm_X8_personAt_22   P = some (r0, T) → cGo p l e rmc_X8_personAt s m args below meth c 2 D cs t0 (pA P0) (cQQ below D cs P0 args s 0 0 r0 T) 0 0 22 [] [] P := by
    intro  P h H locs ls hl w
    unfold hm_X8_personAt_22 at h
    refine lv_null hx hb dX8_personAt_22 ?_
    exact cw_aret cx (by first | exact Or.inl ⟨_, rfl⟩ | exact Or.inr ⟨_, rfl⟩) (v := none) (rt_e h) w dX8_personAt_23
  have hP0 : P0 = P0 := rfl
  unfold hm_X8_personAt at h
  refine lv_iload_n hx hb dX8_personAt_0 rfl (lv_at hl 1 rfl) ?_
  refine lv_if_lt (tgt := 22) hx hb dX8_personAt_1 (by decide) (fun q => ?_) (fun q => ?_)
  · replace h := br_p q h
    exact J22   P0 h _ _ _ (lv_sub hl [] rfl) w
  · replace h := br_n q h
    refine lv_iload_n hx hb dX8_personAt_4 rfl (lv_at hl 1 rfl) ?_
    refine lv_aload_n hx hb dX8_personAt_5 rfl (lv_at hl 0 rfl) ?_
    replace h := ck_e h
    obtain ⟨hk_201, h⟩ := h
    replace h := nn_e h
    obtain ⟨b_202, hbb_202, h⟩ := h
    refine cw_getS cx hsub w kT9 hk_201 0 (by decide) hbb_202 ⟨hsub _ uf_RX8_13, Or.inl rfl⟩ dX8_personAt_6 ?_
    replace h := ck_e h
    obtain ⟨hk_203, h⟩ := h
    refine cw_alen cx w hk_203 rfl dX8_personAt_9 ?_
    refine lv_icmp_ge (tgt := 22) hx hb dX8_personAt_10 (by decide) (fun q => ?_) (fun q => ?_)
    · replace h := br_p q h
      exact J22   P0 h _ _ _ (lv_sub hl [] rfl) w
    · replace h := br_n q h
      refine lv_aload_n hx hb dX8_personAt_13 rfl (lv_at hl 0 rfl) ?_
      replace h := nn_e h
      obtain ⟨b_204, hbb_204, h⟩ := h
      refine cw_getS cx hsub w kT9 hk_201 0 (by decide) hbb_204 ⟨hsub _ uf_RX8_13, Or.inl rfl⟩ dX8_personAt_14 ?_
      refine lv_iload_n hx hb dX8_personAt_17 rfl (lv_at hl 1 rfl) ?_
      replace h := ck_e h
      obtain ⟨hk_205, h⟩ := h
      replace h := ck_e h
      obtain ⟨hq_206, h⟩ := h
      replace h := nn_e h
      obtain ⟨b_207, hbb_207, h⟩ := h
      refine cw_pald cx w hk_205 hq_206 hbb_207.symm dX8_personAt_18 ?_
      have hl : lv_has ls 2 [(0, .ref th), (1, .int a1)] := hl
      refine W.eq (g2 := F0 m _ ls [.ref b_207]) rfl ?_
      refine lv_goto (tgt := 23) hx hb dX8_personAt_19 (by decide) ?_
      exact cw_aret cx (by first | exact Or.inl ⟨_, rfl⟩ | exact Or.inr ⟨_, rfl⟩) (v := (some b_207)) (rt_e h) w dX8_personAt_23
def hm_X8_within_13  (P : PS) : Option (Int32 × PS) := some ((0 : Int32), P)
def hm_X8_within (P : PS) (a1 : Int32) (a2 : Int32) : Option (Int32 × PS) := if a1 < (0 : Int32) then (hm_X8_within_13   P) else (if a2 ≤ a1 then (hm_X8_within_13   P) else (some ((1 : Int32), P)))
abbrev wu_X8_within : List Cond := .code yX8_within cX8_within 2 (some .boolean) :: wsL_law
theorem ud_X8_within : yX8_within.cls = RX8 ∧ yX8_within.cls ≠ "java/lang/invoke/MethodHandle" ∧ yX8_within.cls ≠ "java/lang/invoke/VarHandle" ∧ (parseMethodDescriptor yX8_within.desc).map (fun d => d.parameters.length) = some 2 := by decide +kernel
abbrev rmc_X8_within : Room := { frames := 0, cells := 0, slots := 0, locals := 0 }
set_option maxHeartbeats 4000000 in
set_option maxRecDepth 100000 in
theorem hcc_X8_within (l : Launch) (D : va_G) (cs : Nat → ClassId) (t0 : TS) (P0 T : PS) (a1 : Int32) (a2 : Int32) (r0 : Int32) (h : hm_X8_within P0 a1 a2 = some (r0, T)) : MetCI l yX8_within wu_X8_within rmc_X8_within D cs t0 [.int a1, .int a2] P0 T r0 0 0 := by
  refine co_start (own := RX8) (ty := (some .boolean)) (cc := cX8_within) (maxL := 2) ⟨by decide, rfl⟩ rfl (Nat.le_of_ble_eq_true rfl) ?_
  intro p e s m args below meth c ls cx hnm hl w
  have hx := cx.1
  have hb := cx.2.1
  have hts := cx.2.2.2.1
  have hown := cx.2.2.2.2.1
  have hml := cx.2.2.2.2.2.2
  have hsub : ∀ w ∈ wsL_law, w ∈ wu_X8_within := fun _ hq => List.mem_cons_of_mem _ hq
  have hl : lv_has ls 2 [(0, .int a1), (1, .int a2)] := hl
  have J13 : ∀  (P : PS), hm_X8_within_13   P = some (r0, T) → cGo p l e rmc_X8_within s m args below meth c 2 D cs t0 (pA P0) (cQI below D cs P0 args s 0 0 r0 T) 0 0 13 [] [] P := by
    intro  P h H locs ls hl w
    unfold hm_X8_within_13 at h
    refine lv_iconst (v := (0 : Int32)) hx hb dX8_within_13 (by decide) ?_
    exact cw_zret cx (Or.inl rfl) (rt_e h) w dX8_within_14
  have hP0 : P0 = P0 := rfl
  unfold hm_X8_within at h
  refine lv_iload_n hx hb dX8_within_0 rfl (lv_at hl 0 rfl) ?_
  refine lv_if_lt (tgt := 13) hx hb dX8_within_1 (by decide) (fun q => ?_) (fun q => ?_)
  · replace h := br_p q h
    exact J13   P0 h _ _ _ (lv_sub hl [] rfl) w
  · replace h := br_n q h
    refine lv_iload_n hx hb dX8_within_4 rfl (lv_at hl 0 rfl) ?_
    refine lv_iload_n hx hb dX8_within_5 rfl (lv_at hl 1 rfl) ?_
    refine lv_icmp_ge (tgt := 13) hx hb dX8_within_6 (by decide) (fun q => ?_) (fun q => ?_)
    · replace h := br_p q h
      exact J13   P0 h _ _ _ (lv_sub hl [] rfl) w
    · replace h := br_n q h
      refine lv_iconst (v := (1 : Int32)) hx hb dX8_within_9 (by decide) ?_
      refine lv_goto (tgt := 14) hx hb dX8_within_10 (by decide) ?_
      exact cw_zret cx (Or.inr rfl) (rt_e h) w dX8_within_14
def hm_X8_known (P : PS) (th : Nat) (a1 : Int32) (a2 : Int32) : Option (Int32 × PS) := bd (hm_X8_personAt  P th a1) (fun o_102 P_101 => ck (kk P th 9) (nl o_102 (some ((-1 : Int32), P_101)) (fun b_105 => bd (hm_X8_within  P_101 a2 (64 : Int32)) (fun r_107 P_106 => if r_107 = (0 : Int32) then (some ((-2 : Int32), P_106)) else (ck (kk P_106 b_105 3) (lt_ ((pI P_106 b_105 1)) (fun x4_110 => lt_ (pIu P_106 b_105 1 a2) (fun P_111 => some (x4_110, P_111)))))))))
abbrev wu_X8_known : List Cond := .code yX8_known cX8_known 5 (some .int) :: wsL_law
theorem ud_X8_known : yX8_known.cls = RX8 ∧ yX8_known.cls ≠ "java/lang/invoke/MethodHandle" ∧ yX8_known.cls ≠ "java/lang/invoke/VarHandle" ∧ (parseMethodDescriptor yX8_known.desc).map (fun d => d.parameters.length) = some 2 := by decide +kernel
abbrev rmc_X8_known : Room := { frames := 1, cells := 0, slots := 0, locals := 21 }
set_option maxHeartbeats 4000000 in
set_option maxRecDepth 100000 in
theorem hcc_X8_known (l : Launch) (D : va_G) (cs : Nat → ClassId) (t0 : TS) (P0 T : PS) (th : Nat) (a1 : Int32) (a2 : Int32) (r0 : Int32) (h : hm_X8_known P0 th a1 a2 = some (r0, T)) : MetCI l yX8_known wu_X8_known rmc_X8_known D cs t0 [.ref th, .int a1, .int a2] P0 T r0 0 0 := by
  refine co_start (own := RX8) (ty := (some .int)) (cc := cX8_known) (maxL := 5) ⟨by decide, rfl⟩ rfl (Nat.le_of_ble_eq_true rfl) ?_
  intro p e s m args below meth c ls cx hnm hl w
  have hx := cx.1
  have hb := cx.2.1
  have hts := cx.2.2.2.1
  have hown := cx.2.2.2.2.1
  have hml := cx.2.2.2.2.2.2
  have hsub : ∀ w ∈ wsL_law, w ∈ wu_X8_known := fun _ hq => List.mem_cons_of_mem _ hq
  have hl : lv_has ls 5 [(0, .ref th), (1, .int a1), (2, .int a2)] := hl
  have hP0 : P0 = P0 := rfl
  unfold hm_X8_known at h
  refine lv_aload_n hx hb dX8_known_0 rfl (lv_at hl 0 rfl) ?_
  refine lv_iload_n hx hb dX8_known_1 rfl (lv_at hl 1 rfl) ?_
  replace h := bd_e h
  obtain ⟨o_102, P_101, hc_103, h⟩ := h
  replace h := ck_e h
  obtain ⟨hk_104, h⟩ := h
  refine cc_q (cr_V (As := [.int a1]) (rest := []) cx (hcc_X8_personAt l D cs t0  P0 P_101 th a1 o_102 hc_103) kT9 hk_104 (cwV 1 hts (uG uw_X8_personAt ul_RX8_68 ui_X8_personAt us_RX8_X8_personAt un_RX8) rfl rfl rfl ud_X8_personAt ⟨Nat.le_of_ble_eq_true rfl, Nat.le_of_ble_eq_true rfl⟩) w rfl hl.1 rfl (Nat.le_of_ble_eq_true rfl) dX8_known_2 ⟨(Nat.le_of_ble_eq_true rfl), (Nat.le_of_ble_eq_true rfl)⟩) (fun H locs w => ?_)
  refine lq_astore_n (lv' := [(3, va_rf o_102), (0, .ref th), (1, .int a1), (2, .int a2)]) hx hb dX8_known_5 rfl hl (by decide) (fun v hv => by subst hv; exact (rfl)) (fun ls hl => ?_)
  refine lq_aload_n hx hb dX8_known_6 rfl (lv_at hl 0 rfl) ?_
  cases o_102 with
  | none =>
    replace h := nl_n h
    have hl : lv_has ls 5 [(3, .null), (0, .ref th), (1, .int a1), (2, .int a2)] := hl
    refine lv_ifnonnullN hx hb dX8_known_7 ?_
    refine lv_iconst (v := (-1 : Int32)) hx hb dX8_known_10 (by decide) ?_
    exact cw_iret cx (rt_e h) w dX8_known_11
  | some b_105 =>
    replace h := nl_s h
    have hl : lv_has ls 5 [(3, .ref b_105), (0, .ref th), (1, .int a1), (2, .int a2)] := hl
    refine lv_ifnonnull (tgt := 12) hx hb dX8_known_7 (by decide) ?_
    refine lv_iload_n hx hb dX8_known_12 rfl (lv_at hl 3 rfl) ?_
    refine lv_bipush (v := (64 : Int32)) hx hb dX8_known_13 (by decide) ?_
    replace h := bd_e h
    obtain ⟨r_107, P_106, hc_108, h⟩ := h
    refine cc_i (cr_S (As := [.int a2, .int (64 : Int32)]) (rest := []) cx (hcc_X8_within l D cs t0  P_101 P_106 a2 (64 : Int32) r_107 hc_108) (va_cwS 2 hts (uGS uw_X8_within ul_RX8_72 ut_X8_within un_RX8) rfl rfl rfl ud_X8_within.2 ⟨Nat.le_of_ble_eq_true rfl, Nat.le_of_ble_eq_true rfl⟩) w rfl hl.1 rfl (Nat.le_of_ble_eq_true rfl) dX8_known_15 ⟨(Nat.le_of_ble_eq_true rfl), (Nat.le_of_ble_eq_true rfl)⟩) (fun H locs w => ?_)
    refine lv_if_ne (tgt := 24) hx hb dX8_known_18 (by decide) (fun q => ?_) (fun q => ?_)
    · replace h := br_n q h
      refine lv_aload_n hx hb dX8_known_24 rfl (lv_at hl 0 rfl) ?_
      replace h := ck_e h
      obtain ⟨hk_109, h⟩ := h
      refine cw_getI cx hsub w kT3 hk_109 1 (by decide) ⟨hsub _ uf_RX8_76, Or.inl rfl⟩ dX8_known_25 ?_
      replace h := lt_e h
      obtain ⟨x4_110, ex4_110, h⟩ := h
      refine top_i ex4_110 ?_
      refine lv_istore (lv' := [(4, .int x4_110), (3, .ref b_105), (0, .ref th), (1, .int a1), (2, .int a2)]) hx hb dX8_known_28 hl (by decide) (rfl) (fun ls hl => ?_)
      refine lv_aload_n hx hb dX8_known_30 rfl (lv_at hl 1 rfl) ?_
      refine lv_iload_n hx hb dX8_known_31 rfl (lv_at hl 4 rfl) ?_
      replace h := lt_e h
      obtain ⟨P_111, eP_111, h⟩ := h
      refine cw_putI cx hsub w kT3 hk_109 1 eP_111 ⟨by decide, by decide, rfl⟩ (Or.inl rfl) ⟨hsub _ uf_RX8_76, Or.inl rfl⟩ dX8_known_32 (fun H locs w => ?_)
      refine lv_iload hx hb dX8_known_35 (lv_at hl 0 rfl) ?_
      exact cw_iret cx (rt_e h) w dX8_known_37
    · replace h := br_p q h
      refine lv_bipush (v := (-2 : Int32)) hx hb dX8_known_21 (by decide) ?_
      exact cw_iret cx (rt_e h) w dX8_known_23
def hm_X8_wordAt_29  (P : PS) : Option (Option Nat × PS) := some (none, P)
def hm_X8_wordAt (P : PS) (th : Nat) (a1 : Int32) : Option (Option Nat × PS) := if a1 < (0 : Int32) then (hm_X8_wordAt_29   P) else (ck (kk P th 9) (nn (pR P th 1) (fun b_202 => bd (hm_Jx4a65c_size_8abf5  P b_202) (fun r_204 P_203 => ck (kk P b_202 0) (if r_204 ≤ a1 then (hm_X8_wordAt_29   P_203) else (ck (kk P_203 th 9) (nn (pR P_203 th 1) (fun b_208 => bd (hm_Jx4a65c_get_915e3  P_203 b_208 a1) (fun o_210 P_209 => ck (kk P_203 b_208 0) (nn o_210 (fun b_213 => ck (kk P_209 b_213 8) (some ((some b_213), P_209)))))))))))))
abbrev wu_X8_wordAt : List Cond := .code yX8_wordAt cX8_wordAt 2 (some (.object "HeardWords$Word")) :: wsL_law
theorem ud_X8_wordAt : yX8_wordAt.cls = RX8 ∧ yX8_wordAt.cls ≠ "java/lang/invoke/MethodHandle" ∧ yX8_wordAt.cls ≠ "java/lang/invoke/VarHandle" ∧ (parseMethodDescriptor yX8_wordAt.desc).map (fun d => d.parameters.length) = some 1 := by decide +kernel
abbrev rmc_X8_wordAt : Room := { frames := 3, cells := 0, slots := 0, locals := 64 }
set_option maxHeartbeats 4000000 in
set_option maxRecDepth 100000 in
theorem hcc_X8_wordAt (l : Launch) (D : va_G) (cs : Nat → ClassId) (t0 : TS) (P0 T : PS) (th : Nat) (a1 : Int32) (r0 : Option Nat) (h : hm_X8_wordAt P0 th a1 = some (r0, T)) : MetCQ l yX8_wordAt wu_X8_wordAt rmc_X8_wordAt D cs t0 [.ref th, .int a1] P0 T r0 0 0 := by
  refine co_start (own := RX8) (ty := (some (.object "HeardWords$Word"))) (cc := cX8_wordAt) (maxL := 2) ⟨by decide, rfl⟩ rfl (Nat.le_of_ble_eq_true rfl) ?_
  intro p e s m args below meth c ls cx hnm hl w
  have hx := cx.1
  have hb := cx.2.1
  have hts := cx.2.2.2.1
  have hown := cx.2.2.2.2.1
  have hml := cx.2.2.2.2.2.2
  have hsub : ∀ w ∈ wsL_law, w ∈ wu_X8_wordAt := fun _ hq => List.mem_cons_of_mem _ hq
  have hl : lv_has ls 2 [(0, .ref th), (1, .int a1)] := hl
  have J29 : ∀  (P : PS), hm_X8_wordAt_29   P = some (r0, T) → cGo p l e rmc_X8_wordAt s m args below meth c 2 D cs t0 (pA P0) (cQQ below D cs P0 args s 0 0 r0 T) 0 0 29 [] [] P := by
    intro  P h H locs ls hl w
    unfold hm_X8_wordAt_29 at h
    refine lv_null hx hb dX8_wordAt_29 ?_
    exact cw_aret cx (by first | exact Or.inl ⟨_, rfl⟩ | exact Or.inr ⟨_, rfl⟩) (v := none) (rt_e h) w dX8_wordAt_30
  have hP0 : P0 = P0 := rfl
  unfold hm_X8_wordAt at h
  refine lv_iload_n hx hb dX8_wordAt_0 rfl (lv_at hl 1 rfl) ?_
  refine lv_if_lt (tgt := 29) hx hb dX8_wordAt_1 (by decide) (fun q => ?_) (fun q => ?_)
  · replace h := br_p q h
    exact J29   P0 h _ _ _ (lv_sub hl [] rfl) w
  · replace h := br_n q h
    refine lv_iload_n hx hb dX8_wordAt_4 rfl (lv_at hl 1 rfl) ?_
    refine lv_aload_n hx hb dX8_wordAt_5 rfl (lv_at hl 0 rfl) ?_
    replace h := ck_e h
    obtain ⟨hk_201, h⟩ := h
    replace h := nn_e h
    obtain ⟨b_202, hbb_202, h⟩ := h
    refine cw_getS cx hsub w kT9 hk_201 1 (by decide) hbb_202 ⟨hsub _ uf_RX8_20, Or.inl rfl⟩ dX8_wordAt_6 ?_
    replace h := bd_e h
    obtain ⟨r_204, P_203, hc_205, h⟩ := h
    replace h := ck_e h
    obtain ⟨hk_206, h⟩ := h
    refine cc_i (cr_V (As := []) (rest := [.int a1]) cx (hcc_Jx4a65c_size_8abf5 l D cs t0  P0 P_203 b_202 r_204 hc_205) kT0 hk_206 (cwV 0 hts (uG uw_Jx4a65c_size_8abf5 ul_RX8_80 ui_Jx4a65c_size_8abf5 us_RJx4a65c_Jx4a65c_size_8abf5 un_RJx4a65c) rfl rfl rfl ud_Jx4a65c_size_8abf5 ⟨Nat.le_of_ble_eq_true rfl, Nat.le_of_ble_eq_true rfl⟩) w rfl hl.1 rfl (Nat.le_of_ble_eq_true rfl) dX8_wordAt_9 ⟨(Nat.le_of_ble_eq_true rfl), (Nat.le_of_ble_eq_true rfl)⟩) (fun H locs w => ?_)
    refine lv_icmp_ge (tgt := 29) hx hb dX8_wordAt_12 (by decide) (fun q => ?_) (fun q => ?_)
    · replace h := br_p q h
      exact J29   P_203 h _ _ _ (lv_sub hl [] rfl) w
    · replace h := br_n q h
      refine lv_aload_n hx hb dX8_wordAt_15 rfl (lv_at hl 0 rfl) ?_
      replace h := ck_e h
      obtain ⟨hk_207, h⟩ := h
      replace h := nn_e h
      obtain ⟨b_208, hbb_208, h⟩ := h
      refine cw_getS cx hsub w kT9 hk_207 1 (by decide) hbb_208 ⟨hsub _ uf_RX8_20, Or.inl rfl⟩ dX8_wordAt_16 ?_
      refine lv_iload_n hx hb dX8_wordAt_19 rfl (lv_at hl 1 rfl) ?_
      replace h := bd_e h
      obtain ⟨o_210, P_209, hc_211, h⟩ := h
      replace h := ck_e h
      obtain ⟨hk_212, h⟩ := h
      refine cc_q (cr_V (As := [.int a1]) (rest := []) cx (hcc_Jx4a65c_get_915e3 l D cs t0  P_203 P_209 b_208 a1 o_210 hc_211) kT0 hk_212 (cwV 1 hts (uG uw_Jx4a65c_get_915e3 ul_RX8_220 ui_Jx4a65c_get_915e3 us_RJx4a65c_Jx4a65c_get_915e3 un_RJx4a65c) rfl rfl rfl ud_Jx4a65c_get_915e3 ⟨Nat.le_of_ble_eq_true rfl, Nat.le_of_ble_eq_true rfl⟩) w rfl hl.1 rfl (Nat.le_of_ble_eq_true rfl) dX8_wordAt_20 ⟨(Nat.le_of_ble_eq_true rfl), (Nat.le_of_ble_eq_true rfl)⟩) (fun H locs w => ?_)
      replace h := nn_e h
      obtain ⟨b_213, hbb_213, h⟩ := h
      subst hbb_213
      have hl : lv_has ls 2 [(0, .ref th), (1, .int a1)] := hl
      refine W.eq (g2 := F0 m _ ls [.ref b_213]) rfl ?_
      replace h := ck_e h
      obtain ⟨hk_214, h⟩ := h
      refine cw_cast cx w kT8 hk_214 (hsub _ ucl_RX8_84) dX8_wordAt_23 ?_
      refine lv_goto (tgt := 30) hx hb dX8_wordAt_26 (by decide) ?_
      exact cw_aret cx (by first | exact Or.inl ⟨_, rfl⟩ | exact Or.inr ⟨_, rfl⟩) (v := (some b_213)) (rt_e h) w dX8_wordAt_30
def hm_X8_of_19  (P : PS) : Option (Int32 × PS) := some ((-1 : Int32), P)
def hm_X8_of (P : PS) (th : Nat) (a1 : Int32) (a2 : Int32) : Option (Int32 × PS) := bd (hm_X8_wordAt  P th a1) (fun o_202 P_201 => ck (kk P th 9) (nl o_202 (hm_X8_of_19   P_201) (fun b_205 => bd (hm_X8_within  P_201 a2 (8 : Int32)) (fun r_207 P_206 => if r_207 = (0 : Int32) then (hm_X8_of_19   P_206) else (if a2 = (0 : Int32) then (ck (kk P_206 b_205 8) (some ((pI P_206 b_205 1), P_206))) else (if a2 = (1 : Int32) then (ck (kk P_206 b_205 8) (nn (pR P_206 b_205 3) (fun b_213 => ck (kk P_206 b_213 3) (some ((pI P_206 b_213 0), P_206))))) else (if a2 = (2 : Int32) then (ck (kk P_206 b_205 8) (some ((pI P_206 b_205 4), P_206))) else (if a2 = (3 : Int32) then (ck (kk P_206 b_205 8) (nn (pR P_206 b_205 5) (fun b_219 => bd (hm_Jx4a65c_size_8abf5  P_206 b_219) (fun r_221 P_220 => ck (kk P_206 b_219 0) (some (r_221, P_220)))))) else (bd (hm_X7_partAt  P_206 b_205 (a2 - (4 : Int32))) (fun o_225 P_224 => ck (kk P_206 b_205 8) (nl o_225 (some ((-5 : Int32), P_224)) (fun b_228 => ck (kk P_224 b_228 8) (some ((pI P_224 b_228 0), P_224))))))))))))))
abbrev wu_X8_of : List Cond := .code yX8_of cX8_of 5 (some .int) :: wsL_law
theorem ud_X8_of : yX8_of.cls = RX8 ∧ yX8_of.cls ≠ "java/lang/invoke/MethodHandle" ∧ yX8_of.cls ≠ "java/lang/invoke/VarHandle" ∧ (parseMethodDescriptor yX8_of.desc).map (fun d => d.parameters.length) = some 2 := by decide +kernel
abbrev rmc_X8_of : Room := { frames := 4, cells := 0, slots := 0, locals := 85 }
set_option maxHeartbeats 4000000 in
set_option maxRecDepth 100000 in
theorem hcc_X8_of (l : Launch) (D : va_G) (cs : Nat → ClassId) (t0 : TS) (P0 T : PS) (th : Nat) (a1 : Int32) (a2 : Int32) (r0 : Int32) (h : hm_X8_of P0 th a1 a2 = some (r0, T)) : MetCI l yX8_of wu_X8_of rmc_X8_of D cs t0 [.ref th, .int a1, .int a2] P0 T r0 0 0 := by
  refine co_start (own := RX8) (ty := (some .int)) (cc := cX8_of) (maxL := 5) ⟨by decide, rfl⟩ rfl (Nat.le_of_ble_eq_true rfl) ?_
  intro p e s m args below meth c ls cx hnm hl w
  have hx := cx.1
  have hb := cx.2.1
  have hts := cx.2.2.2.1
  have hown := cx.2.2.2.2.1
  have hml := cx.2.2.2.2.2.2
  have hsub : ∀ w ∈ wsL_law, w ∈ wu_X8_of := fun _ hq => List.mem_cons_of_mem _ hq
  have hl : lv_has ls 5 [(0, .ref th), (1, .int a1), (2, .int a2)] := hl
  have J19 : ∀  (P : PS), hm_X8_of_19   P = some (r0, T) → cGo p l e rmc_X8_of s m args below meth c 5 D cs t0 (pA P0) (cQI below D cs P0 args s 0 0 r0 T) 0 0 19 [] [] P := by
    intro  P h H locs ls hl w
    unfold hm_X8_of_19 at h
    refine lv_iconst (v := (-1 : Int32)) hx hb dX8_of_19 (by decide) ?_
    exact cw_iret cx (rt_e h) w dX8_of_20
  have hP0 : P0 = P0 := rfl
  unfold hm_X8_of at h
  refine lv_aload_n hx hb dX8_of_0 rfl (lv_at hl 0 rfl) ?_
  refine lv_iload_n hx hb dX8_of_1 rfl (lv_at hl 1 rfl) ?_
  replace h := bd_e h
  obtain ⟨o_202, P_201, hc_203, h⟩ := h
  replace h := ck_e h
  obtain ⟨hk_204, h⟩ := h
  refine cc_q (cr_V (As := [.int a1]) (rest := []) cx (hcc_X8_wordAt l D cs t0  P0 P_201 th a1 o_202 hc_203) kT9 hk_204 (cwV 1 hts (uG uw_X8_wordAt ul_RX8_95 ui_X8_wordAt us_RX8_X8_wordAt un_RX8) rfl rfl rfl ud_X8_wordAt ⟨Nat.le_of_ble_eq_true rfl, Nat.le_of_ble_eq_true rfl⟩) w rfl hl.1 rfl (Nat.le_of_ble_eq_true rfl) dX8_of_2 ⟨(Nat.le_of_ble_eq_true rfl), (Nat.le_of_ble_eq_true rfl)⟩) (fun H locs w => ?_)
  refine lq_astore_n (lv' := [(3, va_rf o_202), (0, .ref th), (1, .int a1), (2, .int a2)]) hx hb dX8_of_5 rfl hl (by decide) (fun v hv => by subst hv; exact (rfl)) (fun ls hl => ?_)
  refine lq_aload_n hx hb dX8_of_6 rfl (lv_at hl 0 rfl) ?_
  cases o_202 with
  | none =>
    replace h := nl_n h
    have hl : lv_has ls 5 [(3, .null), (0, .ref th), (1, .int a1), (2, .int a2)] := hl
    refine lv_ifnullN (tgt := 19) hx hb dX8_of_7 (by decide) ?_
    exact J19   P_201 h _ _ _ (lv_sub hl [] rfl) w
  | some b_205 =>
    replace h := nl_s h
    have hl : lv_has ls 5 [(3, .ref b_205), (0, .ref th), (1, .int a1), (2, .int a2)] := hl
    refine lv_ifnull hx hb dX8_of_7 ?_
    refine lv_iload_n hx hb dX8_of_10 rfl (lv_at hl 3 rfl) ?_
    refine lv_bipush (v := (8 : Int32)) hx hb dX8_of_11 (by decide) ?_
    replace h := bd_e h
    obtain ⟨r_207, P_206, hc_208, h⟩ := h
    refine cc_i (cr_S (As := [.int a2, .int (8 : Int32)]) (rest := []) cx (hcc_X8_within l D cs t0  P_201 P_206 a2 (8 : Int32) r_207 hc_208) (va_cwS 2 hts (uGS uw_X8_within ul_RX8_72 ut_X8_within un_RX8) rfl rfl rfl ud_X8_within.2 ⟨Nat.le_of_ble_eq_true rfl, Nat.le_of_ble_eq_true rfl⟩) w rfl hl.1 rfl (Nat.le_of_ble_eq_true rfl) dX8_of_13 ⟨(Nat.le_of_ble_eq_true rfl), (Nat.le_of_ble_eq_true rfl)⟩) (fun H locs w => ?_)
    refine lv_if_ne (tgt := 21) hx hb dX8_of_16 (by decide) (fun q => ?_) (fun q => ?_)
    · replace h := br_n q h
      refine lv_iload_n hx hb dX8_of_21 rfl (lv_at hl 3 rfl) ?_
      by_cases q_209 : a2 = (0 : Int32)
      · replace h := br_p q_209 h
        refine lv_tableIn (tgt := 52) hx hb dX8_of_22 (by rw [q_209]; decide) (by rw [q_209]; decide) (by rw [q_209]; rfl) (by decide) ?_
        refine lv_aload_n hx hb dX8_of_52 rfl (lv_at hl 0 rfl) ?_
        replace h := ck_e h
        obtain ⟨hk_210, h⟩ := h
        refine cw_getI cx hsub w kT8 hk_210 1 (by decide) ⟨hsub _ uf_RX8_111, Or.inl rfl⟩ dX8_of_53 ?_
        exact cw_iret cx (rt_e h) w dX8_of_56
      replace h := br_n q_209 h
      by_cases q_211 : a2 = (1 : Int32)
      · replace h := br_p q_211 h
        refine lv_tableIn (tgt := 57) hx hb dX8_of_22 (by rw [q_211]; decide) (by rw [q_211]; decide) (by rw [q_211]; rfl) (by decide) ?_
        refine lv_aload_n hx hb dX8_of_57 rfl (lv_at hl 0 rfl) ?_
        replace h := ck_e h
        obtain ⟨hk_212, h⟩ := h
        replace h := nn_e h
        obtain ⟨b_213, hbb_213, h⟩ := h
        refine cw_getS cx hsub w kT8 hk_212 3 (by decide) hbb_213 ⟨hsub _ uf_RX8_114, Or.inl rfl⟩ dX8_of_58 ?_
        replace h := ck_e h
        obtain ⟨hk_214, h⟩ := h
        refine cw_getI cx hsub w kT3 hk_214 0 (by decide) ⟨hsub _ uf_RX8_118, Or.inl rfl⟩ dX8_of_61 ?_
        exact cw_iret cx (rt_e h) w dX8_of_64
      replace h := br_n q_211 h
      by_cases q_215 : a2 = (2 : Int32)
      · replace h := br_p q_215 h
        refine lv_tableIn (tgt := 65) hx hb dX8_of_22 (by rw [q_215]; decide) (by rw [q_215]; decide) (by rw [q_215]; rfl) (by decide) ?_
        refine lv_aload_n hx hb dX8_of_65 rfl (lv_at hl 0 rfl) ?_
        replace h := ck_e h
        obtain ⟨hk_216, h⟩ := h
        refine cw_getI cx hsub w kT8 hk_216 4 (by decide) ⟨hsub _ uf_RX8_121, Or.inl rfl⟩ dX8_of_66 ?_
        exact cw_iret cx (rt_e h) w dX8_of_69
      replace h := br_n q_215 h
      by_cases q_217 : a2 = (3 : Int32)
      · replace h := br_p q_217 h
        refine lv_tableIn (tgt := 70) hx hb dX8_of_22 (by rw [q_217]; decide) (by rw [q_217]; decide) (by rw [q_217]; rfl) (by decide) ?_
        refine lv_aload_n hx hb dX8_of_70 rfl (lv_at hl 0 rfl) ?_
        replace h := ck_e h
        obtain ⟨hk_218, h⟩ := h
        replace h := nn_e h
        obtain ⟨b_219, hbb_219, h⟩ := h
        refine cw_getS cx hsub w kT8 hk_218 5 (by decide) hbb_219 ⟨hsub _ uf_RX8_108, Or.inl rfl⟩ dX8_of_71 ?_
        replace h := bd_e h
        obtain ⟨r_221, P_220, hc_222, h⟩ := h
        replace h := ck_e h
        obtain ⟨hk_223, h⟩ := h
        refine cc_i (cr_V (As := []) (rest := []) cx (hcc_Jx4a65c_size_8abf5 l D cs t0  P_206 P_220 b_219 r_221 hc_222) kT0 hk_223 (cwV 0 hts (uG uw_Jx4a65c_size_8abf5 ul_RX8_80 ui_Jx4a65c_size_8abf5 us_RJx4a65c_Jx4a65c_size_8abf5 un_RJx4a65c) rfl rfl rfl ud_Jx4a65c_size_8abf5 ⟨Nat.le_of_ble_eq_true rfl, Nat.le_of_ble_eq_true rfl⟩) w rfl hl.1 rfl (Nat.le_of_ble_eq_true rfl) dX8_of_74 ⟨(Nat.le_of_ble_eq_true rfl), (Nat.le_of_ble_eq_true rfl)⟩) (fun H locs w => ?_)
        exact cw_iret cx (rt_e h) w dX8_of_77
      replace h := br_n q_217 h
      refine lv_tableH (tgt := 78) hx hb dX8_of_22 (by exact Or.inl (by have := lv_neT q_209 (a := 0) (by decide); have := lv_neT q_211 (a := 1) (by decide); have := lv_neT q_215 (a := 2) (by decide); have := lv_neT q_217 (a := 3) (by decide); omega)) (by decide) ?_
      refine lv_aload_n hx hb dX8_of_78 rfl (lv_at hl 0 rfl) ?_
      refine lv_iload_n hx hb dX8_of_79 rfl (lv_at hl 3 rfl) ?_
      refine lv_iconst (v := (4 : Int32)) hx hb dX8_of_80 (by decide) ?_
      refine lv_isub hx hb dX8_of_81 ?_
      replace h := bd_e h
      obtain ⟨o_225, P_224, hc_226, h⟩ := h
      replace h := ck_e h
      obtain ⟨hk_227, h⟩ := h
      refine cc_q (cr_V (As := [.int (a2 - (4 : Int32))]) (rest := []) cx (hcc_X7_partAt l D cs t0  P_206 P_224 b_205 (a2 - (4 : Int32)) o_225 hc_226) kT8 hk_227 (cwV 1 hts (uG uw_X7_partAt ul_RX8_124 ui_X7_partAt us_RX7_X7_partAt un_RX7) rfl rfl rfl ud_X7_partAt ⟨Nat.le_of_ble_eq_true rfl, Nat.le_of_ble_eq_true rfl⟩) w rfl hl.1 rfl (Nat.le_of_ble_eq_true rfl) dX8_of_82 ⟨(Nat.le_of_ble_eq_true rfl), (Nat.le_of_ble_eq_true rfl)⟩) (fun H locs w => ?_)
      refine lq_astore (lv' := [(4, va_rf o_225), (3, .ref b_205), (0, .ref th), (1, .int a1), (2, .int a2)]) hx hb dX8_of_85 hl (by decide) (fun v hv => by subst hv; exact (rfl)) (fun ls hl => ?_)
      refine lq_aload hx hb dX8_of_87 (lv_at hl 0 rfl) ?_
      cases o_225 with
      | none =>
        replace h := nl_n h
        have hl : lv_has ls 5 [(4, .null), (3, .ref b_205), (0, .ref th), (1, .int a1), (2, .int a2)] := hl
        refine lv_ifnonnullN hx hb dX8_of_89 ?_
        refine lv_bipush (v := (-5 : Int32)) hx hb dX8_of_92 (by decide) ?_
        refine lv_goto (tgt := 102) hx hb dX8_of_94 (by decide) ?_
        exact cw_iret cx (rt_e h) w dX8_of_102
      | some b_228 =>
        replace h := nl_s h
        have hl : lv_has ls 5 [(4, .ref b_228), (3, .ref b_205), (0, .ref th), (1, .int a1), (2, .int a2)] := hl
        refine lv_ifnonnull (tgt := 97) hx hb dX8_of_89 (by decide) ?_
        refine lv_aload hx hb dX8_of_97 (lv_at hl 0 rfl) ?_
        replace h := ck_e h
        obtain ⟨hk_229, h⟩ := h
        refine cw_getI cx hsub w kT8 hk_229 0 (by decide) ⟨hsub _ uf_RX8_127, Or.inl rfl⟩ dX8_of_99 ?_
        exact cw_iret cx (rt_e h) w dX8_of_102
    · replace h := br_p q h
      exact J19   P_206 h _ _ _ (lv_sub hl [] rfl) w
def hm_X8_show (P : PS) (th : Nat) (a1 : Int32) : Option (Int32 × PS) := bd (hm_X8_within  P a1 (1024 : Int32)) (fun r_102 P_101 => if r_102 = (0 : Int32) then (some ((-2 : Int32), P_101)) else (ck (kk P_101 th 9) (nn (pR P_101 th 4) (fun b_105 => ck (kk P_101 b_105 6) (lt_ ((pI P_101 b_105 0)) (fun x2_107 => nn (pR P_101 th 4) (fun b_108 => ck (kk P_101 b_108 6) (lt_ (pIu P_101 b_108 0 a1) (fun P_110 => some (x2_107, P_110))))))))))
abbrev wu_X8_show : List Cond := .code yX8_show cX8_show 3 (some .int) :: wsL_law
theorem ud_X8_show : yX8_show.cls = RX8 ∧ yX8_show.cls ≠ "java/lang/invoke/MethodHandle" ∧ yX8_show.cls ≠ "java/lang/invoke/VarHandle" ∧ (parseMethodDescriptor yX8_show.desc).map (fun d => d.parameters.length) = some 1 := by decide +kernel
abbrev rmc_X8_show : Room := { frames := 1, cells := 0, slots := 0, locals := 21 }
set_option maxHeartbeats 4000000 in
set_option maxRecDepth 100000 in
theorem hcc_X8_show (l : Launch) (D : va_G) (cs : Nat → ClassId) (t0 : TS) (P0 T : PS) (th : Nat) (a1 : Int32) (r0 : Int32) (h : hm_X8_show P0 th a1 = some (r0, T)) : MetCI l yX8_show wu_X8_show rmc_X8_show D cs t0 [.ref th, .int a1] P0 T r0 0 0 := by
  refine co_start (own := RX8) (ty := (some .int)) (cc := cX8_show) (maxL := 3) ⟨by decide, rfl⟩ rfl (Nat.le_of_ble_eq_true rfl) ?_
  intro p e s m args below meth c ls cx hnm hl w
  have hx := cx.1
  have hb := cx.2.1
  have hts := cx.2.2.2.1
  have hown := cx.2.2.2.2.1
  have hml := cx.2.2.2.2.2.2
  have hsub : ∀ w ∈ wsL_law, w ∈ wu_X8_show := fun _ hq => List.mem_cons_of_mem _ hq
  have hl : lv_has ls 3 [(0, .ref th), (1, .int a1)] := hl
  have hP0 : P0 = P0 := rfl
  unfold hm_X8_show at h
  refine lv_iload_n hx hb dX8_show_0 rfl (lv_at hl 1 rfl) ?_
  refine lv_sipush (v := (1024 : Int32)) hx hb dX8_show_1 (by decide) ?_
  replace h := bd_e h
  obtain ⟨r_102, P_101, hc_103, h⟩ := h
  refine cc_i (cr_S (As := [.int a1, .int (1024 : Int32)]) (rest := []) cx (hcc_X8_within l D cs t0  P0 P_101 a1 (1024 : Int32) r_102 hc_103) (va_cwS 2 hts (uGS uw_X8_within ul_RX8_72 ut_X8_within un_RX8) rfl rfl rfl ud_X8_within.2 ⟨Nat.le_of_ble_eq_true rfl, Nat.le_of_ble_eq_true rfl⟩) w rfl hl.1 rfl (Nat.le_of_ble_eq_true rfl) dX8_show_4 ⟨(Nat.le_of_ble_eq_true rfl), (Nat.le_of_ble_eq_true rfl)⟩) (fun H locs w => ?_)
  refine lv_if_ne (tgt := 13) hx hb dX8_show_7 (by decide) (fun q => ?_) (fun q => ?_)
  · replace h := br_n q h
    refine lv_aload_n hx hb dX8_show_13 rfl (lv_at hl 0 rfl) ?_
    replace h := ck_e h
    obtain ⟨hk_104, h⟩ := h
    replace h := nn_e h
    obtain ⟨b_105, hbb_105, h⟩ := h
    refine cw_getS cx hsub w kT9 hk_104 4 (by decide) hbb_105 ⟨hsub _ uf_RX8_37, Or.inl rfl⟩ dX8_show_14 ?_
    replace h := ck_e h
    obtain ⟨hk_106, h⟩ := h
    refine cw_getI cx hsub w kT6 hk_106 0 (by decide) ⟨hsub _ uf_RX8_128, Or.inl rfl⟩ dX8_show_17 ?_
    replace h := lt_e h
    obtain ⟨x2_107, ex2_107, h⟩ := h
    refine top_i ex2_107 ?_
    refine lv_istore_n (lv' := [(2, .int x2_107), (0, .ref th), (1, .int a1)]) hx hb dX8_show_20 rfl hl (by decide) (rfl) (fun ls hl => ?_)
    refine lv_aload_n hx hb dX8_show_21 rfl (lv_at hl 1 rfl) ?_
    replace h := nn_e h
    obtain ⟨b_108, hbb_108, h⟩ := h
    refine cw_getS cx hsub w kT9 hk_104 4 (by decide) hbb_108 ⟨hsub _ uf_RX8_37, Or.inl rfl⟩ dX8_show_22 ?_
    refine lv_iload_n hx hb dX8_show_25 rfl (lv_at hl 2 rfl) ?_
    replace h := ck_e h
    obtain ⟨hk_109, h⟩ := h
    replace h := lt_e h
    obtain ⟨P_110, eP_110, h⟩ := h
    refine cw_putI cx hsub w kT6 hk_109 0 eP_110 ⟨by decide, by decide, rfl⟩ (Or.inl rfl) ⟨hsub _ uf_RX8_128, Or.inl rfl⟩ dX8_show_26 (fun H locs w => ?_)
    refine lv_iload_n hx hb dX8_show_29 rfl (lv_at hl 0 rfl) ?_
    exact cw_iret cx (rt_e h) w dX8_show_30
  · replace h := br_p q h
    refine lv_bipush (v := (-2 : Int32)) hx hb dX8_show_10 (by decide) ?_
    exact cw_iret cx (rt_e h) w dX8_show_12
def hm_X8_feed_32 (k32 : Nat → Int32 → Int32 → PS → Option (Int32 × PS)) (o0 : Nat) (x1 : Int32) (x3 : Int32) (P : PS) : Option (Int32 × PS) := if x3 < (0 : Int32) then (ck (kk P o0 9) (nn (pR P o0 3) (fun b_102 => ck (kk P b_102 4) (some ((pI P b_102 2), P))))) else (ck (kk P o0 9) (nn (pR P o0 3) (fun b_105 => bd (hm_X3_append  P b_105 ((x1 >>> (((8 : Int32) * x3) &&& 31))).toInt8.toInt32) (fun _ P_106 => ck (kk P b_105 4) (lt_ (x3 + (-1 : Int32)) (fun x3_110 => k32 o0 x1 x3_110 P_106))))))
def hm_X8_feed_32L : Nat → Nat → Int32 → Int32 → PS → Option (Int32 × PS)
  | 0, _, _, _, _ => none
  | n + 1, o0, x1, x3, P => hm_X8_feed_32  (hm_X8_feed_32L  n) o0 x1 x3 P
def hm_X8_feed (P : PS) (th : Nat) (a1 : Int32) (a2 : Int32) : Option (Int32 × PS) := bd (hm_X8_within  P a2 (5 : Int32)) (fun r_212 P_211 => if r_212 = (0 : Int32) then (some ((-2 : Int32), P_211)) else (ck (kk P_211 th 9) (nn (pR P_211 th 3) (fun b_215 => ck (kk P_211 b_215 4) (if ((pI P_211 b_215 2) + a2) ≤ (100 : Int32) then (lt_ ((a2 - (1 : Int32))) (fun x3_217 => hm_X8_feed_32L  4000 th a1 x3_217 P_211)) else (some ((-4 : Int32), P_211)))))))
abbrev wu_X8_feed : List Cond := .code yX8_feed cX8_feed 4 (some .int) :: wsL_law
theorem ud_X8_feed : yX8_feed.cls = RX8 ∧ yX8_feed.cls ≠ "java/lang/invoke/MethodHandle" ∧ yX8_feed.cls ≠ "java/lang/invoke/VarHandle" ∧ (parseMethodDescriptor yX8_feed.desc).map (fun d => d.parameters.length) = some 2 := by decide +kernel
abbrev rmc_X8_feed : Room := { frames := 1, cells := 0, slots := 0, locals := 21 }
set_option maxHeartbeats 4000000 in
set_option maxRecDepth 100000 in
theorem hcc_X8_feed (l : Launch) (D : va_G) (cs : Nat → ClassId) (t0 : TS) (P0 T : PS) (th : Nat) (a1 : Int32) (a2 : Int32) (r0 : Int32) (h : hm_X8_feed P0 th a1 a2 = some (r0, T)) : MetCI l yX8_feed wu_X8_feed rmc_X8_feed D cs t0 [.ref th, .int a1, .int a2] P0 T r0 0 0 := by
  refine co_start (own := RX8) (ty := (some .int)) (cc := cX8_feed) (maxL := 4) ⟨by decide, rfl⟩ rfl (Nat.le_of_ble_eq_true rfl) ?_
  intro p e s m args below meth c ls cx hnm hl w
  have hx := cx.1
  have hb := cx.2.1
  have hts := cx.2.2.2.1
  have hown := cx.2.2.2.2.1
  have hml := cx.2.2.2.2.2.2
  have hsub : ∀ w ∈ wsL_law, w ∈ wu_X8_feed := fun _ hq => List.mem_cons_of_mem _ hq
  have hl : lv_has ls 4 [(0, .ref th), (1, .int a1), (2, .int a2)] := hl
  have L32 : ∀ (n : Nat) (o0 : Nat) (x1 : Int32) (x3 : Int32) (P : PS), hm_X8_feed_32L  n o0 x1 x3 P = some (r0, T) → cGo p l e rmc_X8_feed s m args below meth c 4 D cs t0 (pA P0) (cQI below D cs P0 args s 0 0 r0 T) 0 0 32 [(0, .ref o0), (1, .int x1), (3, .int x3)] [] P := by
    intro n
    induction n with
    | zero =>
      intro o0 x1 x3 P h
      have h : none = some (r0, T) := h
      cases h
    | succ n hk32 =>
      intro o0 x1 x3 P h H locs ls hl w
      have h : hm_X8_feed_32  (hm_X8_feed_32L  n) o0 x1 x3 P = some (r0, T) := h
      generalize hm_X8_feed_32L  n = k32 at h hk32
      unfold hm_X8_feed_32 at h
      refine lv_iload_n hx hb dX8_feed_32 rfl (lv_at hl 2 rfl) ?_
      refine lv_if_lt (tgt := 56) hx hb dX8_feed_33 (by decide) (fun q => ?_) (fun q => ?_)
      · replace h := br_p q h
        refine lv_aload_n hx hb dX8_feed_56 rfl (lv_at hl 0 rfl) ?_
        replace h := ck_e h
        obtain ⟨hk_101, h⟩ := h
        replace h := nn_e h
        obtain ⟨b_102, hbb_102, h⟩ := h
        refine cw_getS cx hsub w kT9 hk_101 3 (by decide) hbb_102 ⟨hsub _ uf_RX8_30, Or.inl rfl⟩ dX8_feed_57 ?_
        replace h := ck_e h
        obtain ⟨hk_103, h⟩ := h
        refine cw_getIN cx hsub w kT4 hk_103 2 (by decide) (host := "HeardWords") (by decide +kernel) dX8_feed_60 ?_
        exact cw_iret cx (rt_e h) w dX8_feed_63
      · replace h := br_n q h
        refine lv_aload_n hx hb dX8_feed_36 rfl (lv_at hl 0 rfl) ?_
        replace h := ck_e h
        obtain ⟨hk_104, h⟩ := h
        replace h := nn_e h
        obtain ⟨b_105, hbb_105, h⟩ := h
        refine cw_getS cx hsub w kT9 hk_104 3 (by decide) hbb_105 ⟨hsub _ uf_RX8_30, Or.inl rfl⟩ dX8_feed_37 ?_
        refine lv_iload_n hx hb dX8_feed_40 rfl (lv_at hl 1 rfl) ?_
        refine lv_bipush (v := (8 : Int32)) hx hb dX8_feed_41 (by decide) ?_
        refine lv_iload_n hx hb dX8_feed_43 rfl (lv_at hl 2 rfl) ?_
        refine lv_imul hx hb dX8_feed_44 ?_
        refine lv_ishr hx hb dX8_feed_45 ?_
        refine lv_i2b hx hb dX8_feed_46 rfl ?_
        replace h := bd_e h
        obtain ⟨r_107, P_106, hc_108, h⟩ := h
        replace h := ck_e h
        obtain ⟨hk_109, h⟩ := h
        refine cc_v (cr_VN (As := [.int ((x1 >>> (((8 : Int32) * x3) &&& 31))).toInt8.toInt32]) (rest := []) cx (hcc_X3_append l D cs t0  P P_106 b_105 ((x1 >>> (((8 : Int32) * x3) &&& 31))).toInt8.toInt32 r_107 hc_108) kT4 hk_109 ⟨va_cnB (host := "HeardWords") 1 hts (uGB uw_X3_append) rfl rfl rfl (w.2.2.2.2.2.2.1.2.1 ("HeardWords", 134, yX3_append, "HeardWords") (by decide +kernel)) (hts _ (hsub _ un_RX3)) ud_X3_append.2 ⟨Nat.le_of_ble_eq_true rfl, Nat.le_of_ble_eq_true rfl⟩, hts _ (hsub _ ui_X3_append), hts _ (hsub _ us_RX3_X3_append)⟩ w rfl hl.1 rfl (Nat.le_of_ble_eq_true rfl) dX8_feed_47 ⟨(Nat.le_of_ble_eq_true rfl), (Nat.le_of_ble_eq_true rfl)⟩) (fun H locs w => ?_)
        replace h := lt_e h
        obtain ⟨x3_110, ex3_110, h⟩ := h
        refine lv_iinc (v := x3_110) (lv' := [(3, .int x3_110), (0, .ref o0), (1, .int x1)]) hx hb dX8_feed_50 hl (k := 2) rfl (by rw [ex3_110]; rfl) (by decide) (rfl) (fun ls hl => ?_)
        refine lv_goto (tgt := 32) hx hb dX8_feed_53 (by decide) ?_
        exact hk32 o0 x1 x3_110 P_106 h _ _ _ (lv_sub hl [1, 2, 0] rfl) w
  have hP0 : P0 = P0 := rfl
  unfold hm_X8_feed at h
  refine lv_iload_n hx hb dX8_feed_0 rfl (lv_at hl 2 rfl) ?_
  refine lv_iconst (v := (5 : Int32)) hx hb dX8_feed_1 (by decide) ?_
  replace h := bd_e h
  obtain ⟨r_212, P_211, hc_213, h⟩ := h
  refine cc_i (cr_S (As := [.int a2, .int (5 : Int32)]) (rest := []) cx (hcc_X8_within l D cs t0  P0 P_211 a2 (5 : Int32) r_212 hc_213) (va_cwS 2 hts (uGS uw_X8_within ul_RX8_72 ut_X8_within un_RX8) rfl rfl rfl ud_X8_within.2 ⟨Nat.le_of_ble_eq_true rfl, Nat.le_of_ble_eq_true rfl⟩) w rfl hl.1 rfl (Nat.le_of_ble_eq_true rfl) dX8_feed_2 ⟨(Nat.le_of_ble_eq_true rfl), (Nat.le_of_ble_eq_true rfl)⟩) (fun H locs w => ?_)
  refine lv_if_ne (tgt := 11) hx hb dX8_feed_5 (by decide) (fun q => ?_) (fun q => ?_)
  · replace h := br_n q h
    refine lv_aload_n hx hb dX8_feed_11 rfl (lv_at hl 0 rfl) ?_
    replace h := ck_e h
    obtain ⟨hk_214, h⟩ := h
    replace h := nn_e h
    obtain ⟨b_215, hbb_215, h⟩ := h
    refine cw_getS cx hsub w kT9 hk_214 3 (by decide) hbb_215 ⟨hsub _ uf_RX8_30, Or.inl rfl⟩ dX8_feed_12 ?_
    replace h := ck_e h
    obtain ⟨hk_216, h⟩ := h
    refine cw_getIN cx hsub w kT4 hk_216 2 (by decide) (host := "HeardWords") (by decide +kernel) dX8_feed_15 ?_
    refine lv_iload_n hx hb dX8_feed_18 rfl (lv_at hl 2 rfl) ?_
    refine lv_iadd hx hb dX8_feed_19 ?_
    refine lv_bipush (v := (100 : Int32)) hx hb dX8_feed_20 (by decide) ?_
    refine lv_icmp_le (tgt := 28) hx hb dX8_feed_22 (by decide) (fun q => ?_) (fun q => ?_)
    · replace h := br_p q h
      refine lv_iload_n hx hb dX8_feed_28 rfl (lv_at hl 2 rfl) ?_
      refine lv_iconst (v := (1 : Int32)) hx hb dX8_feed_29 (by decide) ?_
      refine lv_isub hx hb dX8_feed_30 ?_
      replace h := lt_e h
      obtain ⟨x3_217, ex3_217, h⟩ := h
      refine top_i ex3_217 ?_
      refine lv_istore_n (lv' := [(3, .int x3_217), (0, .ref th), (1, .int a1), (2, .int a2)]) hx hb dX8_feed_31 rfl hl (by decide) (rfl) (fun ls hl => ?_)
      exact L32  4000 th a1 x3_217 P_211 h _ _ _ (lv_sub hl [1, 2, 0] rfl) w
    · replace h := br_n q h
      refine lv_bipush (v := (-4 : Int32)) hx hb dX8_feed_25 (by decide) ?_
      exact cw_iret cx (rt_e h) w dX8_feed_27
  · replace h := br_p q h
    refine lv_bipush (v := (-2 : Int32)) hx hb dX8_feed_8 (by decide) ?_
    exact cw_iret cx (rt_e h) w dX8_feed_10
def hm_X8_judge (P : PS) (th : Nat) (a1 : Int32) : Option (Int32 × PS) := ck (kk P th 9) (nn (pR P th 2) (fun b_102 => bd (hm_Jx4a65c_size_8abf5  P b_102) (fun r_104 P_103 => ck (kk P b_102 0) (bd (hm_X8_within  P_103 a1 ((1 : Int32) <<< (r_104 &&& 31))) (fun r_108 P_107 => if r_108 = (0 : Int32) then (some ((-2 : Int32), P_107)) else (ck (kk P_107 th 9) (nn (pR P_107 th 4) (fun b_111 => ck (kk P_107 b_111 6) (lt_ ((pI P_107 b_111 1)) (fun x2_113 => nn (pR P_107 th 4) (fun b_114 => ck (kk P_107 b_114 6) (lt_ (pIu P_107 b_114 1 a1) (fun P_116 => some (x2_113, P_116))))))))))))))
abbrev wu_X8_judge : List Cond := .code yX8_judge cX8_judge 3 (some .int) :: wsL_law
theorem ud_X8_judge : yX8_judge.cls = RX8 ∧ yX8_judge.cls ≠ "java/lang/invoke/MethodHandle" ∧ yX8_judge.cls ≠ "java/lang/invoke/VarHandle" ∧ (parseMethodDescriptor yX8_judge.desc).map (fun d => d.parameters.length) = some 1 := by decide +kernel
abbrev rmc_X8_judge : Room := { frames := 1, cells := 0, slots := 0, locals := 21 }
set_option maxHeartbeats 4000000 in
set_option maxRecDepth 100000 in
theorem hcc_X8_judge (l : Launch) (D : va_G) (cs : Nat → ClassId) (t0 : TS) (P0 T : PS) (th : Nat) (a1 : Int32) (r0 : Int32) (h : hm_X8_judge P0 th a1 = some (r0, T)) : MetCI l yX8_judge wu_X8_judge rmc_X8_judge D cs t0 [.ref th, .int a1] P0 T r0 0 0 := by
  refine co_start (own := RX8) (ty := (some .int)) (cc := cX8_judge) (maxL := 3) ⟨by decide, rfl⟩ rfl (Nat.le_of_ble_eq_true rfl) ?_
  intro p e s m args below meth c ls cx hnm hl w
  have hx := cx.1
  have hb := cx.2.1
  have hts := cx.2.2.2.1
  have hown := cx.2.2.2.2.1
  have hml := cx.2.2.2.2.2.2
  have hsub : ∀ w ∈ wsL_law, w ∈ wu_X8_judge := fun _ hq => List.mem_cons_of_mem _ hq
  have hl : lv_has ls 3 [(0, .ref th), (1, .int a1)] := hl
  have hP0 : P0 = P0 := rfl
  unfold hm_X8_judge at h
  refine lv_iload_n hx hb dX8_judge_0 rfl (lv_at hl 1 rfl) ?_
  refine lv_iconst (v := (1 : Int32)) hx hb dX8_judge_1 (by decide) ?_
  refine lv_aload_n hx hb dX8_judge_2 rfl (lv_at hl 0 rfl) ?_
  replace h := ck_e h
  obtain ⟨hk_101, h⟩ := h
  replace h := nn_e h
  obtain ⟨b_102, hbb_102, h⟩ := h
  refine cw_getS cx hsub w kT9 hk_101 2 (by decide) hbb_102 ⟨hsub _ uf_RX8_24, Or.inl rfl⟩ dX8_judge_3 ?_
  replace h := bd_e h
  obtain ⟨r_104, P_103, hc_105, h⟩ := h
  replace h := ck_e h
  obtain ⟨hk_106, h⟩ := h
  refine cc_i (cr_V (As := []) (rest := [.int (1 : Int32), .int a1]) cx (hcc_Jx4a65c_size_8abf5 l D cs t0  P0 P_103 b_102 r_104 hc_105) kT0 hk_106 (cwV 0 hts (uG uw_Jx4a65c_size_8abf5 ul_RX8_80 ui_Jx4a65c_size_8abf5 us_RJx4a65c_Jx4a65c_size_8abf5 un_RJx4a65c) rfl rfl rfl ud_Jx4a65c_size_8abf5 ⟨Nat.le_of_ble_eq_true rfl, Nat.le_of_ble_eq_true rfl⟩) w rfl hl.1 rfl (Nat.le_of_ble_eq_true rfl) dX8_judge_6 ⟨(Nat.le_of_ble_eq_true rfl), (Nat.le_of_ble_eq_true rfl)⟩) (fun H locs w => ?_)
  refine lv_ishl hx hb dX8_judge_9 ?_
  replace h := bd_e h
  obtain ⟨r_108, P_107, hc_109, h⟩ := h
  refine cc_i (cr_S (As := [.int a1, .int ((1 : Int32) <<< (r_104 &&& 31))]) (rest := []) cx (hcc_X8_within l D cs t0  P_103 P_107 a1 ((1 : Int32) <<< (r_104 &&& 31)) r_108 hc_109) (va_cwS 2 hts (uGS uw_X8_within ul_RX8_72 ut_X8_within un_RX8) rfl rfl rfl ud_X8_within.2 ⟨Nat.le_of_ble_eq_true rfl, Nat.le_of_ble_eq_true rfl⟩) w rfl hl.1 rfl (Nat.le_of_ble_eq_true rfl) dX8_judge_10 ⟨(Nat.le_of_ble_eq_true rfl), (Nat.le_of_ble_eq_true rfl)⟩) (fun H locs w => ?_)
  refine lv_if_ne (tgt := 19) hx hb dX8_judge_13 (by decide) (fun q => ?_) (fun q => ?_)
  · replace h := br_n q h
    refine lv_aload_n hx hb dX8_judge_19 rfl (lv_at hl 0 rfl) ?_
    replace h := ck_e h
    obtain ⟨hk_110, h⟩ := h
    replace h := nn_e h
    obtain ⟨b_111, hbb_111, h⟩ := h
    refine cw_getS cx hsub w kT9 hk_110 4 (by decide) hbb_111 ⟨hsub _ uf_RX8_37, Or.inl rfl⟩ dX8_judge_20 ?_
    replace h := ck_e h
    obtain ⟨hk_112, h⟩ := h
    refine cw_getI cx hsub w kT6 hk_112 1 (by decide) ⟨hsub _ uf_RX8_145, Or.inl rfl⟩ dX8_judge_23 ?_
    replace h := lt_e h
    obtain ⟨x2_113, ex2_113, h⟩ := h
    refine top_i ex2_113 ?_
    refine lv_istore_n (lv' := [(2, .int x2_113), (0, .ref th), (1, .int a1)]) hx hb dX8_judge_26 rfl hl (by decide) (rfl) (fun ls hl => ?_)
    refine lv_aload_n hx hb dX8_judge_27 rfl (lv_at hl 1 rfl) ?_
    replace h := nn_e h
    obtain ⟨b_114, hbb_114, h⟩ := h
    refine cw_getS cx hsub w kT9 hk_110 4 (by decide) hbb_114 ⟨hsub _ uf_RX8_37, Or.inl rfl⟩ dX8_judge_28 ?_
    refine lv_iload_n hx hb dX8_judge_31 rfl (lv_at hl 2 rfl) ?_
    replace h := ck_e h
    obtain ⟨hk_115, h⟩ := h
    replace h := lt_e h
    obtain ⟨P_116, eP_116, h⟩ := h
    refine cw_putI cx hsub w kT6 hk_115 1 eP_116 ⟨by decide, by decide, rfl⟩ (Or.inl rfl) ⟨hsub _ uf_RX8_145, Or.inl rfl⟩ dX8_judge_32 (fun H locs w => ?_)
    refine lv_iload_n hx hb dX8_judge_35 rfl (lv_at hl 0 rfl) ?_
    exact cw_iret cx (rt_e h) w dX8_judge_36
  · replace h := br_p q h
    refine lv_bipush (v := (-2 : Int32)) hx hb dX8_judge_16 (by decide) ?_
    exact cw_iret cx (rt_e h) w dX8_judge_18
def hm_X8_ruleAt_29  (P : PS) : Option (Option Nat × PS) := some (none, P)
def hm_X8_ruleAt (P : PS) (th : Nat) (a1 : Int32) : Option (Option Nat × PS) := if a1 < (0 : Int32) then (hm_X8_ruleAt_29   P) else (ck (kk P th 9) (nn (pR P th 2) (fun b_202 => bd (hm_Jx4a65c_size_8abf5  P b_202) (fun r_204 P_203 => ck (kk P b_202 0) (if r_204 ≤ a1 then (hm_X8_ruleAt_29   P_203) else (ck (kk P_203 th 9) (nn (pR P_203 th 2) (fun b_208 => bd (hm_Jx4a65c_get_915e3  P_203 b_208 a1) (fun o_210 P_209 => ck (kk P_203 b_208 0) (nn o_210 (fun b_213 => ck (kk P_209 b_213 5) (some ((some b_213), P_209)))))))))))))
abbrev wu_X8_ruleAt : List Cond := .code yX8_ruleAt cX8_ruleAt 2 (some (.object "HeardWords$Rule")) :: wsL_law
theorem ud_X8_ruleAt : yX8_ruleAt.cls = RX8 ∧ yX8_ruleAt.cls ≠ "java/lang/invoke/MethodHandle" ∧ yX8_ruleAt.cls ≠ "java/lang/invoke/VarHandle" ∧ (parseMethodDescriptor yX8_ruleAt.desc).map (fun d => d.parameters.length) = some 1 := by decide +kernel
abbrev rmc_X8_ruleAt : Room := { frames := 3, cells := 0, slots := 0, locals := 64 }
set_option maxHeartbeats 4000000 in
set_option maxRecDepth 100000 in
theorem hcc_X8_ruleAt (l : Launch) (D : va_G) (cs : Nat → ClassId) (t0 : TS) (P0 T : PS) (th : Nat) (a1 : Int32) (r0 : Option Nat) (h : hm_X8_ruleAt P0 th a1 = some (r0, T)) : MetCQ l yX8_ruleAt wu_X8_ruleAt rmc_X8_ruleAt D cs t0 [.ref th, .int a1] P0 T r0 0 0 := by
  refine co_start (own := RX8) (ty := (some (.object "HeardWords$Rule"))) (cc := cX8_ruleAt) (maxL := 2) ⟨by decide, rfl⟩ rfl (Nat.le_of_ble_eq_true rfl) ?_
  intro p e s m args below meth c ls cx hnm hl w
  have hx := cx.1
  have hb := cx.2.1
  have hts := cx.2.2.2.1
  have hown := cx.2.2.2.2.1
  have hml := cx.2.2.2.2.2.2
  have hsub : ∀ w ∈ wsL_law, w ∈ wu_X8_ruleAt := fun _ hq => List.mem_cons_of_mem _ hq
  have hl : lv_has ls 2 [(0, .ref th), (1, .int a1)] := hl
  have J29 : ∀  (P : PS), hm_X8_ruleAt_29   P = some (r0, T) → cGo p l e rmc_X8_ruleAt s m args below meth c 2 D cs t0 (pA P0) (cQQ below D cs P0 args s 0 0 r0 T) 0 0 29 [] [] P := by
    intro  P h H locs ls hl w
    unfold hm_X8_ruleAt_29 at h
    refine lv_null hx hb dX8_ruleAt_29 ?_
    exact cw_aret cx (by first | exact Or.inl ⟨_, rfl⟩ | exact Or.inr ⟨_, rfl⟩) (v := none) (rt_e h) w dX8_ruleAt_30
  have hP0 : P0 = P0 := rfl
  unfold hm_X8_ruleAt at h
  refine lv_iload_n hx hb dX8_ruleAt_0 rfl (lv_at hl 1 rfl) ?_
  refine lv_if_lt (tgt := 29) hx hb dX8_ruleAt_1 (by decide) (fun q => ?_) (fun q => ?_)
  · replace h := br_p q h
    exact J29   P0 h _ _ _ (lv_sub hl [] rfl) w
  · replace h := br_n q h
    refine lv_iload_n hx hb dX8_ruleAt_4 rfl (lv_at hl 1 rfl) ?_
    refine lv_aload_n hx hb dX8_ruleAt_5 rfl (lv_at hl 0 rfl) ?_
    replace h := ck_e h
    obtain ⟨hk_201, h⟩ := h
    replace h := nn_e h
    obtain ⟨b_202, hbb_202, h⟩ := h
    refine cw_getS cx hsub w kT9 hk_201 2 (by decide) hbb_202 ⟨hsub _ uf_RX8_24, Or.inl rfl⟩ dX8_ruleAt_6 ?_
    replace h := bd_e h
    obtain ⟨r_204, P_203, hc_205, h⟩ := h
    replace h := ck_e h
    obtain ⟨hk_206, h⟩ := h
    refine cc_i (cr_V (As := []) (rest := [.int a1]) cx (hcc_Jx4a65c_size_8abf5 l D cs t0  P0 P_203 b_202 r_204 hc_205) kT0 hk_206 (cwV 0 hts (uG uw_Jx4a65c_size_8abf5 ul_RX8_80 ui_Jx4a65c_size_8abf5 us_RJx4a65c_Jx4a65c_size_8abf5 un_RJx4a65c) rfl rfl rfl ud_Jx4a65c_size_8abf5 ⟨Nat.le_of_ble_eq_true rfl, Nat.le_of_ble_eq_true rfl⟩) w rfl hl.1 rfl (Nat.le_of_ble_eq_true rfl) dX8_ruleAt_9 ⟨(Nat.le_of_ble_eq_true rfl), (Nat.le_of_ble_eq_true rfl)⟩) (fun H locs w => ?_)
    refine lv_icmp_ge (tgt := 29) hx hb dX8_ruleAt_12 (by decide) (fun q => ?_) (fun q => ?_)
    · replace h := br_p q h
      exact J29   P_203 h _ _ _ (lv_sub hl [] rfl) w
    · replace h := br_n q h
      refine lv_aload_n hx hb dX8_ruleAt_15 rfl (lv_at hl 0 rfl) ?_
      replace h := ck_e h
      obtain ⟨hk_207, h⟩ := h
      replace h := nn_e h
      obtain ⟨b_208, hbb_208, h⟩ := h
      refine cw_getS cx hsub w kT9 hk_207 2 (by decide) hbb_208 ⟨hsub _ uf_RX8_24, Or.inl rfl⟩ dX8_ruleAt_16 ?_
      refine lv_iload_n hx hb dX8_ruleAt_19 rfl (lv_at hl 1 rfl) ?_
      replace h := bd_e h
      obtain ⟨o_210, P_209, hc_211, h⟩ := h
      replace h := ck_e h
      obtain ⟨hk_212, h⟩ := h
      refine cc_q (cr_V (As := [.int a1]) (rest := []) cx (hcc_Jx4a65c_get_915e3 l D cs t0  P_203 P_209 b_208 a1 o_210 hc_211) kT0 hk_212 (cwV 1 hts (uG uw_Jx4a65c_get_915e3 ul_RX8_220 ui_Jx4a65c_get_915e3 us_RJx4a65c_Jx4a65c_get_915e3 un_RJx4a65c) rfl rfl rfl ud_Jx4a65c_get_915e3 ⟨Nat.le_of_ble_eq_true rfl, Nat.le_of_ble_eq_true rfl⟩) w rfl hl.1 rfl (Nat.le_of_ble_eq_true rfl) dX8_ruleAt_20 ⟨(Nat.le_of_ble_eq_true rfl), (Nat.le_of_ble_eq_true rfl)⟩) (fun H locs w => ?_)
      replace h := nn_e h
      obtain ⟨b_213, hbb_213, h⟩ := h
      subst hbb_213
      have hl : lv_has ls 2 [(0, .ref th), (1, .int a1)] := hl
      refine W.eq (g2 := F0 m _ ls [.ref b_213]) rfl ?_
      replace h := ck_e h
      obtain ⟨hk_214, h⟩ := h
      refine cw_cast cx w kT5 hk_214 (hsub _ ucl_RX8_153) dX8_ruleAt_23 ?_
      refine lv_goto (tgt := 30) hx hb dX8_ruleAt_26 (by decide) ?_
      exact cw_aret cx (by first | exact Or.inl ⟨_, rfl⟩ | exact Or.inr ⟨_, rfl⟩) (v := (some b_213)) (rt_e h) w dX8_ruleAt_30
def hm_X8_meets_41  (P : PS) : Option (Int32 × PS) := some ((-1 : Int32), P)
def hm_X8_meets (P : PS) (th : Nat) (a1 : Int32) (a2 : Int32) (a3 : Int32) (a4 : Int32) : Option (Int32 × PS) := bd (hm_X8_ruleAt  P th a1) (fun o_202 P_201 => ck (kk P th 9) (bd (hm_X8_wordAt  P_201 th a2) (fun o_206 P_205 => ck (kk P_201 th 9) (nl o_202 (hm_X8_meets_41   P_205) (fun b_209 => nl o_206 (hm_X8_meets_41   P_205) (fun b_210 => bd (hm_X8_within  P_205 a3 (4 : Int32)) (fun r_212 P_211 => if r_212 = (0 : Int32) then (hm_X8_meets_41   P_211) else (bd (hm_X8_within  P_211 a4 (3 : Int32)) (fun r_215 P_214 => if r_215 = (0 : Int32) then (hm_X8_meets_41   P_214) else (ck (kk P_214 th 9) (nn (pR P_214 th 4) (fun b_218 => bd (hm_X4_holding  P_214 b_209 b_210 a3 b_218) (fun r_220 P_219 => ck (kk P_214 b_209 5) (if a4 = (0 : Int32) then (if r_220 = (0 : Int32) then (some ((0 : Int32), P_219)) else (some ((1 : Int32), P_219))) else (if a4 = (1 : Int32) then (ck (kk P_219 th 9) (nn (pR P_219 th 4) (fun b_228 => bd (hm_X4_keepsOut  P_219 b_209 r_220 b_228) (fun r_230 P_229 => ck (kk P_219 b_209 5) (if r_230 = (0 : Int32) then (some ((0 : Int32), P_229)) else (some ((1 : Int32), P_229))))))) else (bd (hm_X4_clauseOfWay  P_219 b_209 r_220) (fun r_224 P_223 => ck (kk P_219 b_209 5) (if (0 : Int32) ≤ r_224 then (some (r_224, P_223)) else (some ((-5 : Int32), P_223))))))))))))))))))))
abbrev wu_X8_meets : List Cond := .code yX8_meets cX8_meets 9 (some .int) :: wsL_law
theorem ud_X8_meets : yX8_meets.cls = RX8 ∧ yX8_meets.cls ≠ "java/lang/invoke/MethodHandle" ∧ yX8_meets.cls ≠ "java/lang/invoke/VarHandle" ∧ (parseMethodDescriptor yX8_meets.desc).map (fun d => d.parameters.length) = some 4 := by decide +kernel
abbrev rmc_X8_meets : Room := { frames := 5, cells := 0, slots := 0, locals := 110 }
set_option maxHeartbeats 4000000 in
set_option maxRecDepth 100000 in
theorem hcc_X8_meets (l : Launch) (D : va_G) (cs : Nat → ClassId) (t0 : TS) (P0 T : PS) (th : Nat) (a1 : Int32) (a2 : Int32) (a3 : Int32) (a4 : Int32) (r0 : Int32) (h : hm_X8_meets P0 th a1 a2 a3 a4 = some (r0, T)) : MetCI l yX8_meets wu_X8_meets rmc_X8_meets D cs t0 [.ref th, .int a1, .int a2, .int a3, .int a4] P0 T r0 0 0 := by
  refine co_start (own := RX8) (ty := (some .int)) (cc := cX8_meets) (maxL := 9) ⟨by decide, rfl⟩ rfl (Nat.le_of_ble_eq_true rfl) ?_
  intro p e s m args below meth c ls cx hnm hl w
  have hx := cx.1
  have hb := cx.2.1
  have hts := cx.2.2.2.1
  have hown := cx.2.2.2.2.1
  have hml := cx.2.2.2.2.2.2
  have hsub : ∀ w ∈ wsL_law, w ∈ wu_X8_meets := fun _ hq => List.mem_cons_of_mem _ hq
  have hl : lv_has ls 9 [(0, .ref th), (1, .int a1), (2, .int a2), (3, .int a3), (4, .int a4)] := hl
  have J41 : ∀  (P : PS), hm_X8_meets_41   P = some (r0, T) → cGo p l e rmc_X8_meets s m args below meth c 9 D cs t0 (pA P0) (cQI below D cs P0 args s 0 0 r0 T) 0 0 41 [] [] P := by
    intro  P h H locs ls hl w
    unfold hm_X8_meets_41 at h
    refine lv_iconst (v := (-1 : Int32)) hx hb dX8_meets_41 (by decide) ?_
    exact cw_iret cx (rt_e h) w dX8_meets_42
  have hP0 : P0 = P0 := rfl
  unfold hm_X8_meets at h
  refine lv_aload_n hx hb dX8_meets_0 rfl (lv_at hl 0 rfl) ?_
  refine lv_iload_n hx hb dX8_meets_1 rfl (lv_at hl 1 rfl) ?_
  replace h := bd_e h
  obtain ⟨o_202, P_201, hc_203, h⟩ := h
  replace h := ck_e h
  obtain ⟨hk_204, h⟩ := h
  refine cc_q (cr_V (As := [.int a1]) (rest := []) cx (hcc_X8_ruleAt l D cs t0  P0 P_201 th a1 o_202 hc_203) kT9 hk_204 (cwV 1 hts (uG uw_X8_ruleAt ul_RX8_148 ui_X8_ruleAt us_RX8_X8_ruleAt un_RX8) rfl rfl rfl ud_X8_ruleAt ⟨Nat.le_of_ble_eq_true rfl, Nat.le_of_ble_eq_true rfl⟩) w rfl hl.1 rfl (Nat.le_of_ble_eq_true rfl) dX8_meets_2 ⟨(Nat.le_of_ble_eq_true rfl), (Nat.le_of_ble_eq_true rfl)⟩) (fun H locs w => ?_)
  refine lq_astore (lv' := [(5, va_rf o_202), (0, .ref th), (1, .int a1), (2, .int a2), (3, .int a3), (4, .int a4)]) hx hb dX8_meets_5 hl (by decide) (fun v hv => by subst hv; exact (rfl)) (fun ls hl => ?_)
  refine lv_aload_n hx hb dX8_meets_7 rfl (lv_at hl 1 rfl) ?_
  refine lv_iload_n hx hb dX8_meets_8 rfl (lv_at hl 3 rfl) ?_
  replace h := bd_e h
  obtain ⟨o_206, P_205, hc_207, h⟩ := h
  replace h := ck_e h
  obtain ⟨hk_208, h⟩ := h
  refine cc_q (cr_V (As := [.int a2]) (rest := []) cx (hcc_X8_wordAt l D cs t0  P_201 P_205 th a2 o_206 hc_207) kT9 hk_208 (cwV 1 hts (uG uw_X8_wordAt ul_RX8_95 ui_X8_wordAt us_RX8_X8_wordAt un_RX8) rfl rfl rfl ud_X8_wordAt ⟨Nat.le_of_ble_eq_true rfl, Nat.le_of_ble_eq_true rfl⟩) w rfl hl.1 rfl (Nat.le_of_ble_eq_true rfl) dX8_meets_9 ⟨(Nat.le_of_ble_eq_true rfl), (Nat.le_of_ble_eq_true rfl)⟩) (fun H locs w => ?_)
  refine lq_astore (lv' := [(6, va_rf o_206), (5, va_rf o_202), (0, .ref th), (1, .int a1), (2, .int a2), (3, .int a3), (4, .int a4)]) hx hb dX8_meets_12 hl (by decide) (fun v hv => by subst hv; exact (by simp [List.filter, va_rf_cat])) (fun ls hl => ?_)
  refine lq_aload hx hb dX8_meets_14 (lv_at hl 1 rfl) ?_
  cases o_202 with
  | none =>
    replace h := nl_n h
    have hl : lv_has ls 9 [(6, va_rf o_206), (5, .null), (0, .ref th), (1, .int a1), (2, .int a2), (3, .int a3), (4, .int a4)] := hl
    refine lv_ifnullN (tgt := 41) hx hb dX8_meets_16 (by decide) ?_
    exact J41   P_205 h _ _ _ (lv_sub hl [] rfl) w
  | some b_209 =>
    replace h := nl_s h
    have hl : lv_has ls 9 [(6, va_rf o_206), (5, .ref b_209), (0, .ref th), (1, .int a1), (2, .int a2), (3, .int a3), (4, .int a4)] := hl
    refine lv_ifnull hx hb dX8_meets_16 ?_
    refine lq_aload hx hb dX8_meets_19 (lv_at hl 0 rfl) ?_
    cases o_206 with
    | none =>
      replace h := nl_n h
      have hl : lv_has ls 9 [(6, .null), (5, .ref b_209), (0, .ref th), (1, .int a1), (2, .int a2), (3, .int a3), (4, .int a4)] := hl
      refine lv_ifnullN (tgt := 41) hx hb dX8_meets_21 (by decide) ?_
      exact J41   P_205 h _ _ _ (lv_sub hl [] rfl) w
    | some b_210 =>
      replace h := nl_s h
      have hl : lv_has ls 9 [(6, .ref b_210), (5, .ref b_209), (0, .ref th), (1, .int a1), (2, .int a2), (3, .int a3), (4, .int a4)] := hl
      refine lv_ifnull hx hb dX8_meets_21 ?_
      refine lv_iload_n hx hb dX8_meets_24 rfl (lv_at hl 5 rfl) ?_
      refine lv_iconst (v := (4 : Int32)) hx hb dX8_meets_25 (by decide) ?_
      replace h := bd_e h
      obtain ⟨r_212, P_211, hc_213, h⟩ := h
      refine cc_i (cr_S (As := [.int a3, .int (4 : Int32)]) (rest := []) cx (hcc_X8_within l D cs t0  P_205 P_211 a3 (4 : Int32) r_212 hc_213) (va_cwS 2 hts (uGS uw_X8_within ul_RX8_72 ut_X8_within un_RX8) rfl rfl rfl ud_X8_within.2 ⟨Nat.le_of_ble_eq_true rfl, Nat.le_of_ble_eq_true rfl⟩) w rfl hl.1 rfl (Nat.le_of_ble_eq_true rfl) dX8_meets_26 ⟨(Nat.le_of_ble_eq_true rfl), (Nat.le_of_ble_eq_true rfl)⟩) (fun H locs w => ?_)
      refine lv_if_eq (tgt := 41) hx hb dX8_meets_29 (by decide) (fun q => ?_) (fun q => ?_)
      · replace h := br_p q h
        exact J41   P_211 h _ _ _ (lv_sub hl [] rfl) w
      · replace h := br_n q h
        refine lv_iload hx hb dX8_meets_32 (lv_at hl 6 rfl) ?_
        refine lv_iconst (v := (3 : Int32)) hx hb dX8_meets_34 (by decide) ?_
        replace h := bd_e h
        obtain ⟨r_215, P_214, hc_216, h⟩ := h
        refine cc_i (cr_S (As := [.int a4, .int (3 : Int32)]) (rest := []) cx (hcc_X8_within l D cs t0  P_211 P_214 a4 (3 : Int32) r_215 hc_216) (va_cwS 2 hts (uGS uw_X8_within ul_RX8_72 ut_X8_within un_RX8) rfl rfl rfl ud_X8_within.2 ⟨Nat.le_of_ble_eq_true rfl, Nat.le_of_ble_eq_true rfl⟩) w rfl hl.1 rfl (Nat.le_of_ble_eq_true rfl) dX8_meets_35 ⟨(Nat.le_of_ble_eq_true rfl), (Nat.le_of_ble_eq_true rfl)⟩) (fun H locs w => ?_)
        refine lv_if_ne (tgt := 43) hx hb dX8_meets_38 (by decide) (fun q => ?_) (fun q => ?_)
        · replace h := br_n q h
          refine lv_aload hx hb dX8_meets_43 (lv_at hl 1 rfl) ?_
          refine lv_aload hx hb dX8_meets_45 (lv_at hl 0 rfl) ?_
          refine lv_iload_n hx hb dX8_meets_47 rfl (lv_at hl 5 rfl) ?_
          refine lv_aload_n hx hb dX8_meets_48 rfl (lv_at hl 2 rfl) ?_
          replace h := ck_e h
          obtain ⟨hk_217, h⟩ := h
          replace h := nn_e h
          obtain ⟨b_218, hbb_218, h⟩ := h
          refine cw_getS cx hsub w kT9 hk_217 4 (by decide) hbb_218 ⟨hsub _ uf_RX8_37, Or.inl rfl⟩ dX8_meets_49 ?_
          replace h := bd_e h
          obtain ⟨r_220, P_219, hc_221, h⟩ := h
          replace h := ck_e h
          obtain ⟨hk_222, h⟩ := h
          refine cc_i (cr_V (As := [.ref b_210, .int a3, .ref b_218]) (rest := []) cx (hcc_X4_holding l D cs t0  P_214 P_219 b_209 b_210 a3 b_218 r_220 hc_221) kT5 hk_222 (cwV 3 hts (uG uw_X4_holding ul_RX8_152 ui_X4_holding us_RX4_X4_holding un_RX4) rfl rfl rfl ud_X4_holding ⟨Nat.le_of_ble_eq_true rfl, Nat.le_of_ble_eq_true rfl⟩) w rfl hl.1 rfl (Nat.le_of_ble_eq_true rfl) dX8_meets_52 ⟨(Nat.le_of_ble_eq_true rfl), (Nat.le_of_ble_eq_true rfl)⟩) (fun H locs w => ?_)
          refine lv_istore (lv' := [(7, .int r_220), (6, .ref b_210), (5, .ref b_209), (0, .ref th), (1, .int a1), (2, .int a2), (3, .int a3), (4, .int a4)]) hx hb dX8_meets_55 hl (by decide) (rfl) (fun ls hl => ?_)
          refine lv_iload hx hb dX8_meets_57 (lv_at hl 7 rfl) ?_
          refine lv_if_ne (tgt := 73) hx hb dX8_meets_59 (by decide) (fun q => ?_) (fun q => ?_)
          · replace h := br_n q h
            refine lv_iload hx hb dX8_meets_73 (lv_at hl 7 rfl) ?_
            refine lv_iconst (v := (1 : Int32)) hx hb dX8_meets_75 (by decide) ?_
            refine lv_icmp_ne (tgt := 99) hx hb dX8_meets_76 (by decide) (fun q => ?_) (fun q => ?_)
            · replace h := br_n q h
              refine lv_aload hx hb dX8_meets_99 (lv_at hl 2 rfl) ?_
              refine lv_iload hx hb dX8_meets_101 (lv_at hl 0 rfl) ?_
              replace h := bd_e h
              obtain ⟨r_224, P_223, hc_225, h⟩ := h
              replace h := ck_e h
              obtain ⟨hk_226, h⟩ := h
              refine cc_i (cr_V (As := [.int r_220]) (rest := []) cx (hcc_X4_clauseOfWay l D cs t0  P_219 P_223 b_209 r_220 r_224 hc_225) kT5 hk_226 (cwV 1 hts (uG uw_X4_clauseOfWay ul_RX8_162 ui_X4_clauseOfWay us_RX4_X4_clauseOfWay un_RX4) rfl rfl rfl ud_X4_clauseOfWay ⟨Nat.le_of_ble_eq_true rfl, Nat.le_of_ble_eq_true rfl⟩) w rfl hl.1 rfl (Nat.le_of_ble_eq_true rfl) dX8_meets_103 ⟨(Nat.le_of_ble_eq_true rfl), (Nat.le_of_ble_eq_true rfl)⟩) (fun H locs w => ?_)
              refine lv_istore (lv' := [(8, .int r_224), (7, .int r_220), (6, .ref b_210), (5, .ref b_209), (0, .ref th), (1, .int a1), (2, .int a2), (3, .int a3), (4, .int a4)]) hx hb dX8_meets_106 hl (by decide) (rfl) (fun ls hl => ?_)
              refine lv_iload hx hb dX8_meets_108 (lv_at hl 0 rfl) ?_
              refine lv_if_ge (tgt := 118) hx hb dX8_meets_110 (by decide) (fun q => ?_) (fun q => ?_)
              · replace h := br_p q h
                refine lv_iload hx hb dX8_meets_118 (lv_at hl 0 rfl) ?_
                exact cw_iret cx (rt_e h) w dX8_meets_120
              · replace h := br_n q h
                refine lv_bipush (v := (-5 : Int32)) hx hb dX8_meets_113 (by decide) ?_
                refine lv_goto (tgt := 120) hx hb dX8_meets_115 (by decide) ?_
                exact cw_iret cx (rt_e h) w dX8_meets_120
            · replace h := br_p q h
              refine lv_aload hx hb dX8_meets_79 (lv_at hl 2 rfl) ?_
              refine lv_iload hx hb dX8_meets_81 (lv_at hl 0 rfl) ?_
              refine lv_aload_n hx hb dX8_meets_83 rfl (lv_at hl 3 rfl) ?_
              replace h := ck_e h
              obtain ⟨hk_227, h⟩ := h
              replace h := nn_e h
              obtain ⟨b_228, hbb_228, h⟩ := h
              refine cw_getS cx hsub w kT9 hk_227 4 (by decide) hbb_228 ⟨hsub _ uf_RX8_37, Or.inl rfl⟩ dX8_meets_84 ?_
              replace h := bd_e h
              obtain ⟨r_230, P_229, hc_231, h⟩ := h
              replace h := ck_e h
              obtain ⟨hk_232, h⟩ := h
              refine cc_i (cr_V (As := [.int r_220, .ref b_228]) (rest := []) cx (hcc_X4_keepsOut l D cs t0  P_219 P_229 b_209 r_220 b_228 r_230 hc_231) kT5 hk_232 (cwV 2 hts (uG uw_X4_keepsOut ul_RX8_158 ui_X4_keepsOut us_RX4_X4_keepsOut un_RX4) rfl rfl rfl ud_X4_keepsOut ⟨Nat.le_of_ble_eq_true rfl, Nat.le_of_ble_eq_true rfl⟩) w rfl hl.1 rfl (Nat.le_of_ble_eq_true rfl) dX8_meets_87 ⟨(Nat.le_of_ble_eq_true rfl), (Nat.le_of_ble_eq_true rfl)⟩) (fun H locs w => ?_)
              refine lv_if_eq (tgt := 97) hx hb dX8_meets_90 (by decide) (fun q => ?_) (fun q => ?_)
              · replace h := br_p q h
                refine lv_iconst (v := (0 : Int32)) hx hb dX8_meets_97 (by decide) ?_
                exact cw_iret cx (rt_e h) w dX8_meets_98
              · replace h := br_n q h
                refine lv_iconst (v := (1 : Int32)) hx hb dX8_meets_93 (by decide) ?_
                refine lv_goto (tgt := 98) hx hb dX8_meets_94 (by decide) ?_
                exact cw_iret cx (rt_e h) w dX8_meets_98
          · replace h := br_p q h
            refine lv_iload hx hb dX8_meets_62 (lv_at hl 0 rfl) ?_
            refine lv_if_eq (tgt := 71) hx hb dX8_meets_64 (by decide) (fun q => ?_) (fun q => ?_)
            · replace h := br_p q h
              refine lv_iconst (v := (0 : Int32)) hx hb dX8_meets_71 (by decide) ?_
              exact cw_iret cx (rt_e h) w dX8_meets_72
            · replace h := br_n q h
              refine lv_iconst (v := (1 : Int32)) hx hb dX8_meets_67 (by decide) ?_
              refine lv_goto (tgt := 72) hx hb dX8_meets_68 (by decide) ?_
              exact cw_iret cx (rt_e h) w dX8_meets_72
        · replace h := br_p q h
          exact J41   P_214 h _ _ _ (lv_sub hl [] rfl) w
def hm_X8_isOffer_20  (P : PS) : Option (Int32 × PS) := some ((0 : Int32), P)
def hm_X8_isOffer (P : PS) (a1 : Int32) (a2 : Int32) : Option (Int32 × PS) := bd (hm_X8_within  P a1 (4 : Int32)) (fun r_202 P_201 => if r_202 = (0 : Int32) then (hm_X8_isOffer_20   P_201) else (bd (hm_X8_within  P_201 a2 (2 : Int32)) (fun r_205 P_204 => if r_205 = (0 : Int32) then (hm_X8_isOffer_20   P_204) else (some ((1 : Int32), P_204)))))
abbrev wu_X8_isOffer : List Cond := .code yX8_isOffer cX8_isOffer 2 (some .boolean) :: wsL_law
theorem ud_X8_isOffer : yX8_isOffer.cls = RX8 ∧ yX8_isOffer.cls ≠ "java/lang/invoke/MethodHandle" ∧ yX8_isOffer.cls ≠ "java/lang/invoke/VarHandle" ∧ (parseMethodDescriptor yX8_isOffer.desc).map (fun d => d.parameters.length) = some 2 := by decide +kernel
abbrev rmc_X8_isOffer : Room := { frames := 1, cells := 0, slots := 0, locals := 21 }
set_option maxHeartbeats 4000000 in
set_option maxRecDepth 100000 in
theorem hcc_X8_isOffer (l : Launch) (D : va_G) (cs : Nat → ClassId) (t0 : TS) (P0 T : PS) (a1 : Int32) (a2 : Int32) (r0 : Int32) (h : hm_X8_isOffer P0 a1 a2 = some (r0, T)) : MetCI l yX8_isOffer wu_X8_isOffer rmc_X8_isOffer D cs t0 [.int a1, .int a2] P0 T r0 0 0 := by
  refine co_start (own := RX8) (ty := (some .boolean)) (cc := cX8_isOffer) (maxL := 2) ⟨by decide, rfl⟩ rfl (Nat.le_of_ble_eq_true rfl) ?_
  intro p e s m args below meth c ls cx hnm hl w
  have hx := cx.1
  have hb := cx.2.1
  have hts := cx.2.2.2.1
  have hown := cx.2.2.2.2.1
  have hml := cx.2.2.2.2.2.2
  have hsub : ∀ w ∈ wsL_law, w ∈ wu_X8_isOffer := fun _ hq => List.mem_cons_of_mem _ hq
  have hl : lv_has ls 2 [(0, .int a1), (1, .int a2)] := hl
  have J20 : ∀  (P : PS), hm_X8_isOffer_20   P = some (r0, T) → cGo p l e rmc_X8_isOffer s m args below meth c 2 D cs t0 (pA P0) (cQI below D cs P0 args s 0 0 r0 T) 0 0 20 [] [] P := by
    intro  P h H locs ls hl w
    unfold hm_X8_isOffer_20 at h
    refine lv_iconst (v := (0 : Int32)) hx hb dX8_isOffer_20 (by decide) ?_
    exact cw_zret cx (Or.inl rfl) (rt_e h) w dX8_isOffer_21
  have hP0 : P0 = P0 := rfl
  unfold hm_X8_isOffer at h
  refine lv_iload_n hx hb dX8_isOffer_0 rfl (lv_at hl 0 rfl) ?_
  refine lv_iconst (v := (4 : Int32)) hx hb dX8_isOffer_1 (by decide) ?_
  replace h := bd_e h
  obtain ⟨r_202, P_201, hc_203, h⟩ := h
  refine cc_i (cr_S (As := [.int a1, .int (4 : Int32)]) (rest := []) cx (hcc_X8_within l D cs t0  P0 P_201 a1 (4 : Int32) r_202 hc_203) (va_cwS 2 hts (uGS uw_X8_within ul_RX8_72 ut_X8_within un_RX8) rfl rfl rfl ud_X8_within.2 ⟨Nat.le_of_ble_eq_true rfl, Nat.le_of_ble_eq_true rfl⟩) w rfl hl.1 rfl (Nat.le_of_ble_eq_true rfl) dX8_isOffer_2 ⟨(Nat.le_of_ble_eq_true rfl), (Nat.le_of_ble_eq_true rfl)⟩) (fun H locs w => ?_)
  refine lv_if_eq (tgt := 20) hx hb dX8_isOffer_5 (by decide) (fun q => ?_) (fun q => ?_)
  · replace h := br_p q h
    exact J20   P_201 h _ _ _ (lv_sub hl [] rfl) w
  · replace h := br_n q h
    refine lv_iload_n hx hb dX8_isOffer_8 rfl (lv_at hl 1 rfl) ?_
    refine lv_iconst (v := (2 : Int32)) hx hb dX8_isOffer_9 (by decide) ?_
    replace h := bd_e h
    obtain ⟨r_205, P_204, hc_206, h⟩ := h
    refine cc_i (cr_S (As := [.int a2, .int (2 : Int32)]) (rest := []) cx (hcc_X8_within l D cs t0  P_201 P_204 a2 (2 : Int32) r_205 hc_206) (va_cwS 2 hts (uGS uw_X8_within ul_RX8_72 ut_X8_within un_RX8) rfl rfl rfl ud_X8_within.2 ⟨Nat.le_of_ble_eq_true rfl, Nat.le_of_ble_eq_true rfl⟩) w rfl hl.1 rfl (Nat.le_of_ble_eq_true rfl) dX8_isOffer_10 ⟨(Nat.le_of_ble_eq_true rfl), (Nat.le_of_ble_eq_true rfl)⟩) (fun H locs w => ?_)
    refine lv_if_eq (tgt := 20) hx hb dX8_isOffer_13 (by decide) (fun q => ?_) (fun q => ?_)
    · replace h := br_p q h
      exact J20   P_204 h _ _ _ (lv_sub hl [] rfl) w
    · replace h := br_n q h
      refine lv_iconst (v := (1 : Int32)) hx hb dX8_isOffer_16 (by decide) ?_
      refine lv_goto (tgt := 21) hx hb dX8_isOffer_17 (by decide) ?_
      exact cw_zret cx (Or.inr rfl) (rt_e h) w dX8_isOffer_21
def hm_X8_keeper_60 (k3 : Nat → Nat → Int32 → Int32 → Nat → Int32 → PS → Option (Int32 × PS)) (o0 : Nat) (o1 : Nat) (x2 : Int32) (x3 : Int32) (o4 : Nat) (x5 : Int32) (P : PS) : Option (Int32 × PS) := lt_ (x5 + (1 : Int32)) (fun x5_101 => k3 o0 o1 x2 x3 o4 x5_101 P)
def hm_X8_keeper_3 (k3 : Nat → Nat → Int32 → Int32 → Nat → Int32 → PS → Option (Int32 × PS)) (o0 : Nat) (o1 : Nat) (x2 : Int32) (x3 : Int32) (o4 : Nat) (x5 : Int32) (P : PS) : Option (Int32 × PS) := ck (kk P o0 9) (nn (pR P o0 2) (fun b_203 => bd (hm_Jx4a65c_size_8abf5  P b_203) (fun r_205 P_204 => ck (kk P b_203 0) (if r_205 ≤ x5 then (some ((-1 : Int32), P_204)) else (ck (kk P_204 o0 9) (nn (pR P_204 o0 2) (fun b_209 => bd (hm_Jx4a65c_get_915e3  P_204 b_209 x5) (fun o_211 P_210 => ck (kk P_204 b_209 0) (nn o_211 (fun b_214 => ck (kk P_210 b_214 5) (if (pI P_210 b_214 1) = x3 then (bd (hm_X4_holding  P_210 b_214 o1 x2 o4) (fun r_217 P_216 => bd (hm_X4_keepsOut  P_216 b_214 r_217 o4) (fun r_220 P_219 => ck (kk P_216 b_214 5) (if r_220 = (0 : Int32) then (hm_X8_keeper_60 k3 o0 o1 x2 x3 o4 x5 P_219) else (some (x5, P_219)))))) else (hm_X8_keeper_60 k3 o0 o1 x2 x3 o4 x5 P_210))))))))))))
def hm_X8_keeper_3L : Nat → Nat → Nat → Int32 → Int32 → Nat → Int32 → PS → Option (Int32 × PS)
  | 0, _, _, _, _, _, _, _ => none
  | n + 1, o0, o1, x2, x3, o4, x5, P => hm_X8_keeper_3  (hm_X8_keeper_3L  n) o0 o1 x2 x3 o4 x5 P
def hm_X8_keeper (P : PS) (th : Nat) (a1 : Nat) (a2 : Int32) (a3 : Int32) (a4 : Nat) : Option (Int32 × PS) := lt_ ((0 : Int32)) (fun x5_323 => hm_X8_keeper_3L  4000 th a1 a2 a3 a4 x5_323 P)
abbrev wu_X8_keeper : List Cond := .code yX8_keeper cX8_keeper 7 (some .int) :: wsL_law
theorem ud_X8_keeper : yX8_keeper.cls = RX8 ∧ yX8_keeper.cls ≠ "java/lang/invoke/MethodHandle" ∧ yX8_keeper.cls ≠ "java/lang/invoke/VarHandle" ∧ (parseMethodDescriptor yX8_keeper.desc).map (fun d => d.parameters.length) = some 4 := by decide +kernel
abbrev rmc_X8_keeper : Room := { frames := 5, cells := 0, slots := 0, locals := 110 }
set_option maxHeartbeats 4000000 in
set_option maxRecDepth 100000 in
theorem hcc_X8_keeper (l : Launch) (D : va_G) (cs : Nat → ClassId) (t0 : TS) (P0 T : PS) (th : Nat) (a1 : Nat) (a2 : Int32) (a3 : Int32) (a4 : Nat) (r0 : Int32) (h : hm_X8_keeper P0 th a1 a2 a3 a4 = some (r0, T)) : MetCI l yX8_keeper wu_X8_keeper rmc_X8_keeper D cs t0 [.ref th, .ref a1, .int a2, .int a3, .ref a4] P0 T r0 0 0 := by
  refine co_start (own := RX8) (ty := (some .int)) (cc := cX8_keeper) (maxL := 7) ⟨by decide, rfl⟩ rfl (Nat.le_of_ble_eq_true rfl) ?_
  intro p e s m args below meth c ls cx hnm hl w
  have hx := cx.1
  have hb := cx.2.1
  have hts := cx.2.2.2.1
  have hown := cx.2.2.2.2.1
  have hml := cx.2.2.2.2.2.2
  have hsub : ∀ w ∈ wsL_law, w ∈ wu_X8_keeper := fun _ hq => List.mem_cons_of_mem _ hq
  have hl : lv_has ls 7 [(0, .ref th), (1, .ref a1), (2, .int a2), (3, .int a3), (4, .ref a4)] := hl
  have J60 : ∀ (k3 : Nat → Nat → Int32 → Int32 → Nat → Int32 → PS → Option (Int32 × PS)) (hk3 : ∀ (o0 : Nat) (o1 : Nat) (x2 : Int32) (x3 : Int32) (o4 : Nat) (x5 : Int32) (P : PS), k3 o0 o1 x2 x3 o4 x5 P = some (r0, T) → cGo p l e rmc_X8_keeper s m args below meth c 7 D cs t0 (pA P0) (cQI below D cs P0 args s 0 0 r0 T) 0 0 3 [(0, .ref o0), (1, .ref o1), (2, .int x2), (3, .int x3), (4, .ref o4), (5, .int x5)] [] P) (o0 : Nat) (o1 : Nat) (x2 : Int32) (x3 : Int32) (o4 : Nat) (x5 : Int32) (P : PS), hm_X8_keeper_60 k3 o0 o1 x2 x3 o4 x5 P = some (r0, T) → cGo p l e rmc_X8_keeper s m args below meth c 7 D cs t0 (pA P0) (cQI below D cs P0 args s 0 0 r0 T) 0 0 60 [(0, .ref o0), (1, .ref o1), (2, .int x2), (3, .int x3), (4, .ref o4), (5, .int x5)] [] P := by
    intro k3 hk3 o0 o1 x2 x3 o4 x5 P h H locs ls hl w
    unfold hm_X8_keeper_60 at h
    replace h := lt_e h
    obtain ⟨x5_101, ex5_101, h⟩ := h
    refine lv_iinc (v := x5_101) (lv' := [(5, .int x5_101), (0, .ref o0), (1, .ref o1), (2, .int x2), (3, .int x3), (4, .ref o4)]) hx hb dX8_keeper_60 hl (k := 5) rfl (by rw [ex5_101]; rfl) (by decide) (rfl) (fun ls hl => ?_)
    refine lv_goto (tgt := 3) hx hb dX8_keeper_63 (by decide) ?_
    exact hk3 o0 o1 x2 x3 o4 x5_101 P h _ _ _ (lv_sub hl [1, 2, 3, 4, 5, 0] rfl) w
  have L3 : ∀ (n : Nat) (o0 : Nat) (o1 : Nat) (x2 : Int32) (x3 : Int32) (o4 : Nat) (x5 : Int32) (P : PS), hm_X8_keeper_3L  n o0 o1 x2 x3 o4 x5 P = some (r0, T) → cGo p l e rmc_X8_keeper s m args below meth c 7 D cs t0 (pA P0) (cQI below D cs P0 args s 0 0 r0 T) 0 0 3 [(0, .ref o0), (1, .ref o1), (2, .int x2), (3, .int x3), (4, .ref o4), (5, .int x5)] [] P := by
    intro n
    induction n with
    | zero =>
      intro o0 o1 x2 x3 o4 x5 P h
      have h : none = some (r0, T) := h
      cases h
    | succ n hk3 =>
      intro o0 o1 x2 x3 o4 x5 P h H locs ls hl w
      have h : hm_X8_keeper_3  (hm_X8_keeper_3L  n) o0 o1 x2 x3 o4 x5 P = some (r0, T) := h
      generalize hm_X8_keeper_3L  n = k3 at h hk3
      unfold hm_X8_keeper_3 at h
      refine lv_iload hx hb dX8_keeper_3 (lv_at hl 5 rfl) ?_
      refine lv_aload_n hx hb dX8_keeper_5 rfl (lv_at hl 0 rfl) ?_
      replace h := ck_e h
      obtain ⟨hk_202, h⟩ := h
      replace h := nn_e h
      obtain ⟨b_203, hbb_203, h⟩ := h
      refine cw_getS cx hsub w kT9 hk_202 2 (by decide) hbb_203 ⟨hsub _ uf_RX8_24, Or.inl rfl⟩ dX8_keeper_6 ?_
      replace h := bd_e h
      obtain ⟨r_205, P_204, hc_206, h⟩ := h
      replace h := ck_e h
      obtain ⟨hk_207, h⟩ := h
      refine cc_i (cr_V (As := []) (rest := [.int x5]) cx (hcc_Jx4a65c_size_8abf5 l D cs t0  P P_204 b_203 r_205 hc_206) kT0 hk_207 (cwV 0 hts (uG uw_Jx4a65c_size_8abf5 ul_RX8_80 ui_Jx4a65c_size_8abf5 us_RJx4a65c_Jx4a65c_size_8abf5 un_RJx4a65c) rfl rfl rfl ud_Jx4a65c_size_8abf5 ⟨Nat.le_of_ble_eq_true rfl, Nat.le_of_ble_eq_true rfl⟩) w rfl hl.1 rfl (Nat.le_of_ble_eq_true rfl) dX8_keeper_9 ⟨(Nat.le_of_ble_eq_true rfl), (Nat.le_of_ble_eq_true rfl)⟩) (fun H locs w => ?_)
      refine lv_icmp_ge (tgt := 66) hx hb dX8_keeper_12 (by decide) (fun q => ?_) (fun q => ?_)
      · replace h := br_p q h
        refine lv_iconst (v := (-1 : Int32)) hx hb dX8_keeper_66 (by decide) ?_
        exact cw_iret cx (rt_e h) w dX8_keeper_67
      · replace h := br_n q h
        refine lv_aload_n hx hb dX8_keeper_15 rfl (lv_at hl 0 rfl) ?_
        replace h := ck_e h
        obtain ⟨hk_208, h⟩ := h
        replace h := nn_e h
        obtain ⟨b_209, hbb_209, h⟩ := h
        refine cw_getS cx hsub w kT9 hk_208 2 (by decide) hbb_209 ⟨hsub _ uf_RX8_24, Or.inl rfl⟩ dX8_keeper_16 ?_
        refine lv_iload hx hb dX8_keeper_19 (lv_at hl 5 rfl) ?_
        replace h := bd_e h
        obtain ⟨o_211, P_210, hc_212, h⟩ := h
        replace h := ck_e h
        obtain ⟨hk_213, h⟩ := h
        refine cc_q (cr_V (As := [.int x5]) (rest := []) cx (hcc_Jx4a65c_get_915e3 l D cs t0  P_204 P_210 b_209 x5 o_211 hc_212) kT0 hk_213 (cwV 1 hts (uG uw_Jx4a65c_get_915e3 ul_RX8_220 ui_Jx4a65c_get_915e3 us_RJx4a65c_Jx4a65c_get_915e3 un_RJx4a65c) rfl rfl rfl ud_Jx4a65c_get_915e3 ⟨Nat.le_of_ble_eq_true rfl, Nat.le_of_ble_eq_true rfl⟩) w rfl hl.1 rfl (Nat.le_of_ble_eq_true rfl) dX8_keeper_21 ⟨(Nat.le_of_ble_eq_true rfl), (Nat.le_of_ble_eq_true rfl)⟩) (fun H locs w => ?_)
        replace h := nn_e h
        obtain ⟨b_214, hbb_214, h⟩ := h
        subst hbb_214
        have hl : lv_has ls 7 [(0, .ref o0), (1, .ref o1), (2, .int x2), (3, .int x3), (4, .ref o4), (5, .int x5)] := hl
        refine W.eq (g2 := F0 m _ ls [.ref b_214]) rfl ?_
        replace h := ck_e h
        obtain ⟨hk_215, h⟩ := h
        refine cw_cast cx w kT5 hk_215 (hsub _ ucl_RX8_153) dX8_keeper_24 ?_
        refine lv_astore (lv' := [(6, .ref b_214), (0, .ref o0), (1, .ref o1), (2, .int x2), (3, .int x3), (4, .ref o4), (5, .int x5)]) hx hb dX8_keeper_27 hl (by decide) (rfl) (fun ls hl => ?_)
        refine lv_aload hx hb dX8_keeper_29 (lv_at hl 0 rfl) ?_
        refine cw_getI cx hsub w kT5 hk_215 1 (by decide) ⟨hsub _ uf_RX8_224, Or.inl rfl⟩ dX8_keeper_31 ?_
        refine lv_iload_n hx hb dX8_keeper_34 rfl (lv_at hl 4 rfl) ?_
        refine lv_icmp_ne (tgt := 60) hx hb dX8_keeper_35 (by decide) (fun q => ?_) (fun q => ?_)
        · replace h := br_n q h
          exact J60 k3 hk3 o0 o1 x2 x3 o4 x5 P_210 h _ _ _ (lv_sub hl [1, 2, 3, 4, 5, 6] rfl) w
        · replace h := br_p q h
          refine lv_aload hx hb dX8_keeper_38 (lv_at hl 0 rfl) ?_
          refine lv_aload hx hb dX8_keeper_40 (lv_at hl 0 rfl) ?_
          refine lv_aload_n hx hb dX8_keeper_42 rfl (lv_at hl 2 rfl) ?_
          refine lv_iload_n hx hb dX8_keeper_43 rfl (lv_at hl 3 rfl) ?_
          refine lv_aload hx hb dX8_keeper_44 (lv_at hl 5 rfl) ?_
          replace h := bd_e h
          obtain ⟨r_217, P_216, hc_218, h⟩ := h
          refine cc_i (cr_V (As := [.ref o1, .int x2, .ref o4]) (rest := [.ref b_214]) cx (hcc_X4_holding l D cs t0  P_210 P_216 b_214 o1 x2 o4 r_217 hc_218) kT5 hk_215 (cwV 3 hts (uG uw_X4_holding ul_RX8_152 ui_X4_holding us_RX4_X4_holding un_RX4) rfl rfl rfl ud_X4_holding ⟨Nat.le_of_ble_eq_true rfl, Nat.le_of_ble_eq_true rfl⟩) w rfl hl.1 rfl (Nat.le_of_ble_eq_true rfl) dX8_keeper_46 ⟨(Nat.le_of_ble_eq_true rfl), (Nat.le_of_ble_eq_true rfl)⟩) (fun H locs w => ?_)
          refine lv_aload hx hb dX8_keeper_49 (lv_at hl 5 rfl) ?_
          replace h := bd_e h
          obtain ⟨r_220, P_219, hc_221, h⟩ := h
          replace h := ck_e h
          obtain ⟨hk_222, h⟩ := h
          refine cc_i (cr_V (As := [.int r_217, .ref o4]) (rest := []) cx (hcc_X4_keepsOut l D cs t0  P_216 P_219 b_214 r_217 o4 r_220 hc_221) kT5 hk_222 (cwV 2 hts (uG uw_X4_keepsOut ul_RX8_158 ui_X4_keepsOut us_RX4_X4_keepsOut un_RX4) rfl rfl rfl ud_X4_keepsOut ⟨Nat.le_of_ble_eq_true rfl, Nat.le_of_ble_eq_true rfl⟩) w rfl hl.1 rfl (Nat.le_of_ble_eq_true rfl) dX8_keeper_51 ⟨(Nat.le_of_ble_eq_true rfl), (Nat.le_of_ble_eq_true rfl)⟩) (fun H locs w => ?_)
          refine lv_if_eq (tgt := 60) hx hb dX8_keeper_54 (by decide) (fun q => ?_) (fun q => ?_)
          · replace h := br_p q h
            exact J60 k3 hk3 o0 o1 x2 x3 o4 x5 P_219 h _ _ _ (lv_sub hl [1, 2, 3, 4, 5, 6] rfl) w
          · replace h := br_n q h
            refine lv_iload hx hb dX8_keeper_57 (lv_at hl 6 rfl) ?_
            exact cw_iret cx (rt_e h) w dX8_keeper_59
  have hP0 : P0 = P0 := rfl
  unfold hm_X8_keeper at h
  refine lv_iconst (v := (0 : Int32)) hx hb dX8_keeper_0 (by decide) ?_
  replace h := lt_e h
  obtain ⟨x5_323, ex5_323, h⟩ := h
  refine top_i ex5_323 ?_
  refine lv_istore (lv' := [(5, .int x5_323), (0, .ref th), (1, .ref a1), (2, .int a2), (3, .int a3), (4, .ref a4)]) hx hb dX8_keeper_1 hl (by decide) (rfl) (fun ls hl => ?_)
  exact L3  4000 th a1 a2 a3 a4 x5_323 P0 h _ _ _ (lv_sub hl [1, 2, 3, 4, 5, 0] rfl) w
def hm_X8_withParts_41 (k12 : Nat → Int32 → Int32 → PS → Option (Int32 × PS)) (o0 : Nat) (x2 : Int32) (x3 : Int32) (P : PS) : Option (Int32 × PS) := lt_ (x3 + (-1 : Int32)) (fun x3_101 => k12 o0 x2 x3_101 P)
def hm_X8_withParts_12 (k12 : Nat → Int32 → Int32 → PS → Option (Int32 × PS)) (o0 : Nat) (x2 : Int32) (x3 : Int32) (P : PS) : Option (Int32 × PS) := if x3 < (0 : Int32) then (some (x2, P)) else (bd (hm_X8_has  P x2 x3) (fun r_203 P_202 => if r_203 = (0 : Int32) then (hm_X8_withParts_41 k12 o0 x2 x3 P_202) else (ck (kk P_202 o0 9) (nn (pR P_202 o0 1) (fun b_206 => bd (hm_Jx4a65c_get_915e3  P_202 b_206 x3) (fun o_208 P_207 => ck (kk P_202 b_206 0) (nn o_208 (fun b_211 => ck (kk P_207 b_211 8) (lt_ ((x2 ||| (pI P_207 b_211 6))) (fun x2_213 => hm_X8_withParts_41 k12 o0 x2_213 x3 P_207))))))))))
def hm_X8_withParts_12L : Nat → Nat → Int32 → Int32 → PS → Option (Int32 × PS)
  | 0, _, _, _, _ => none
  | n + 1, o0, x2, x3, P => hm_X8_withParts_12  (hm_X8_withParts_12L  n) o0 x2 x3 P
def hm_X8_withParts (P : PS) (th : Nat) (a1 : Int32) : Option (Int32 × PS) := ck (kk P th 9) (nn (pR P th 1) (fun b_315 => bd (hm_Jx4a65c_size_8abf5  P b_315) (fun r_317 P_316 => ck (kk P b_315 0) (lt_ ((r_317 - (1 : Int32))) (fun x3_320 => hm_X8_withParts_12L  4000 th a1 x3_320 P_316)))))
abbrev wu_X8_withParts : List Cond := .code yX8_withParts cX8_withParts 4 (some .int) :: wsL_law
theorem ud_X8_withParts : yX8_withParts.cls = RX8 ∧ yX8_withParts.cls ≠ "java/lang/invoke/MethodHandle" ∧ yX8_withParts.cls ≠ "java/lang/invoke/VarHandle" ∧ (parseMethodDescriptor yX8_withParts.desc).map (fun d => d.parameters.length) = some 1 := by decide +kernel
abbrev rmc_X8_withParts : Room := { frames := 3, cells := 0, slots := 0, locals := 64 }
set_option maxHeartbeats 4000000 in
set_option maxRecDepth 100000 in
theorem hcc_X8_withParts (l : Launch) (D : va_G) (cs : Nat → ClassId) (t0 : TS) (P0 T : PS) (th : Nat) (a1 : Int32) (r0 : Int32) (h : hm_X8_withParts P0 th a1 = some (r0, T)) : MetCI l yX8_withParts wu_X8_withParts rmc_X8_withParts D cs t0 [.ref th, .int a1] P0 T r0 0 0 := by
  refine co_start (own := RX8) (ty := (some .int)) (cc := cX8_withParts) (maxL := 4) ⟨by decide, rfl⟩ rfl (Nat.le_of_ble_eq_true rfl) ?_
  intro p e s m args below meth c ls cx hnm hl w
  have hx := cx.1
  have hb := cx.2.1
  have hts := cx.2.2.2.1
  have hown := cx.2.2.2.2.1
  have hml := cx.2.2.2.2.2.2
  have hsub : ∀ w ∈ wsL_law, w ∈ wu_X8_withParts := fun _ hq => List.mem_cons_of_mem _ hq
  have hl : lv_has ls 4 [(0, .ref th), (1, .int a1)] := hl
  have J41 : ∀ (k12 : Nat → Int32 → Int32 → PS → Option (Int32 × PS)) (hk12 : ∀ (o0 : Nat) (x2 : Int32) (x3 : Int32) (P : PS), k12 o0 x2 x3 P = some (r0, T) → cGo p l e rmc_X8_withParts s m args below meth c 4 D cs t0 (pA P0) (cQI below D cs P0 args s 0 0 r0 T) 0 0 12 [(0, .ref o0), (2, .int x2), (3, .int x3)] [] P) (o0 : Nat) (x2 : Int32) (x3 : Int32) (P : PS), hm_X8_withParts_41 k12 o0 x2 x3 P = some (r0, T) → cGo p l e rmc_X8_withParts s m args below meth c 4 D cs t0 (pA P0) (cQI below D cs P0 args s 0 0 r0 T) 0 0 41 [(0, .ref o0), (2, .int x2), (3, .int x3)] [] P := by
    intro k12 hk12 o0 x2 x3 P h H locs ls hl w
    unfold hm_X8_withParts_41 at h
    replace h := lt_e h
    obtain ⟨x3_101, ex3_101, h⟩ := h
    refine lv_iinc (v := x3_101) (lv' := [(3, .int x3_101), (0, .ref o0), (2, .int x2)]) hx hb dX8_withParts_41 hl (k := 2) rfl (by rw [ex3_101]; rfl) (by decide) (rfl) (fun ls hl => ?_)
    refine lv_goto (tgt := 12) hx hb dX8_withParts_44 (by decide) ?_
    exact hk12 o0 x2 x3_101 P h _ _ _ (lv_sub hl [1, 2, 0] rfl) w
  have L12 : ∀ (n : Nat) (o0 : Nat) (x2 : Int32) (x3 : Int32) (P : PS), hm_X8_withParts_12L  n o0 x2 x3 P = some (r0, T) → cGo p l e rmc_X8_withParts s m args below meth c 4 D cs t0 (pA P0) (cQI below D cs P0 args s 0 0 r0 T) 0 0 12 [(0, .ref o0), (2, .int x2), (3, .int x3)] [] P := by
    intro n
    induction n with
    | zero =>
      intro o0 x2 x3 P h
      have h : none = some (r0, T) := h
      cases h
    | succ n hk12 =>
      intro o0 x2 x3 P h H locs ls hl w
      have h : hm_X8_withParts_12  (hm_X8_withParts_12L  n) o0 x2 x3 P = some (r0, T) := h
      generalize hm_X8_withParts_12L  n = k12 at h hk12
      unfold hm_X8_withParts_12 at h
      refine lv_iload_n hx hb dX8_withParts_12 rfl (lv_at hl 2 rfl) ?_
      refine lv_if_lt (tgt := 47) hx hb dX8_withParts_13 (by decide) (fun q => ?_) (fun q => ?_)
      · replace h := br_p q h
        refine lv_iload_n hx hb dX8_withParts_47 rfl (lv_at hl 1 rfl) ?_
        exact cw_iret cx (rt_e h) w dX8_withParts_48
      · replace h := br_n q h
        refine lv_iload_n hx hb dX8_withParts_16 rfl (lv_at hl 1 rfl) ?_
        refine lv_iload_n hx hb dX8_withParts_17 rfl (lv_at hl 2 rfl) ?_
        replace h := bd_e h
        obtain ⟨r_203, P_202, hc_204, h⟩ := h
        refine cc_i (cr_S (As := [.int x2, .int x3]) (rest := []) cx (hcc_X8_has l D cs t0  P P_202 x2 x3 r_203 hc_204) (va_cwS 2 hts (uGS uw_X8_has ul_RX8_105 ut_X8_has un_RX8) rfl rfl rfl ud_X8_has.2 ⟨Nat.le_of_ble_eq_true rfl, Nat.le_of_ble_eq_true rfl⟩) w rfl hl.1 rfl (Nat.le_of_ble_eq_true rfl) dX8_withParts_18 ⟨(Nat.le_of_ble_eq_true rfl), (Nat.le_of_ble_eq_true rfl)⟩) (fun H locs w => ?_)
        refine lv_if_eq (tgt := 41) hx hb dX8_withParts_21 (by decide) (fun q => ?_) (fun q => ?_)
        · replace h := br_p q h
          exact J41 k12 hk12 o0 x2 x3 P_202 h _ _ _ (lv_sub hl [0, 1, 2] rfl) w
        · replace h := br_n q h
          refine lv_iload_n hx hb dX8_withParts_24 rfl (lv_at hl 1 rfl) ?_
          refine lv_aload_n hx hb dX8_withParts_25 rfl (lv_at hl 0 rfl) ?_
          replace h := ck_e h
          obtain ⟨hk_205, h⟩ := h
          replace h := nn_e h
          obtain ⟨b_206, hbb_206, h⟩ := h
          refine cw_getS cx hsub w kT9 hk_205 1 (by decide) hbb_206 ⟨hsub _ uf_RX8_20, Or.inl rfl⟩ dX8_withParts_26 ?_
          refine lv_iload_n hx hb dX8_withParts_29 rfl (lv_at hl 2 rfl) ?_
          replace h := bd_e h
          obtain ⟨o_208, P_207, hc_209, h⟩ := h
          replace h := ck_e h
          obtain ⟨hk_210, h⟩ := h
          refine cc_q (cr_V (As := [.int x3]) (rest := [.int x2]) cx (hcc_Jx4a65c_get_915e3 l D cs t0  P_202 P_207 b_206 x3 o_208 hc_209) kT0 hk_210 (cwV 1 hts (uG uw_Jx4a65c_get_915e3 ul_RX8_220 ui_Jx4a65c_get_915e3 us_RJx4a65c_Jx4a65c_get_915e3 un_RJx4a65c) rfl rfl rfl ud_Jx4a65c_get_915e3 ⟨Nat.le_of_ble_eq_true rfl, Nat.le_of_ble_eq_true rfl⟩) w rfl hl.1 rfl (Nat.le_of_ble_eq_true rfl) dX8_withParts_30 ⟨(Nat.le_of_ble_eq_true rfl), (Nat.le_of_ble_eq_true rfl)⟩) (fun H locs w => ?_)
          replace h := nn_e h
          obtain ⟨b_211, hbb_211, h⟩ := h
          subst hbb_211
          have hl : lv_has ls 4 [(0, .ref o0), (2, .int x2), (3, .int x3)] := hl
          refine W.eq (g2 := F0 m _ ls [.ref b_211, .int x2]) rfl ?_
          replace h := ck_e h
          obtain ⟨hk_212, h⟩ := h
          refine cw_cast cx w kT8 hk_212 (hsub _ ucl_RX8_84) dX8_withParts_33 ?_
          refine cw_getI cx hsub w kT8 hk_212 6 (by decide) ⟨hsub _ uf_RX8_102, Or.inl rfl⟩ dX8_withParts_36 ?_
          refine lv_ior hx hb dX8_withParts_39 ?_
          replace h := lt_e h
          obtain ⟨x2_213, ex2_213, h⟩ := h
          refine top_i ex2_213 ?_
          refine lv_istore_n (lv' := [(2, .int x2_213), (0, .ref o0), (3, .int x3)]) hx hb dX8_withParts_40 rfl hl (by decide) (rfl) (fun ls hl => ?_)
          exact J41 k12 hk12 o0 x2_213 x3 P_207 h _ _ _ (lv_sub hl [1, 0, 2] rfl) w
  have hP0 : P0 = P0 := rfl
  unfold hm_X8_withParts at h
  refine lv_iload_n hx hb dX8_withParts_0 rfl (lv_at hl 1 rfl) ?_
  refine lv_istore_n (lv' := [(2, .int a1), (0, .ref th), (1, .int a1)]) hx hb dX8_withParts_1 rfl hl (by decide) (rfl) (fun ls hl => ?_)
  refine lv_aload_n hx hb dX8_withParts_2 rfl (lv_at hl 1 rfl) ?_
  replace h := ck_e h
  obtain ⟨hk_314, h⟩ := h
  replace h := nn_e h
  obtain ⟨b_315, hbb_315, h⟩ := h
  refine cw_getS cx hsub w kT9 hk_314 1 (by decide) hbb_315 ⟨hsub _ uf_RX8_20, Or.inl rfl⟩ dX8_withParts_3 ?_
  replace h := bd_e h
  obtain ⟨r_317, P_316, hc_318, h⟩ := h
  replace h := ck_e h
  obtain ⟨hk_319, h⟩ := h
  refine cc_i (cr_V (As := []) (rest := []) cx (hcc_Jx4a65c_size_8abf5 l D cs t0  P0 P_316 b_315 r_317 hc_318) kT0 hk_319 (cwV 0 hts (uG uw_Jx4a65c_size_8abf5 ul_RX8_80 ui_Jx4a65c_size_8abf5 us_RJx4a65c_Jx4a65c_size_8abf5 un_RJx4a65c) rfl rfl rfl ud_Jx4a65c_size_8abf5 ⟨Nat.le_of_ble_eq_true rfl, Nat.le_of_ble_eq_true rfl⟩) w rfl hl.1 rfl (Nat.le_of_ble_eq_true rfl) dX8_withParts_6 ⟨(Nat.le_of_ble_eq_true rfl), (Nat.le_of_ble_eq_true rfl)⟩) (fun H locs w => ?_)
  refine lv_iconst (v := (1 : Int32)) hx hb dX8_withParts_9 (by decide) ?_
  refine lv_isub hx hb dX8_withParts_10 ?_
  replace h := lt_e h
  obtain ⟨x3_320, ex3_320, h⟩ := h
  refine top_i ex3_320 ?_
  refine lv_istore_n (lv' := [(3, .int x3_320), (2, .int a1), (0, .ref th), (1, .int a1)]) hx hb dX8_withParts_11 rfl hl (by decide) (rfl) (fun ls hl => ?_)
  exact L12  4000 th a1 x3_320 P_316 h _ _ _ (lv_sub hl [2, 1, 0] rfl) w
def hm_X8_isHeard_83 (k36 : Nat → Int32 → Nat → Int32 → Int32 → PS → Option (Int32 × PS)) (o0 : Nat) (x3 : Int32) (o4 : Nat) (x5 : Int32) (x6 : Int32) (P : PS) : Option (Int32 × PS) := lt_ (x6 + (1 : Int32)) (fun x6_101 => k36 o0 x3 o4 x5 x6_101 P)
def hm_X8_isHeard_36 (k36 : Nat → Int32 → Nat → Int32 → Int32 → PS → Option (Int32 × PS)) (o0 : Nat) (x3 : Int32) (o4 : Nat) (x5 : Int32) (x6 : Int32) (P : PS) : Option (Int32 × PS) := ck (kk P o0 9) (nn (pR P o0 1) (fun b_203 => bd (hm_Jx4a65c_size_8abf5  P b_203) (fun r_205 P_204 => ck (kk P b_203 0) (if r_205 ≤ x6 then (some ((1 : Int32), P_204)) else (bd (hm_X8_has  P_204 x5 x6) (fun r_209 P_208 => if r_209 = (0 : Int32) then (hm_X8_isHeard_83 k36 o0 x3 o4 x5 x6 P_208) else (ck (kk P_208 o0 9) (nn (pR P_208 o0 1) (fun b_212 => bd (hm_Jx4a65c_get_915e3  P_208 b_212 x6) (fun o_214 P_213 => ck (kk P_208 b_212 0) (nn o_214 (fun b_217 => ck (kk P_213 b_217 8) (bd (hm_X8_keeper  P_213 o0 b_217 (0 : Int32) x3 o4) (fun r_220 P_219 => ck (kk P_213 o0 9) (if r_220 < (0 : Int32) then (hm_X8_isHeard_83 k36 o0 x3 o4 x5 x6 P_219) else (some ((0 : Int32), P_219)))))))))))))))))
def hm_X8_isHeard_36L : Nat → Nat → Int32 → Nat → Int32 → Int32 → PS → Option (Int32 × PS)
  | 0, _, _, _, _, _, _ => none
  | n + 1, o0, x3, o4, x5, x6, P => hm_X8_isHeard_36  (hm_X8_isHeard_36L  n) o0 x3 o4 x5 x6 P
def hm_X8_isHeard_31 (o0 : Nat) (x3 : Int32) (o4 : Nat) (sv0 : Int32) (P : PS) : Option (Int32 × PS) := lt_ ((0 : Int32)) (fun x6_323 => hm_X8_isHeard_36L  4000 o0 x3 o4 sv0 x6_323 P)
def hm_X8_isHeard (P : PS) (th : Nat) (a1 : Nat) (a2 : Int32) (a3 : Int32) (a4 : Nat) : Option (Int32 × PS) := bd (hm_X8_keeper  P th a1 a2 a3 a4) (fun r_425 P_424 => ck (kk P th 9) (if r_425 < (0 : Int32) then (if a2 = (1 : Int32) then (hm_X8_isHeard_31  th a3 a4 (0 : Int32) P_424) else (ck (kk P_424 a1 8) (bd (hm_X8_withParts  P_424 th (pI P_424 a1 6)) (fun r_430 P_429 => ck (kk P_424 th 9) (hm_X8_isHeard_31  th a3 a4 r_430 P_429))))) else (some ((0 : Int32), P_424))))
abbrev wu_X8_isHeard : List Cond := .code yX8_isHeard cX8_isHeard 7 (some .boolean) :: wsL_law
theorem ud_X8_isHeard : yX8_isHeard.cls = RX8 ∧ yX8_isHeard.cls ≠ "java/lang/invoke/MethodHandle" ∧ yX8_isHeard.cls ≠ "java/lang/invoke/VarHandle" ∧ (parseMethodDescriptor yX8_isHeard.desc).map (fun d => d.parameters.length) = some 4 := by decide +kernel
abbrev rmc_X8_isHeard : Room := { frames := 6, cells := 0, slots := 0, locals := 136 }
set_option maxHeartbeats 4000000 in
set_option maxRecDepth 100000 in
theorem hcc_X8_isHeard (l : Launch) (D : va_G) (cs : Nat → ClassId) (t0 : TS) (P0 T : PS) (th : Nat) (a1 : Nat) (a2 : Int32) (a3 : Int32) (a4 : Nat) (r0 : Int32) (h : hm_X8_isHeard P0 th a1 a2 a3 a4 = some (r0, T)) : MetCI l yX8_isHeard wu_X8_isHeard rmc_X8_isHeard D cs t0 [.ref th, .ref a1, .int a2, .int a3, .ref a4] P0 T r0 0 0 := by
  refine co_start (own := RX8) (ty := (some .boolean)) (cc := cX8_isHeard) (maxL := 7) ⟨by decide, rfl⟩ rfl (Nat.le_of_ble_eq_true rfl) ?_
  intro p e s m args below meth c ls cx hnm hl w
  have hx := cx.1
  have hb := cx.2.1
  have hts := cx.2.2.2.1
  have hown := cx.2.2.2.2.1
  have hml := cx.2.2.2.2.2.2
  have hsub : ∀ w ∈ wsL_law, w ∈ wu_X8_isHeard := fun _ hq => List.mem_cons_of_mem _ hq
  have hl : lv_has ls 7 [(0, .ref th), (1, .ref a1), (2, .int a2), (3, .int a3), (4, .ref a4)] := hl
  have J83 : ∀ (k36 : Nat → Int32 → Nat → Int32 → Int32 → PS → Option (Int32 × PS)) (hk36 : ∀ (o0 : Nat) (x3 : Int32) (o4 : Nat) (x5 : Int32) (x6 : Int32) (P : PS), k36 o0 x3 o4 x5 x6 P = some (r0, T) → cGo p l e rmc_X8_isHeard s m args below meth c 7 D cs t0 (pA P0) (cQI below D cs P0 args s 0 0 r0 T) 0 0 36 [(0, .ref o0), (3, .int x3), (4, .ref o4), (5, .int x5), (6, .int x6)] [] P) (o0 : Nat) (x3 : Int32) (o4 : Nat) (x5 : Int32) (x6 : Int32) (P : PS), hm_X8_isHeard_83 k36 o0 x3 o4 x5 x6 P = some (r0, T) → cGo p l e rmc_X8_isHeard s m args below meth c 7 D cs t0 (pA P0) (cQI below D cs P0 args s 0 0 r0 T) 0 0 83 [(0, .ref o0), (3, .int x3), (4, .ref o4), (5, .int x5), (6, .int x6)] [] P := by
    intro k36 hk36 o0 x3 o4 x5 x6 P h H locs ls hl w
    unfold hm_X8_isHeard_83 at h
    replace h := lt_e h
    obtain ⟨x6_101, ex6_101, h⟩ := h
    refine lv_iinc (v := x6_101) (lv' := [(6, .int x6_101), (0, .ref o0), (3, .int x3), (4, .ref o4), (5, .int x5)]) hx hb dX8_isHeard_83 hl (k := 4) rfl (by rw [ex6_101]; rfl) (by decide) (rfl) (fun ls hl => ?_)
    refine lv_goto (tgt := 36) hx hb dX8_isHeard_86 (by decide) ?_
    exact hk36 o0 x3 o4 x5 x6_101 P h _ _ _ (lv_sub hl [1, 2, 3, 4, 0] rfl) w
  have L36 : ∀ (n : Nat) (o0 : Nat) (x3 : Int32) (o4 : Nat) (x5 : Int32) (x6 : Int32) (P : PS), hm_X8_isHeard_36L  n o0 x3 o4 x5 x6 P = some (r0, T) → cGo p l e rmc_X8_isHeard s m args below meth c 7 D cs t0 (pA P0) (cQI below D cs P0 args s 0 0 r0 T) 0 0 36 [(0, .ref o0), (3, .int x3), (4, .ref o4), (5, .int x5), (6, .int x6)] [] P := by
    intro n
    induction n with
    | zero =>
      intro o0 x3 o4 x5 x6 P h
      have h : none = some (r0, T) := h
      cases h
    | succ n hk36 =>
      intro o0 x3 o4 x5 x6 P h H locs ls hl w
      have h : hm_X8_isHeard_36  (hm_X8_isHeard_36L  n) o0 x3 o4 x5 x6 P = some (r0, T) := h
      generalize hm_X8_isHeard_36L  n = k36 at h hk36
      unfold hm_X8_isHeard_36 at h
      refine lv_iload hx hb dX8_isHeard_36 (lv_at hl 4 rfl) ?_
      refine lv_aload_n hx hb dX8_isHeard_38 rfl (lv_at hl 0 rfl) ?_
      replace h := ck_e h
      obtain ⟨hk_202, h⟩ := h
      replace h := nn_e h
      obtain ⟨b_203, hbb_203, h⟩ := h
      refine cw_getS cx hsub w kT9 hk_202 1 (by decide) hbb_203 ⟨hsub _ uf_RX8_20, Or.inl rfl⟩ dX8_isHeard_39 ?_
      replace h := bd_e h
      obtain ⟨r_205, P_204, hc_206, h⟩ := h
      replace h := ck_e h
      obtain ⟨hk_207, h⟩ := h
      refine cc_i (cr_V (As := []) (rest := [.int x6]) cx (hcc_Jx4a65c_size_8abf5 l D cs t0  P P_204 b_203 r_205 hc_206) kT0 hk_207 (cwV 0 hts (uG uw_Jx4a65c_size_8abf5 ul_RX8_80 ui_Jx4a65c_size_8abf5 us_RJx4a65c_Jx4a65c_size_8abf5 un_RJx4a65c) rfl rfl rfl ud_Jx4a65c_size_8abf5 ⟨Nat.le_of_ble_eq_true rfl, Nat.le_of_ble_eq_true rfl⟩) w rfl hl.1 rfl (Nat.le_of_ble_eq_true rfl) dX8_isHeard_42 ⟨(Nat.le_of_ble_eq_true rfl), (Nat.le_of_ble_eq_true rfl)⟩) (fun H locs w => ?_)
      refine lv_icmp_ge (tgt := 89) hx hb dX8_isHeard_45 (by decide) (fun q => ?_) (fun q => ?_)
      · replace h := br_p q h
        refine lv_iconst (v := (1 : Int32)) hx hb dX8_isHeard_89 (by decide) ?_
        exact cw_zret cx (Or.inr rfl) (rt_e h) w dX8_isHeard_90
      · replace h := br_n q h
        refine lv_iload hx hb dX8_isHeard_48 (lv_at hl 3 rfl) ?_
        refine lv_iload hx hb dX8_isHeard_50 (lv_at hl 4 rfl) ?_
        replace h := bd_e h
        obtain ⟨r_209, P_208, hc_210, h⟩ := h
        refine cc_i (cr_S (As := [.int x5, .int x6]) (rest := []) cx (hcc_X8_has l D cs t0  P_204 P_208 x5 x6 r_209 hc_210) (va_cwS 2 hts (uGS uw_X8_has ul_RX8_105 ut_X8_has un_RX8) rfl rfl rfl ud_X8_has.2 ⟨Nat.le_of_ble_eq_true rfl, Nat.le_of_ble_eq_true rfl⟩) w rfl hl.1 rfl (Nat.le_of_ble_eq_true rfl) dX8_isHeard_52 ⟨(Nat.le_of_ble_eq_true rfl), (Nat.le_of_ble_eq_true rfl)⟩) (fun H locs w => ?_)
        refine lv_if_eq (tgt := 83) hx hb dX8_isHeard_55 (by decide) (fun q => ?_) (fun q => ?_)
        · replace h := br_p q h
          exact J83 k36 hk36 o0 x3 o4 x5 x6 P_208 h _ _ _ (lv_sub hl [0, 1, 2, 3, 4] rfl) w
        · replace h := br_n q h
          refine lv_aload_n hx hb dX8_isHeard_58 rfl (lv_at hl 0 rfl) ?_
          refine lv_aload_n hx hb dX8_isHeard_59 rfl (lv_at hl 0 rfl) ?_
          replace h := ck_e h
          obtain ⟨hk_211, h⟩ := h
          replace h := nn_e h
          obtain ⟨b_212, hbb_212, h⟩ := h
          refine cw_getS cx hsub w kT9 hk_211 1 (by decide) hbb_212 ⟨hsub _ uf_RX8_20, Or.inl rfl⟩ dX8_isHeard_60 ?_
          refine lv_iload hx hb dX8_isHeard_63 (lv_at hl 4 rfl) ?_
          replace h := bd_e h
          obtain ⟨o_214, P_213, hc_215, h⟩ := h
          replace h := ck_e h
          obtain ⟨hk_216, h⟩ := h
          refine cc_q (cr_V (As := [.int x6]) (rest := [.ref o0]) cx (hcc_Jx4a65c_get_915e3 l D cs t0  P_208 P_213 b_212 x6 o_214 hc_215) kT0 hk_216 (cwV 1 hts (uG uw_Jx4a65c_get_915e3 ul_RX8_220 ui_Jx4a65c_get_915e3 us_RJx4a65c_Jx4a65c_get_915e3 un_RJx4a65c) rfl rfl rfl ud_Jx4a65c_get_915e3 ⟨Nat.le_of_ble_eq_true rfl, Nat.le_of_ble_eq_true rfl⟩) w rfl hl.1 rfl (Nat.le_of_ble_eq_true rfl) dX8_isHeard_65 ⟨(Nat.le_of_ble_eq_true rfl), (Nat.le_of_ble_eq_true rfl)⟩) (fun H locs w => ?_)
          replace h := nn_e h
          obtain ⟨b_217, hbb_217, h⟩ := h
          subst hbb_217
          have hl : lv_has ls 7 [(0, .ref o0), (3, .int x3), (4, .ref o4), (5, .int x5), (6, .int x6)] := hl
          refine W.eq (g2 := F0 m _ ls [.ref b_217, .ref o0]) rfl ?_
          replace h := ck_e h
          obtain ⟨hk_218, h⟩ := h
          refine cw_cast cx w kT8 hk_218 (hsub _ ucl_RX8_84) dX8_isHeard_68 ?_
          refine lv_iconst (v := (0 : Int32)) hx hb dX8_isHeard_71 (by decide) ?_
          refine lv_iload_n hx hb dX8_isHeard_72 rfl (lv_at hl 1 rfl) ?_
          refine lv_aload hx hb dX8_isHeard_73 (lv_at hl 2 rfl) ?_
          replace h := bd_e h
          obtain ⟨r_220, P_219, hc_221, h⟩ := h
          replace h := ck_e h
          obtain ⟨hk_222, h⟩ := h
          refine cc_i (cr_V (As := [.ref b_217, .int (0 : Int32), .int x3, .ref o4]) (rest := []) cx (hcc_X8_keeper l D cs t0  P_213 P_219 o0 b_217 (0 : Int32) x3 o4 r_220 hc_221) kT9 hk_222 (cwV 4 hts (uG uw_X8_keeper ul_RX8_173 ui_X8_keeper us_RX8_X8_keeper un_RX8) rfl rfl rfl ud_X8_keeper ⟨Nat.le_of_ble_eq_true rfl, Nat.le_of_ble_eq_true rfl⟩) w rfl hl.1 rfl (Nat.le_of_ble_eq_true rfl) dX8_isHeard_75 ⟨(Nat.le_of_ble_eq_true rfl), (Nat.le_of_ble_eq_true rfl)⟩) (fun H locs w => ?_)
          refine lv_if_lt (tgt := 83) hx hb dX8_isHeard_78 (by decide) (fun q => ?_) (fun q => ?_)
          · replace h := br_p q h
            exact J83 k36 hk36 o0 x3 o4 x5 x6 P_219 h _ _ _ (lv_sub hl [0, 1, 2, 3, 4] rfl) w
          · replace h := br_n q h
            refine lv_iconst (v := (0 : Int32)) hx hb dX8_isHeard_81 (by decide) ?_
            exact cw_zret cx (Or.inl rfl) (rt_e h) w dX8_isHeard_82
  have J31 : ∀ (o0 : Nat) (x3 : Int32) (o4 : Nat) (sv0 : Int32) (P : PS), hm_X8_isHeard_31  o0 x3 o4 sv0 P = some (r0, T) → cGo p l e rmc_X8_isHeard s m args below meth c 7 D cs t0 (pA P0) (cQI below D cs P0 args s 0 0 r0 T) 0 0 31 [(0, .ref o0), (3, .int x3), (4, .ref o4)] [.int sv0] P := by
    intro o0 x3 o4 sv0 P h H locs ls hl w
    unfold hm_X8_isHeard_31 at h
    refine lv_istore (lv' := [(5, .int sv0), (0, .ref o0), (3, .int x3), (4, .ref o4)]) hx hb dX8_isHeard_31 hl (by decide) (rfl) (fun ls hl => ?_)
    refine lv_iconst (v := (0 : Int32)) hx hb dX8_isHeard_33 (by decide) ?_
    replace h := lt_e h
    obtain ⟨x6_323, ex6_323, h⟩ := h
    refine top_i ex6_323 ?_
    refine lv_istore (lv' := [(6, .int x6_323), (5, .int sv0), (0, .ref o0), (3, .int x3), (4, .ref o4)]) hx hb dX8_isHeard_34 hl (by decide) (rfl) (fun ls hl => ?_)
    exact L36  4000 o0 x3 o4 sv0 x6_323 P h _ _ _ (lv_sub hl [2, 3, 4, 1, 0] rfl) w
  have hP0 : P0 = P0 := rfl
  unfold hm_X8_isHeard at h
  refine lv_aload_n hx hb dX8_isHeard_0 rfl (lv_at hl 0 rfl) ?_
  refine lv_aload_n hx hb dX8_isHeard_1 rfl (lv_at hl 1 rfl) ?_
  refine lv_iload_n hx hb dX8_isHeard_2 rfl (lv_at hl 2 rfl) ?_
  refine lv_iload_n hx hb dX8_isHeard_3 rfl (lv_at hl 3 rfl) ?_
  refine lv_aload hx hb dX8_isHeard_4 (lv_at hl 4 rfl) ?_
  replace h := bd_e h
  obtain ⟨r_425, P_424, hc_426, h⟩ := h
  replace h := ck_e h
  obtain ⟨hk_427, h⟩ := h
  refine cc_i (cr_V (As := [.ref a1, .int a2, .int a3, .ref a4]) (rest := []) cx (hcc_X8_keeper l D cs t0  P0 P_424 th a1 a2 a3 a4 r_425 hc_426) kT9 hk_427 (cwV 4 hts (uG uw_X8_keeper ul_RX8_173 ui_X8_keeper us_RX8_X8_keeper un_RX8) rfl rfl rfl ud_X8_keeper ⟨Nat.le_of_ble_eq_true rfl, Nat.le_of_ble_eq_true rfl⟩) w rfl hl.1 rfl (Nat.le_of_ble_eq_true rfl) dX8_isHeard_6 ⟨(Nat.le_of_ble_eq_true rfl), (Nat.le_of_ble_eq_true rfl)⟩) (fun H locs w => ?_)
  refine lv_if_lt (tgt := 14) hx hb dX8_isHeard_9 (by decide) (fun q => ?_) (fun q => ?_)
  · replace h := br_p q h
    refine lv_iload_n hx hb dX8_isHeard_14 rfl (lv_at hl 2 rfl) ?_
    refine lv_iconst (v := (1 : Int32)) hx hb dX8_isHeard_15 (by decide) ?_
    refine lv_icmp_ne (tgt := 23) hx hb dX8_isHeard_16 (by decide) (fun q => ?_) (fun q => ?_)
    · replace h := br_n q h
      refine lv_aload_n hx hb dX8_isHeard_23 rfl (lv_at hl 0 rfl) ?_
      refine lv_aload_n hx hb dX8_isHeard_24 rfl (lv_at hl 1 rfl) ?_
      replace h := ck_e h
      obtain ⟨hk_428, h⟩ := h
      refine cw_getI cx hsub w kT8 hk_428 6 (by decide) ⟨hsub _ uf_RX8_102, Or.inl rfl⟩ dX8_isHeard_25 ?_
      replace h := bd_e h
      obtain ⟨r_430, P_429, hc_431, h⟩ := h
      replace h := ck_e h
      obtain ⟨hk_432, h⟩ := h
      refine cc_i (cr_V (As := [.int (pI P_424 a1 6)]) (rest := []) cx (hcc_X8_withParts l D cs t0  P_424 P_429 th (pI P_424 a1 6) r_430 hc_431) kT9 hk_432 (cwV 1 hts (uG uw_X8_withParts ul_RX8_177 ui_X8_withParts us_RX8_X8_withParts un_RX8) rfl rfl rfl ud_X8_withParts ⟨Nat.le_of_ble_eq_true rfl, Nat.le_of_ble_eq_true rfl⟩) w rfl hl.1 rfl (Nat.le_of_ble_eq_true rfl) dX8_isHeard_28 ⟨(Nat.le_of_ble_eq_true rfl), (Nat.le_of_ble_eq_true rfl)⟩) (fun H locs w => ?_)
      exact J31  th a3 a4 r_430 P_429 h _ _ _ (lv_sub hl [0, 3, 4] rfl) w
    · replace h := br_p q h
      refine lv_iconst (v := (0 : Int32)) hx hb dX8_isHeard_19 (by decide) ?_
      refine lv_goto (tgt := 31) hx hb dX8_isHeard_20 (by decide) ?_
      exact J31  th a3 a4 (0 : Int32) P_424 h _ _ _ (lv_sub hl [0, 3, 4] rfl) w
  · replace h := br_n q h
    refine lv_iconst (v := (0 : Int32)) hx hb dX8_isHeard_12 (by decide) ?_
    exact cw_zret cx (Or.inl rfl) (rt_e h) w dX8_isHeard_13
def hm_X8_heard_20  (P : PS) : Option (Int32 × PS) := some ((-1 : Int32), P)
def hm_X8_heard (P : PS) (th : Nat) (a1 : Int32) (a2 : Int32) (a3 : Int32) : Option (Int32 × PS) := bd (hm_X8_wordAt  P th a1) (fun o_202 P_201 => ck (kk P th 9) (nl o_202 (hm_X8_heard_20   P_201) (fun b_205 => bd (hm_X8_isOffer  P_201 a2 a3) (fun r_207 P_206 => if r_207 = (0 : Int32) then (hm_X8_heard_20   P_206) else (ck (kk P_206 th 9) (nn (pR P_206 th 4) (fun b_210 => bd (hm_X8_isHeard  P_206 th b_205 a2 a3 b_210) (fun r_212 P_211 => if r_212 = (0 : Int32) then (some ((0 : Int32), P_211)) else (some ((1 : Int32), P_211))))))))))
abbrev wu_X8_heard : List Cond := .code yX8_heard cX8_heard 5 (some .int) :: wsL_law
theorem ud_X8_heard : yX8_heard.cls = RX8 ∧ yX8_heard.cls ≠ "java/lang/invoke/MethodHandle" ∧ yX8_heard.cls ≠ "java/lang/invoke/VarHandle" ∧ (parseMethodDescriptor yX8_heard.desc).map (fun d => d.parameters.length) = some 3 := by decide +kernel
abbrev rmc_X8_heard : Room := { frames := 7, cells := 0, slots := 0, locals := 162 }
set_option maxHeartbeats 4000000 in
set_option maxRecDepth 100000 in
theorem hcc_X8_heard (l : Launch) (D : va_G) (cs : Nat → ClassId) (t0 : TS) (P0 T : PS) (th : Nat) (a1 : Int32) (a2 : Int32) (a3 : Int32) (r0 : Int32) (h : hm_X8_heard P0 th a1 a2 a3 = some (r0, T)) : MetCI l yX8_heard wu_X8_heard rmc_X8_heard D cs t0 [.ref th, .int a1, .int a2, .int a3] P0 T r0 0 0 := by
  refine co_start (own := RX8) (ty := (some .int)) (cc := cX8_heard) (maxL := 5) ⟨by decide, rfl⟩ rfl (Nat.le_of_ble_eq_true rfl) ?_
  intro p e s m args below meth c ls cx hnm hl w
  have hx := cx.1
  have hb := cx.2.1
  have hts := cx.2.2.2.1
  have hown := cx.2.2.2.2.1
  have hml := cx.2.2.2.2.2.2
  have hsub : ∀ w ∈ wsL_law, w ∈ wu_X8_heard := fun _ hq => List.mem_cons_of_mem _ hq
  have hl : lv_has ls 5 [(0, .ref th), (1, .int a1), (2, .int a2), (3, .int a3)] := hl
  have J20 : ∀  (P : PS), hm_X8_heard_20   P = some (r0, T) → cGo p l e rmc_X8_heard s m args below meth c 5 D cs t0 (pA P0) (cQI below D cs P0 args s 0 0 r0 T) 0 0 20 [] [] P := by
    intro  P h H locs ls hl w
    unfold hm_X8_heard_20 at h
    refine lv_iconst (v := (-1 : Int32)) hx hb dX8_heard_20 (by decide) ?_
    exact cw_iret cx (rt_e h) w dX8_heard_21
  have hP0 : P0 = P0 := rfl
  unfold hm_X8_heard at h
  refine lv_aload_n hx hb dX8_heard_0 rfl (lv_at hl 0 rfl) ?_
  refine lv_iload_n hx hb dX8_heard_1 rfl (lv_at hl 1 rfl) ?_
  replace h := bd_e h
  obtain ⟨o_202, P_201, hc_203, h⟩ := h
  replace h := ck_e h
  obtain ⟨hk_204, h⟩ := h
  refine cc_q (cr_V (As := [.int a1]) (rest := []) cx (hcc_X8_wordAt l D cs t0  P0 P_201 th a1 o_202 hc_203) kT9 hk_204 (cwV 1 hts (uG uw_X8_wordAt ul_RX8_95 ui_X8_wordAt us_RX8_X8_wordAt un_RX8) rfl rfl rfl ud_X8_wordAt ⟨Nat.le_of_ble_eq_true rfl, Nat.le_of_ble_eq_true rfl⟩) w rfl hl.1 rfl (Nat.le_of_ble_eq_true rfl) dX8_heard_2 ⟨(Nat.le_of_ble_eq_true rfl), (Nat.le_of_ble_eq_true rfl)⟩) (fun H locs w => ?_)
  refine lq_astore (lv' := [(4, va_rf o_202), (0, .ref th), (1, .int a1), (2, .int a2), (3, .int a3)]) hx hb dX8_heard_5 hl (by decide) (fun v hv => by subst hv; exact (rfl)) (fun ls hl => ?_)
  refine lq_aload hx hb dX8_heard_7 (lv_at hl 0 rfl) ?_
  cases o_202 with
  | none =>
    replace h := nl_n h
    have hl : lv_has ls 5 [(4, .null), (0, .ref th), (1, .int a1), (2, .int a2), (3, .int a3)] := hl
    refine lv_ifnullN (tgt := 20) hx hb dX8_heard_9 (by decide) ?_
    exact J20   P_201 h _ _ _ (lv_sub hl [] rfl) w
  | some b_205 =>
    replace h := nl_s h
    have hl : lv_has ls 5 [(4, .ref b_205), (0, .ref th), (1, .int a1), (2, .int a2), (3, .int a3)] := hl
    refine lv_ifnull hx hb dX8_heard_9 ?_
    refine lv_iload_n hx hb dX8_heard_12 rfl (lv_at hl 3 rfl) ?_
    refine lv_iload_n hx hb dX8_heard_13 rfl (lv_at hl 4 rfl) ?_
    replace h := bd_e h
    obtain ⟨r_207, P_206, hc_208, h⟩ := h
    refine cc_i (cr_S (As := [.int a2, .int a3]) (rest := []) cx (hcc_X8_isOffer l D cs t0  P_201 P_206 a2 a3 r_207 hc_208) (va_cwS 2 hts (uGS uw_X8_isOffer ul_RX8_166 ut_X8_isOffer un_RX8) rfl rfl rfl ud_X8_isOffer.2 ⟨Nat.le_of_ble_eq_true rfl, Nat.le_of_ble_eq_true rfl⟩) w rfl hl.1 rfl (Nat.le_of_ble_eq_true rfl) dX8_heard_14 ⟨(Nat.le_of_ble_eq_true rfl), (Nat.le_of_ble_eq_true rfl)⟩) (fun H locs w => ?_)
    refine lv_if_ne (tgt := 22) hx hb dX8_heard_17 (by decide) (fun q => ?_) (fun q => ?_)
    · replace h := br_n q h
      refine lv_aload_n hx hb dX8_heard_22 rfl (lv_at hl 1 rfl) ?_
      refine lv_aload hx hb dX8_heard_23 (lv_at hl 0 rfl) ?_
      refine lv_iload_n hx hb dX8_heard_25 rfl (lv_at hl 3 rfl) ?_
      refine lv_iload_n hx hb dX8_heard_26 rfl (lv_at hl 4 rfl) ?_
      refine lv_aload_n hx hb dX8_heard_27 rfl (lv_at hl 1 rfl) ?_
      replace h := ck_e h
      obtain ⟨hk_209, h⟩ := h
      replace h := nn_e h
      obtain ⟨b_210, hbb_210, h⟩ := h
      refine cw_getS cx hsub w kT9 hk_209 4 (by decide) hbb_210 ⟨hsub _ uf_RX8_37, Or.inl rfl⟩ dX8_heard_28 ?_
      replace h := bd_e h
      obtain ⟨r_212, P_211, hc_213, h⟩ := h
      refine cc_i (cr_V (As := [.ref b_205, .int a2, .int a3, .ref b_210]) (rest := []) cx (hcc_X8_isHeard l D cs t0  P_206 P_211 th b_205 a2 a3 b_210 r_212 hc_213) kT9 hk_209 (cwV 4 hts (uG uw_X8_isHeard ul_RX8_169 ui_X8_isHeard us_RX8_X8_isHeard un_RX8) rfl rfl rfl ud_X8_isHeard ⟨Nat.le_of_ble_eq_true rfl, Nat.le_of_ble_eq_true rfl⟩) w rfl hl.1 rfl (Nat.le_of_ble_eq_true rfl) dX8_heard_31 ⟨(Nat.le_of_ble_eq_true rfl), (Nat.le_of_ble_eq_true rfl)⟩) (fun H locs w => ?_)
      refine lv_if_eq (tgt := 41) hx hb dX8_heard_34 (by decide) (fun q => ?_) (fun q => ?_)
      · replace h := br_p q h
        refine lv_iconst (v := (0 : Int32)) hx hb dX8_heard_41 (by decide) ?_
        exact cw_iret cx (rt_e h) w dX8_heard_42
      · replace h := br_n q h
        refine lv_iconst (v := (1 : Int32)) hx hb dX8_heard_37 (by decide) ?_
        refine lv_goto (tgt := 42) hx hb dX8_heard_38 (by decide) ?_
        exact cw_iret cx (rt_e h) w dX8_heard_42
    · replace h := br_p q h
      exact J20   P_206 h _ _ _ (lv_sub hl [] rfl) w
def hm_X8_heardToPartsEnd_75 (k6 : Nat → Int32 → Int32 → Nat → Int32 → Int32 → PS → Option (Int32 × PS)) (o0 : Nat) (x1 : Int32) (x2 : Int32) (o3 : Nat) (x4 : Int32) (x5 : Int32) (P : PS) : Option (Int32 × PS) := lt_ (x5 + (1 : Int32)) (fun x5_101 => k6 o0 x1 x2 o3 x4 x5_101 P)
def hm_X8_heardToPartsEnd_6 (k6 : Nat → Int32 → Int32 → Nat → Int32 → Int32 → PS → Option (Int32 × PS)) (o0 : Nat) (x1 : Int32) (x2 : Int32) (o3 : Nat) (x4 : Int32) (x5 : Int32) (P : PS) : Option (Int32 × PS) := ck (kk P o0 9) (nn (pR P o0 1) (fun b_203 => bd (hm_Jx4a65c_size_8abf5  P b_203) (fun r_205 P_204 => ck (kk P b_203 0) (if r_205 ≤ x5 then (some (x4, P_204)) else (ck (kk P_204 o0 9) (nn (pR P_204 o0 1) (fun b_209 => bd (hm_Jx4a65c_get_915e3  P_204 b_209 x5) (fun o_211 P_210 => ck (kk P_204 b_209 0) (nn o_211 (fun b_214 => ck (kk P_210 b_214 8) (bd (hm_X8_has  P_210 x1 x5) (fun r_217 P_216 => if r_217 = (0 : Int32) then (hm_X8_heardToPartsEnd_75 k6 o0 x1 x2 o3 x4 x5 P_216) else (ck (kk P_216 b_214 8) (if ((pI P_216 b_214 6) &&& (x4 ^^^ (-1 : Int32))) = (0 : Int32) then (bd (hm_X8_keeper  P_216 o0 b_214 (0 : Int32) x2 o3) (fun r_221 P_220 => ck (kk P_216 o0 9) (if (0 : Int32) ≤ r_221 then (hm_X8_heardToPartsEnd_75 k6 o0 x1 x2 o3 x4 x5 P_220) else (lt_ ((x4 ||| ((1 : Int32) <<< (x5 &&& 31)))) (fun x4_224 => hm_X8_heardToPartsEnd_75 k6 o0 x1 x2 o3 x4_224 x5 P_220))))) else (hm_X8_heardToPartsEnd_75 k6 o0 x1 x2 o3 x4 x5 P_216)))))))))))))))
def hm_X8_heardToPartsEnd_6L : Nat → Nat → Int32 → Int32 → Nat → Int32 → Int32 → PS → Option (Int32 × PS)
  | 0, _, _, _, _, _, _, _ => none
  | n + 1, o0, x1, x2, o3, x4, x5, P => hm_X8_heardToPartsEnd_6  (hm_X8_heardToPartsEnd_6L  n) o0 x1 x2 o3 x4 x5 P
def hm_X8_heardToPartsEnd (P : PS) (th : Nat) (a1 : Int32) (a2 : Int32) (a3 : Nat) : Option (Int32 × PS) := lt_ ((0 : Int32)) (fun x4_325 => lt_ ((0 : Int32)) (fun x5_326 => hm_X8_heardToPartsEnd_6L  4000 th a1 a2 a3 x4_325 x5_326 P))
abbrev wu_X8_heardToPartsEnd : List Cond := .code yX8_heardToPartsEnd cX8_heardToPartsEnd 7 (some .int) :: wsL_law
theorem ud_X8_heardToPartsEnd : yX8_heardToPartsEnd.cls = RX8 ∧ yX8_heardToPartsEnd.cls ≠ "java/lang/invoke/MethodHandle" ∧ yX8_heardToPartsEnd.cls ≠ "java/lang/invoke/VarHandle" ∧ (parseMethodDescriptor yX8_heardToPartsEnd.desc).map (fun d => d.parameters.length) = some 3 := by decide +kernel
abbrev rmc_X8_heardToPartsEnd : Room := { frames := 6, cells := 0, slots := 0, locals := 136 }
set_option maxHeartbeats 4000000 in
set_option maxRecDepth 100000 in
theorem hcc_X8_heardToPartsEnd (l : Launch) (D : va_G) (cs : Nat → ClassId) (t0 : TS) (P0 T : PS) (th : Nat) (a1 : Int32) (a2 : Int32) (a3 : Nat) (r0 : Int32) (h : hm_X8_heardToPartsEnd P0 th a1 a2 a3 = some (r0, T)) : MetCI l yX8_heardToPartsEnd wu_X8_heardToPartsEnd rmc_X8_heardToPartsEnd D cs t0 [.ref th, .int a1, .int a2, .ref a3] P0 T r0 0 0 := by
  refine co_start (own := RX8) (ty := (some .int)) (cc := cX8_heardToPartsEnd) (maxL := 7) ⟨by decide, rfl⟩ rfl (Nat.le_of_ble_eq_true rfl) ?_
  intro p e s m args below meth c ls cx hnm hl w
  have hx := cx.1
  have hb := cx.2.1
  have hts := cx.2.2.2.1
  have hown := cx.2.2.2.2.1
  have hml := cx.2.2.2.2.2.2
  have hsub : ∀ w ∈ wsL_law, w ∈ wu_X8_heardToPartsEnd := fun _ hq => List.mem_cons_of_mem _ hq
  have hl : lv_has ls 7 [(0, .ref th), (1, .int a1), (2, .int a2), (3, .ref a3)] := hl
  have J75 : ∀ (k6 : Nat → Int32 → Int32 → Nat → Int32 → Int32 → PS → Option (Int32 × PS)) (hk6 : ∀ (o0 : Nat) (x1 : Int32) (x2 : Int32) (o3 : Nat) (x4 : Int32) (x5 : Int32) (P : PS), k6 o0 x1 x2 o3 x4 x5 P = some (r0, T) → cGo p l e rmc_X8_heardToPartsEnd s m args below meth c 7 D cs t0 (pA P0) (cQI below D cs P0 args s 0 0 r0 T) 0 0 6 [(0, .ref o0), (1, .int x1), (2, .int x2), (3, .ref o3), (4, .int x4), (5, .int x5)] [] P) (o0 : Nat) (x1 : Int32) (x2 : Int32) (o3 : Nat) (x4 : Int32) (x5 : Int32) (P : PS), hm_X8_heardToPartsEnd_75 k6 o0 x1 x2 o3 x4 x5 P = some (r0, T) → cGo p l e rmc_X8_heardToPartsEnd s m args below meth c 7 D cs t0 (pA P0) (cQI below D cs P0 args s 0 0 r0 T) 0 0 75 [(0, .ref o0), (1, .int x1), (2, .int x2), (3, .ref o3), (4, .int x4), (5, .int x5)] [] P := by
    intro k6 hk6 o0 x1 x2 o3 x4 x5 P h H locs ls hl w
    unfold hm_X8_heardToPartsEnd_75 at h
    replace h := lt_e h
    obtain ⟨x5_101, ex5_101, h⟩ := h
    refine lv_iinc (v := x5_101) (lv' := [(5, .int x5_101), (0, .ref o0), (1, .int x1), (2, .int x2), (3, .ref o3), (4, .int x4)]) hx hb dX8_heardToPartsEnd_75 hl (k := 5) rfl (by rw [ex5_101]; rfl) (by decide) (rfl) (fun ls hl => ?_)
    refine lv_goto (tgt := 6) hx hb dX8_heardToPartsEnd_78 (by decide) ?_
    exact hk6 o0 x1 x2 o3 x4 x5_101 P h _ _ _ (lv_sub hl [1, 2, 3, 4, 5, 0] rfl) w
  have L6 : ∀ (n : Nat) (o0 : Nat) (x1 : Int32) (x2 : Int32) (o3 : Nat) (x4 : Int32) (x5 : Int32) (P : PS), hm_X8_heardToPartsEnd_6L  n o0 x1 x2 o3 x4 x5 P = some (r0, T) → cGo p l e rmc_X8_heardToPartsEnd s m args below meth c 7 D cs t0 (pA P0) (cQI below D cs P0 args s 0 0 r0 T) 0 0 6 [(0, .ref o0), (1, .int x1), (2, .int x2), (3, .ref o3), (4, .int x4), (5, .int x5)] [] P := by
    intro n
    induction n with
    | zero =>
      intro o0 x1 x2 o3 x4 x5 P h
      have h : none = some (r0, T) := h
      cases h
    | succ n hk6 =>
      intro o0 x1 x2 o3 x4 x5 P h H locs ls hl w
      have h : hm_X8_heardToPartsEnd_6  (hm_X8_heardToPartsEnd_6L  n) o0 x1 x2 o3 x4 x5 P = some (r0, T) := h
      generalize hm_X8_heardToPartsEnd_6L  n = k6 at h hk6
      unfold hm_X8_heardToPartsEnd_6 at h
      refine lv_iload hx hb dX8_heardToPartsEnd_6 (lv_at hl 5 rfl) ?_
      refine lv_aload_n hx hb dX8_heardToPartsEnd_8 rfl (lv_at hl 0 rfl) ?_
      replace h := ck_e h
      obtain ⟨hk_202, h⟩ := h
      replace h := nn_e h
      obtain ⟨b_203, hbb_203, h⟩ := h
      refine cw_getS cx hsub w kT9 hk_202 1 (by decide) hbb_203 ⟨hsub _ uf_RX8_20, Or.inl rfl⟩ dX8_heardToPartsEnd_9 ?_
      replace h := bd_e h
      obtain ⟨r_205, P_204, hc_206, h⟩ := h
      replace h := ck_e h
      obtain ⟨hk_207, h⟩ := h
      refine cc_i (cr_V (As := []) (rest := [.int x5]) cx (hcc_Jx4a65c_size_8abf5 l D cs t0  P P_204 b_203 r_205 hc_206) kT0 hk_207 (cwV 0 hts (uG uw_Jx4a65c_size_8abf5 ul_RX8_80 ui_Jx4a65c_size_8abf5 us_RJx4a65c_Jx4a65c_size_8abf5 un_RJx4a65c) rfl rfl rfl ud_Jx4a65c_size_8abf5 ⟨Nat.le_of_ble_eq_true rfl, Nat.le_of_ble_eq_true rfl⟩) w rfl hl.1 rfl (Nat.le_of_ble_eq_true rfl) dX8_heardToPartsEnd_12 ⟨(Nat.le_of_ble_eq_true rfl), (Nat.le_of_ble_eq_true rfl)⟩) (fun H locs w => ?_)
      refine lv_icmp_ge (tgt := 81) hx hb dX8_heardToPartsEnd_15 (by decide) (fun q => ?_) (fun q => ?_)
      · replace h := br_p q h
        refine lv_iload hx hb dX8_heardToPartsEnd_81 (lv_at hl 4 rfl) ?_
        exact cw_iret cx (rt_e h) w dX8_heardToPartsEnd_83
      · replace h := br_n q h
        refine lv_aload_n hx hb dX8_heardToPartsEnd_18 rfl (lv_at hl 0 rfl) ?_
        replace h := ck_e h
        obtain ⟨hk_208, h⟩ := h
        replace h := nn_e h
        obtain ⟨b_209, hbb_209, h⟩ := h
        refine cw_getS cx hsub w kT9 hk_208 1 (by decide) hbb_209 ⟨hsub _ uf_RX8_20, Or.inl rfl⟩ dX8_heardToPartsEnd_19 ?_
        refine lv_iload hx hb dX8_heardToPartsEnd_22 (lv_at hl 5 rfl) ?_
        replace h := bd_e h
        obtain ⟨o_211, P_210, hc_212, h⟩ := h
        replace h := ck_e h
        obtain ⟨hk_213, h⟩ := h
        refine cc_q (cr_V (As := [.int x5]) (rest := []) cx (hcc_Jx4a65c_get_915e3 l D cs t0  P_204 P_210 b_209 x5 o_211 hc_212) kT0 hk_213 (cwV 1 hts (uG uw_Jx4a65c_get_915e3 ul_RX8_220 ui_Jx4a65c_get_915e3 us_RJx4a65c_Jx4a65c_get_915e3 un_RJx4a65c) rfl rfl rfl ud_Jx4a65c_get_915e3 ⟨Nat.le_of_ble_eq_true rfl, Nat.le_of_ble_eq_true rfl⟩) w rfl hl.1 rfl (Nat.le_of_ble_eq_true rfl) dX8_heardToPartsEnd_24 ⟨(Nat.le_of_ble_eq_true rfl), (Nat.le_of_ble_eq_true rfl)⟩) (fun H locs w => ?_)
        replace h := nn_e h
        obtain ⟨b_214, hbb_214, h⟩ := h
        subst hbb_214
        have hl : lv_has ls 7 [(0, .ref o0), (1, .int x1), (2, .int x2), (3, .ref o3), (4, .int x4), (5, .int x5)] := hl
        refine W.eq (g2 := F0 m _ ls [.ref b_214]) rfl ?_
        replace h := ck_e h
        obtain ⟨hk_215, h⟩ := h
        refine cw_cast cx w kT8 hk_215 (hsub _ ucl_RX8_84) dX8_heardToPartsEnd_27 ?_
        refine lv_astore (lv' := [(6, .ref b_214), (0, .ref o0), (1, .int x1), (2, .int x2), (3, .ref o3), (4, .int x4), (5, .int x5)]) hx hb dX8_heardToPartsEnd_30 hl (by decide) (rfl) (fun ls hl => ?_)
        refine lv_iload_n hx hb dX8_heardToPartsEnd_32 rfl (lv_at hl 2 rfl) ?_
        refine lv_iload hx hb dX8_heardToPartsEnd_33 (lv_at hl 6 rfl) ?_
        replace h := bd_e h
        obtain ⟨r_217, P_216, hc_218, h⟩ := h
        refine cc_i (cr_S (As := [.int x1, .int x5]) (rest := []) cx (hcc_X8_has l D cs t0  P_210 P_216 x1 x5 r_217 hc_218) (va_cwS 2 hts (uGS uw_X8_has ul_RX8_105 ut_X8_has un_RX8) rfl rfl rfl ud_X8_has.2 ⟨Nat.le_of_ble_eq_true rfl, Nat.le_of_ble_eq_true rfl⟩) w rfl hl.1 rfl (Nat.le_of_ble_eq_true rfl) dX8_heardToPartsEnd_35 ⟨(Nat.le_of_ble_eq_true rfl), (Nat.le_of_ble_eq_true rfl)⟩) (fun H locs w => ?_)
        refine lv_if_eq (tgt := 75) hx hb dX8_heardToPartsEnd_38 (by decide) (fun q => ?_) (fun q => ?_)
        · replace h := br_p q h
          exact J75 k6 hk6 o0 x1 x2 o3 x4 x5 P_216 h _ _ _ (lv_sub hl [1, 2, 3, 4, 5, 6] rfl) w
        · replace h := br_n q h
          refine lv_aload hx hb dX8_heardToPartsEnd_41 (lv_at hl 0 rfl) ?_
          replace h := ck_e h
          obtain ⟨hk_219, h⟩ := h
          refine cw_getI cx hsub w kT8 hk_219 6 (by decide) ⟨hsub _ uf_RX8_102, Or.inl rfl⟩ dX8_heardToPartsEnd_43 ?_
          refine lv_iload hx hb dX8_heardToPartsEnd_46 (lv_at hl 5 rfl) ?_
          refine lv_iconst (v := (-1 : Int32)) hx hb dX8_heardToPartsEnd_48 (by decide) ?_
          refine lv_ixor hx hb dX8_heardToPartsEnd_49 ?_
          refine lv_iand hx hb dX8_heardToPartsEnd_50 ?_
          refine lv_if_ne (tgt := 75) hx hb dX8_heardToPartsEnd_51 (by decide) (fun q => ?_) (fun q => ?_)
          · replace h := br_n q h
            exact J75 k6 hk6 o0 x1 x2 o3 x4 x5 P_216 h _ _ _ (lv_sub hl [1, 2, 3, 4, 5, 6] rfl) w
          · replace h := br_p q h
            refine lv_aload_n hx hb dX8_heardToPartsEnd_54 rfl (lv_at hl 1 rfl) ?_
            refine lv_aload hx hb dX8_heardToPartsEnd_55 (lv_at hl 0 rfl) ?_
            refine lv_iconst (v := (0 : Int32)) hx hb dX8_heardToPartsEnd_57 (by decide) ?_
            refine lv_iload_n hx hb dX8_heardToPartsEnd_58 rfl (lv_at hl 3 rfl) ?_
            refine lv_aload_n hx hb dX8_heardToPartsEnd_59 rfl (lv_at hl 4 rfl) ?_
            replace h := bd_e h
            obtain ⟨r_221, P_220, hc_222, h⟩ := h
            replace h := ck_e h
            obtain ⟨hk_223, h⟩ := h
            refine cc_i (cr_V (As := [.ref b_214, .int (0 : Int32), .int x2, .ref o3]) (rest := []) cx (hcc_X8_keeper l D cs t0  P_216 P_220 o0 b_214 (0 : Int32) x2 o3 r_221 hc_222) kT9 hk_223 (cwV 4 hts (uG uw_X8_keeper ul_RX8_173 ui_X8_keeper us_RX8_X8_keeper un_RX8) rfl rfl rfl ud_X8_keeper ⟨Nat.le_of_ble_eq_true rfl, Nat.le_of_ble_eq_true rfl⟩) w rfl hl.1 rfl (Nat.le_of_ble_eq_true rfl) dX8_heardToPartsEnd_60 ⟨(Nat.le_of_ble_eq_true rfl), (Nat.le_of_ble_eq_true rfl)⟩) (fun H locs w => ?_)
            refine lv_if_ge (tgt := 75) hx hb dX8_heardToPartsEnd_63 (by decide) (fun q => ?_) (fun q => ?_)
            · replace h := br_p q h
              exact J75 k6 hk6 o0 x1 x2 o3 x4 x5 P_220 h _ _ _ (lv_sub hl [1, 2, 3, 4, 5, 6] rfl) w
            · replace h := br_n q h
              refine lv_iload hx hb dX8_heardToPartsEnd_66 (lv_at hl 5 rfl) ?_
              refine lv_iconst (v := (1 : Int32)) hx hb dX8_heardToPartsEnd_68 (by decide) ?_
              refine lv_iload hx hb dX8_heardToPartsEnd_69 (lv_at hl 6 rfl) ?_
              refine lv_ishl hx hb dX8_heardToPartsEnd_71 ?_
              refine lv_ior hx hb dX8_heardToPartsEnd_72 ?_
              replace h := lt_e h
              obtain ⟨x4_224, ex4_224, h⟩ := h
              refine top_i ex4_224 ?_
              refine lv_istore (lv' := [(4, .int x4_224), (6, .ref b_214), (0, .ref o0), (1, .int x1), (2, .int x2), (3, .ref o3), (5, .int x5)]) hx hb dX8_heardToPartsEnd_73 hl (by decide) (rfl) (fun ls hl => ?_)
              exact J75 k6 hk6 o0 x1 x2 o3 x4_224 x5 P_220 h _ _ _ (lv_sub hl [2, 3, 4, 5, 0, 6] rfl) w
  have hP0 : P0 = P0 := rfl
  unfold hm_X8_heardToPartsEnd at h
  refine lv_iconst (v := (0 : Int32)) hx hb dX8_heardToPartsEnd_0 (by decide) ?_
  replace h := lt_e h
  obtain ⟨x4_325, ex4_325, h⟩ := h
  refine top_i ex4_325 ?_
  refine lv_istore (lv' := [(4, .int x4_325), (0, .ref th), (1, .int a1), (2, .int a2), (3, .ref a3)]) hx hb dX8_heardToPartsEnd_1 hl (by decide) (rfl) (fun ls hl => ?_)
  refine lv_iconst (v := (0 : Int32)) hx hb dX8_heardToPartsEnd_3 (by decide) ?_
  replace h := lt_e h
  obtain ⟨x5_326, ex5_326, h⟩ := h
  refine top_i ex5_326 ?_
  refine lv_istore (lv' := [(5, .int x5_326), (4, .int x4_325), (0, .ref th), (1, .int a1), (2, .int a2), (3, .ref a3)]) hx hb dX8_heardToPartsEnd_4 hl (by decide) (rfl) (fun ls hl => ?_)
  exact L6  4000 th a1 a2 a3 x4_325 x5_326 P0 h _ _ _ (lv_sub hl [2, 3, 4, 5, 1, 0] rfl) w
def hm_X8_firstUnheard_2 (k2 : Nat → Int32 → Int32 → PS → Option (Option Nat × PS)) (o0 : Nat) (x1 : Int32) (x2 : Int32) (P : PS) : Option (Option Nat × PS) := ck (kk P o0 8) (nn (pR P o0 5) (fun b_102 => bd (hm_Jx4a65c_size_8abf5  P b_102) (fun r_104 P_103 => ck (kk P b_102 0) (if r_104 ≤ x2 then (some (none, P_103)) else (ck (kk P_103 o0 8) (nn (pR P_103 o0 5) (fun b_108 => bd (hm_Jx4a65c_get_915e3  P_103 b_108 x2) (fun o_110 P_109 => ck (kk P_103 b_108 0) (nn o_110 (fun b_113 => ck (kk P_109 b_113 8) (bd (hm_X8_has  P_109 x1 (pI P_109 b_113 0)) (fun r_116 P_115 => if r_116 = (0 : Int32) then (some ((some b_113), P_115)) else (lt_ (x2 + (1 : Int32)) (fun x2_118 => k2 o0 x1 x2_118 P_115))))))))))))))
def hm_X8_firstUnheard_2L : Nat → Nat → Int32 → Int32 → PS → Option (Option Nat × PS)
  | 0, _, _, _, _ => none
  | n + 1, o0, x1, x2, P => hm_X8_firstUnheard_2  (hm_X8_firstUnheard_2L  n) o0 x1 x2 P
def hm_X8_firstUnheard (P : PS) (a1 : Nat) (a2 : Int32) : Option (Option Nat × PS) := lt_ ((0 : Int32)) (fun x2_219 => hm_X8_firstUnheard_2L  4000 a1 a2 x2_219 P)
abbrev wu_X8_firstUnheard : List Cond := .code yX8_firstUnheard cX8_firstUnheard 4 (some (.object "HeardWords$Word")) :: wsL_law
theorem ud_X8_firstUnheard : yX8_firstUnheard.cls = RX8 ∧ yX8_firstUnheard.cls ≠ "java/lang/invoke/MethodHandle" ∧ yX8_firstUnheard.cls ≠ "java/lang/invoke/VarHandle" ∧ (parseMethodDescriptor yX8_firstUnheard.desc).map (fun d => d.parameters.length) = some 2 := by decide +kernel
abbrev rmc_X8_firstUnheard : Room := { frames := 3, cells := 0, slots := 0, locals := 64 }
set_option maxHeartbeats 4000000 in
set_option maxRecDepth 100000 in
theorem hcc_X8_firstUnheard (l : Launch) (D : va_G) (cs : Nat → ClassId) (t0 : TS) (P0 T : PS) (a1 : Nat) (a2 : Int32) (r0 : Option Nat) (h : hm_X8_firstUnheard P0 a1 a2 = some (r0, T)) : MetCQ l yX8_firstUnheard wu_X8_firstUnheard rmc_X8_firstUnheard D cs t0 [.ref a1, .int a2] P0 T r0 0 0 := by
  refine co_start (own := RX8) (ty := (some (.object "HeardWords$Word"))) (cc := cX8_firstUnheard) (maxL := 4) ⟨by decide, rfl⟩ rfl (Nat.le_of_ble_eq_true rfl) ?_
  intro p e s m args below meth c ls cx hnm hl w
  have hx := cx.1
  have hb := cx.2.1
  have hts := cx.2.2.2.1
  have hown := cx.2.2.2.2.1
  have hml := cx.2.2.2.2.2.2
  have hsub : ∀ w ∈ wsL_law, w ∈ wu_X8_firstUnheard := fun _ hq => List.mem_cons_of_mem _ hq
  have hl : lv_has ls 4 [(0, .ref a1), (1, .int a2)] := hl
  have L2 : ∀ (n : Nat) (o0 : Nat) (x1 : Int32) (x2 : Int32) (P : PS), hm_X8_firstUnheard_2L  n o0 x1 x2 P = some (r0, T) → cGo p l e rmc_X8_firstUnheard s m args below meth c 4 D cs t0 (pA P0) (cQQ below D cs P0 args s 0 0 r0 T) 0 0 2 [(0, .ref o0), (1, .int x1), (2, .int x2)] [] P := by
    intro n
    induction n with
    | zero =>
      intro o0 x1 x2 P h
      have h : none = some (r0, T) := h
      cases h
    | succ n hk2 =>
      intro o0 x1 x2 P h H locs ls hl w
      have h : hm_X8_firstUnheard_2  (hm_X8_firstUnheard_2L  n) o0 x1 x2 P = some (r0, T) := h
      generalize hm_X8_firstUnheard_2L  n = k2 at h hk2
      unfold hm_X8_firstUnheard_2 at h
      refine lv_iload_n hx hb dX8_firstUnheard_2 rfl (lv_at hl 2 rfl) ?_
      refine lv_aload_n hx hb dX8_firstUnheard_3 rfl (lv_at hl 0 rfl) ?_
      replace h := ck_e h
      obtain ⟨hk_101, h⟩ := h
      replace h := nn_e h
      obtain ⟨b_102, hbb_102, h⟩ := h
      refine cw_getS cx hsub w kT8 hk_101 5 (by decide) hbb_102 ⟨hsub _ uf_RX8_108, Or.inl rfl⟩ dX8_firstUnheard_4 ?_
      replace h := bd_e h
      obtain ⟨r_104, P_103, hc_105, h⟩ := h
      replace h := ck_e h
      obtain ⟨hk_106, h⟩ := h
      refine cc_i (cr_V (As := []) (rest := [.int x2]) cx (hcc_Jx4a65c_size_8abf5 l D cs t0  P P_103 b_102 r_104 hc_105) kT0 hk_106 (cwV 0 hts (uG uw_Jx4a65c_size_8abf5 ul_RX8_80 ui_Jx4a65c_size_8abf5 us_RJx4a65c_Jx4a65c_size_8abf5 un_RJx4a65c) rfl rfl rfl ud_Jx4a65c_size_8abf5 ⟨Nat.le_of_ble_eq_true rfl, Nat.le_of_ble_eq_true rfl⟩) w rfl hl.1 rfl (Nat.le_of_ble_eq_true rfl) dX8_firstUnheard_7 ⟨(Nat.le_of_ble_eq_true rfl), (Nat.le_of_ble_eq_true rfl)⟩) (fun H locs w => ?_)
      refine lv_icmp_ge (tgt := 44) hx hb dX8_firstUnheard_10 (by decide) (fun q => ?_) (fun q => ?_)
      · replace h := br_p q h
        refine lv_null hx hb dX8_firstUnheard_44 ?_
        exact cw_aret cx (by first | exact Or.inl ⟨_, rfl⟩ | exact Or.inr ⟨_, rfl⟩) (v := none) (rt_e h) w dX8_firstUnheard_45
      · replace h := br_n q h
        refine lv_aload_n hx hb dX8_firstUnheard_13 rfl (lv_at hl 0 rfl) ?_
        replace h := ck_e h
        obtain ⟨hk_107, h⟩ := h
        replace h := nn_e h
        obtain ⟨b_108, hbb_108, h⟩ := h
        refine cw_getS cx hsub w kT8 hk_107 5 (by decide) hbb_108 ⟨hsub _ uf_RX8_108, Or.inl rfl⟩ dX8_firstUnheard_14 ?_
        refine lv_iload_n hx hb dX8_firstUnheard_17 rfl (lv_at hl 2 rfl) ?_
        replace h := bd_e h
        obtain ⟨o_110, P_109, hc_111, h⟩ := h
        replace h := ck_e h
        obtain ⟨hk_112, h⟩ := h
        refine cc_q (cr_V (As := [.int x2]) (rest := []) cx (hcc_Jx4a65c_get_915e3 l D cs t0  P_103 P_109 b_108 x2 o_110 hc_111) kT0 hk_112 (cwV 1 hts (uG uw_Jx4a65c_get_915e3 ul_RX8_220 ui_Jx4a65c_get_915e3 us_RJx4a65c_Jx4a65c_get_915e3 un_RJx4a65c) rfl rfl rfl ud_Jx4a65c_get_915e3 ⟨Nat.le_of_ble_eq_true rfl, Nat.le_of_ble_eq_true rfl⟩) w rfl hl.1 rfl (Nat.le_of_ble_eq_true rfl) dX8_firstUnheard_18 ⟨(Nat.le_of_ble_eq_true rfl), (Nat.le_of_ble_eq_true rfl)⟩) (fun H locs w => ?_)
        replace h := nn_e h
        obtain ⟨b_113, hbb_113, h⟩ := h
        subst hbb_113
        have hl : lv_has ls 4 [(0, .ref o0), (1, .int x1), (2, .int x2)] := hl
        refine W.eq (g2 := F0 m _ ls [.ref b_113]) rfl ?_
        replace h := ck_e h
        obtain ⟨hk_114, h⟩ := h
        refine cw_cast cx w kT8 hk_114 (hsub _ ucl_RX8_84) dX8_firstUnheard_21 ?_
        refine lv_astore_n (lv' := [(3, .ref b_113), (0, .ref o0), (1, .int x1), (2, .int x2)]) hx hb dX8_firstUnheard_24 rfl hl (by decide) (rfl) (fun ls hl => ?_)
        refine lv_iload_n hx hb dX8_firstUnheard_25 rfl (lv_at hl 2 rfl) ?_
        refine lv_aload_n hx hb dX8_firstUnheard_26 rfl (lv_at hl 0 rfl) ?_
        refine cw_getI cx hsub w kT8 hk_114 0 (by decide) ⟨hsub _ uf_RX8_127, Or.inl rfl⟩ dX8_firstUnheard_27 ?_
        replace h := bd_e h
        obtain ⟨r_116, P_115, hc_117, h⟩ := h
        refine cc_i (cr_S (As := [.int x1, .int (pI P_109 b_113 0)]) (rest := []) cx (hcc_X8_has l D cs t0  P_109 P_115 x1 (pI P_109 b_113 0) r_116 hc_117) (va_cwS 2 hts (uGS uw_X8_has ul_RX8_105 ut_X8_has un_RX8) rfl rfl rfl ud_X8_has.2 ⟨Nat.le_of_ble_eq_true rfl, Nat.le_of_ble_eq_true rfl⟩) w rfl hl.1 rfl (Nat.le_of_ble_eq_true rfl) dX8_firstUnheard_30 ⟨(Nat.le_of_ble_eq_true rfl), (Nat.le_of_ble_eq_true rfl)⟩) (fun H locs w => ?_)
        refine lv_if_ne (tgt := 38) hx hb dX8_firstUnheard_33 (by decide) (fun q => ?_) (fun q => ?_)
        · replace h := br_n q h
          replace h := lt_e h
          obtain ⟨x2_118, ex2_118, h⟩ := h
          refine lv_iinc (v := x2_118) (lv' := [(2, .int x2_118), (3, .ref b_113), (0, .ref o0), (1, .int x1)]) hx hb dX8_firstUnheard_38 hl (k := 3) rfl (by rw [ex2_118]; rfl) (by decide) (rfl) (fun ls hl => ?_)
          refine lv_goto (tgt := 2) hx hb dX8_firstUnheard_41 (by decide) ?_
          exact hk2 o0 x1 x2_118 P_115 h _ _ _ (lv_sub hl [2, 3, 0] rfl) w
        · replace h := br_p q h
          refine lv_aload_n hx hb dX8_firstUnheard_36 rfl (lv_at hl 0 rfl) ?_
          exact cw_aret cx (by first | exact Or.inl ⟨_, rfl⟩ | exact Or.inr ⟨_, rfl⟩) (v := (some b_113)) (rt_e h) w dX8_firstUnheard_37
  have hP0 : P0 = P0 := rfl
  unfold hm_X8_firstUnheard at h
  refine lv_iconst (v := (0 : Int32)) hx hb dX8_firstUnheard_0 (by decide) ?_
  replace h := lt_e h
  obtain ⟨x2_219, ex2_219, h⟩ := h
  refine top_i ex2_219 ?_
  refine lv_istore_n (lv' := [(2, .int x2_219), (0, .ref a1), (1, .int a2)]) hx hb dX8_firstUnheard_1 rfl hl (by decide) (rfl) (fun ls hl => ?_)
  exact L2  4000 a1 a2 x2_219 P0 h _ _ _ (lv_sub hl [1, 2, 0] rfl) w
def hm_X8_why_20  (P : PS) : Option (Int32 × PS) := some ((-1 : Int32), P)
def hm_X8_why_138  (P : PS) : Option (Int32 × PS) := some ((-5 : Int32), P)
def hm_X8_why_72 (k72 : Nat → Int32 → Int32 → Nat → Int32 → Int32 → PS → Option (Int32 × PS)) (o0 : Nat) (x2 : Int32) (x3 : Int32) (o4 : Nat) (x6 : Int32) (x7 : Int32) (P : PS) : Option (Int32 × PS) := if (14 : Int32) ≤ x7 then (hm_X8_why_138   P) else (if x2 = (1 : Int32) then (hm_X8_why_138   P) else (bd (hm_X8_firstUnheard  P o4 x6) (fun o_302 P_301 => nl o_302 (some ((-5 : Int32), P_301)) (fun b_304 => ck (kk P_301 o0 9) (nn (pR P_301 o0 4) (fun b_306 => bd (hm_X8_keeper  P_301 o0 b_304 (0 : Int32) x3 b_306) (fun r_308 P_307 => if r_308 < (0 : Int32) then (lt_ (x7 + (1 : Int32)) (fun x7_310 => k72 o0 x2 x3 b_304 x6 x7_310 P_307)) else (ck (kk P_307 b_304 8) (some ((((100 : Int32) * (pI P_307 b_304 0)) + r_308), P_307))))))))))
def hm_X8_why_72L : Nat → Nat → Int32 → Int32 → Nat → Int32 → Int32 → PS → Option (Int32 × PS)
  | 0, _, _, _, _, _, _, _ => none
  | n + 1, o0, x2, x3, o4, x6, x7, P => hm_X8_why_72  (hm_X8_why_72L  n) o0 x2 x3 o4 x6 x7 P
def hm_X8_why (P : PS) (th : Nat) (a1 : Int32) (a2 : Int32) (a3 : Int32) : Option (Int32 × PS) := bd (hm_X8_wordAt  P th a1) (fun o_413 P_412 => ck (kk P th 9) (nl o_413 (hm_X8_why_20   P_412) (fun b_416 => bd (hm_X8_isOffer  P_412 a2 a3) (fun r_418 P_417 => if r_418 = (0 : Int32) then (hm_X8_why_20   P_417) else (ck (kk P_417 th 9) (nn (pR P_417 th 4) (fun b_421 => bd (hm_X8_keeper  P_417 th b_416 a2 a3 b_421) (fun r_423 P_422 => if r_423 < (0 : Int32) then (ck (kk P_422 b_416 8) (bd (hm_X8_withParts  P_422 th (pI P_422 b_416 6)) (fun r_427 P_426 => ck (kk P_422 th 9) (ck (kk P_426 th 9) (nn (pR P_426 th 4) (fun b_431 => bd (hm_X8_heardToPartsEnd  P_426 th r_427 a3 b_431) (fun r_433 P_432 => lt_ ((0 : Int32)) (fun x7_435 => hm_X8_why_72L  4000 th a2 a3 b_416 r_433 x7_435 P_432)))))))) else (some ((((100 : Int32) * a1) + r_423), P_422))))))))))
abbrev wu_X8_why : List Cond := .code yX8_why cX8_why 8 (some .int) :: wsL_law
theorem ud_X8_why : yX8_why.cls = RX8 ∧ yX8_why.cls ≠ "java/lang/invoke/MethodHandle" ∧ yX8_why.cls ≠ "java/lang/invoke/VarHandle" ∧ (parseMethodDescriptor yX8_why.desc).map (fun d => d.parameters.length) = some 3 := by decide +kernel
abbrev rmc_X8_why : Room := { frames := 7, cells := 0, slots := 0, locals := 162 }
set_option maxHeartbeats 4000000 in
set_option maxRecDepth 100000 in
theorem hcc_X8_why (l : Launch) (D : va_G) (cs : Nat → ClassId) (t0 : TS) (P0 T : PS) (th : Nat) (a1 : Int32) (a2 : Int32) (a3 : Int32) (r0 : Int32) (h : hm_X8_why P0 th a1 a2 a3 = some (r0, T)) : MetCI l yX8_why wu_X8_why rmc_X8_why D cs t0 [.ref th, .int a1, .int a2, .int a3] P0 T r0 0 0 := by
  refine co_start (own := RX8) (ty := (some .int)) (cc := cX8_why) (maxL := 8) ⟨by decide, rfl⟩ rfl (Nat.le_of_ble_eq_true rfl) ?_
  intro p e s m args below meth c ls cx hnm hl w
  have hx := cx.1
  have hb := cx.2.1
  have hts := cx.2.2.2.1
  have hown := cx.2.2.2.2.1
  have hml := cx.2.2.2.2.2.2
  have hsub : ∀ w ∈ wsL_law, w ∈ wu_X8_why := fun _ hq => List.mem_cons_of_mem _ hq
  have hl : lv_has ls 8 [(0, .ref th), (1, .int a1), (2, .int a2), (3, .int a3)] := hl
  have J20 : ∀  (P : PS), hm_X8_why_20   P = some (r0, T) → cGo p l e rmc_X8_why s m args below meth c 8 D cs t0 (pA P0) (cQI below D cs P0 args s 0 0 r0 T) 0 0 20 [] [] P := by
    intro  P h H locs ls hl w
    unfold hm_X8_why_20 at h
    refine lv_iconst (v := (-1 : Int32)) hx hb dX8_why_20 (by decide) ?_
    exact cw_iret cx (rt_e h) w dX8_why_21
  have J138 : ∀  (P : PS), hm_X8_why_138   P = some (r0, T) → cGo p l e rmc_X8_why s m args below meth c 8 D cs t0 (pA P0) (cQI below D cs P0 args s 0 0 r0 T) 0 0 138 [] [] P := by
    intro  P h H locs ls hl w
    unfold hm_X8_why_138 at h
    refine lv_bipush (v := (-5 : Int32)) hx hb dX8_why_138 (by decide) ?_
    exact cw_iret cx (rt_e h) w dX8_why_140
  have L72 : ∀ (n : Nat) (o0 : Nat) (x2 : Int32) (x3 : Int32) (o4 : Nat) (x6 : Int32) (x7 : Int32) (P : PS), hm_X8_why_72L  n o0 x2 x3 o4 x6 x7 P = some (r0, T) → cGo p l e rmc_X8_why s m args below meth c 8 D cs t0 (pA P0) (cQI below D cs P0 args s 0 0 r0 T) 0 0 72 [(0, .ref o0), (2, .int x2), (3, .int x3), (4, .ref o4), (6, .int x6), (7, .int x7)] [] P := by
    intro n
    induction n with
    | zero =>
      intro o0 x2 x3 o4 x6 x7 P h
      have h : none = some (r0, T) := h
      cases h
    | succ n hk72 =>
      intro o0 x2 x3 o4 x6 x7 P h H locs ls hl w
      have h : hm_X8_why_72  (hm_X8_why_72L  n) o0 x2 x3 o4 x6 x7 P = some (r0, T) := h
      generalize hm_X8_why_72L  n = k72 at h hk72
      unfold hm_X8_why_72 at h
      refine lv_iload hx hb dX8_why_72 (lv_at hl 5 rfl) ?_
      refine lv_bipush (v := (14 : Int32)) hx hb dX8_why_74 (by decide) ?_
      refine lv_icmp_ge (tgt := 138) hx hb dX8_why_76 (by decide) (fun q => ?_) (fun q => ?_)
      · replace h := br_p q h
        exact J138   P h _ _ _ (lv_sub hl [] rfl) w
      · replace h := br_n q h
        refine lv_iload_n hx hb dX8_why_79 rfl (lv_at hl 1 rfl) ?_
        refine lv_iconst (v := (1 : Int32)) hx hb dX8_why_80 (by decide) ?_
        refine lv_icmp_eq (tgt := 138) hx hb dX8_why_81 (by decide) (fun q => ?_) (fun q => ?_)
        · replace h := br_p q h
          exact J138   P h _ _ _ (lv_sub hl [] rfl) w
        · replace h := br_n q h
          refine lv_aload hx hb dX8_why_84 (lv_at hl 3 rfl) ?_
          refine lv_iload hx hb dX8_why_86 (lv_at hl 4 rfl) ?_
          replace h := bd_e h
          obtain ⟨o_302, P_301, hc_303, h⟩ := h
          refine cc_q (cr_S (As := [.ref o4, .int x6]) (rest := []) cx (hcc_X8_firstUnheard l D cs t0  P P_301 o4 x6 o_302 hc_303) (va_cwS 2 hts (uGS uw_X8_firstUnheard ul_RX8_184 ut_X8_firstUnheard un_RX8) rfl rfl rfl ud_X8_firstUnheard.2 ⟨Nat.le_of_ble_eq_true rfl, Nat.le_of_ble_eq_true rfl⟩) w rfl hl.1 rfl (Nat.le_of_ble_eq_true rfl) dX8_why_88 ⟨(Nat.le_of_ble_eq_true rfl), (Nat.le_of_ble_eq_true rfl)⟩) (fun H locs w => ?_)
          refine lq_astore (lv' := [(4, va_rf o_302), (0, .ref o0), (2, .int x2), (3, .int x3), (6, .int x6), (7, .int x7)]) hx hb dX8_why_91 hl (by decide) (fun v hv => by subst hv; exact (rfl)) (fun ls hl => ?_)
          refine lq_aload hx hb dX8_why_93 (lv_at hl 0 rfl) ?_
          cases o_302 with
          | none =>
            replace h := nl_n h
            have hl : lv_has ls 8 [(4, .null), (0, .ref o0), (2, .int x2), (3, .int x3), (6, .int x6), (7, .int x7)] := hl
            refine lv_ifnonnullN hx hb dX8_why_95 ?_
            refine lv_bipush (v := (-5 : Int32)) hx hb dX8_why_98 (by decide) ?_
            exact cw_iret cx (rt_e h) w dX8_why_100
          | some b_304 =>
            replace h := nl_s h
            have hl : lv_has ls 8 [(4, .ref b_304), (0, .ref o0), (2, .int x2), (3, .int x3), (6, .int x6), (7, .int x7)] := hl
            refine lv_ifnonnull (tgt := 101) hx hb dX8_why_95 (by decide) ?_
            refine lv_aload_n hx hb dX8_why_101 rfl (lv_at hl 1 rfl) ?_
            refine lv_aload hx hb dX8_why_102 (lv_at hl 0 rfl) ?_
            refine lv_iconst (v := (0 : Int32)) hx hb dX8_why_104 (by decide) ?_
            refine lv_iload_n hx hb dX8_why_105 rfl (lv_at hl 3 rfl) ?_
            refine lv_aload_n hx hb dX8_why_106 rfl (lv_at hl 1 rfl) ?_
            replace h := ck_e h
            obtain ⟨hk_305, h⟩ := h
            replace h := nn_e h
            obtain ⟨b_306, hbb_306, h⟩ := h
            refine cw_getS cx hsub w kT9 hk_305 4 (by decide) hbb_306 ⟨hsub _ uf_RX8_37, Or.inl rfl⟩ dX8_why_107 ?_
            replace h := bd_e h
            obtain ⟨r_308, P_307, hc_309, h⟩ := h
            refine cc_i (cr_V (As := [.ref b_304, .int (0 : Int32), .int x3, .ref b_306]) (rest := []) cx (hcc_X8_keeper l D cs t0  P_301 P_307 o0 b_304 (0 : Int32) x3 b_306 r_308 hc_309) kT9 hk_305 (cwV 4 hts (uG uw_X8_keeper ul_RX8_173 ui_X8_keeper us_RX8_X8_keeper un_RX8) rfl rfl rfl ud_X8_keeper ⟨Nat.le_of_ble_eq_true rfl, Nat.le_of_ble_eq_true rfl⟩) w rfl hl.1 rfl (Nat.le_of_ble_eq_true rfl) dX8_why_110 ⟨(Nat.le_of_ble_eq_true rfl), (Nat.le_of_ble_eq_true rfl)⟩) (fun H locs w => ?_)
            refine lv_istore (lv' := [(5, .int r_308), (4, .ref b_304), (0, .ref o0), (2, .int x2), (3, .int x3), (6, .int x6), (7, .int x7)]) hx hb dX8_why_113 hl (by decide) (rfl) (fun ls hl => ?_)
            refine lv_iload hx hb dX8_why_115 (lv_at hl 0 rfl) ?_
            refine lv_if_lt (tgt := 132) hx hb dX8_why_117 (by decide) (fun q => ?_) (fun q => ?_)
            · replace h := br_p q h
              replace h := lt_e h
              obtain ⟨x7_310, ex7_310, h⟩ := h
              refine lv_iinc (v := x7_310) (lv' := [(7, .int x7_310), (5, .int r_308), (4, .ref b_304), (0, .ref o0), (2, .int x2), (3, .int x3), (6, .int x6)]) hx hb dX8_why_132 hl (k := 6) rfl (by rw [ex7_310]; rfl) (by decide) (rfl) (fun ls hl => ?_)
              refine lv_goto (tgt := 72) hx hb dX8_why_135 (by decide) ?_
              exact hk72 o0 x2 x3 b_304 x6 x7_310 P_307 h _ _ _ (lv_sub hl [3, 4, 5, 2, 6, 0] rfl) w
            · replace h := br_n q h
              refine lv_bipush (v := (100 : Int32)) hx hb dX8_why_120 (by decide) ?_
              refine lv_aload hx hb dX8_why_122 (lv_at hl 1 rfl) ?_
              replace h := ck_e h
              obtain ⟨hk_311, h⟩ := h
              refine cw_getI cx hsub w kT8 hk_311 0 (by decide) ⟨hsub _ uf_RX8_127, Or.inl rfl⟩ dX8_why_124 ?_
              refine lv_imul hx hb dX8_why_127 ?_
              refine lv_iload hx hb dX8_why_128 (lv_at hl 0 rfl) ?_
              refine lv_iadd hx hb dX8_why_130 ?_
              exact cw_iret cx (rt_e h) w dX8_why_131
  have hP0 : P0 = P0 := rfl
  unfold hm_X8_why at h
  refine lv_aload_n hx hb dX8_why_0 rfl (lv_at hl 0 rfl) ?_
  refine lv_iload_n hx hb dX8_why_1 rfl (lv_at hl 1 rfl) ?_
  replace h := bd_e h
  obtain ⟨o_413, P_412, hc_414, h⟩ := h
  replace h := ck_e h
  obtain ⟨hk_415, h⟩ := h
  refine cc_q (cr_V (As := [.int a1]) (rest := []) cx (hcc_X8_wordAt l D cs t0  P0 P_412 th a1 o_413 hc_414) kT9 hk_415 (cwV 1 hts (uG uw_X8_wordAt ul_RX8_95 ui_X8_wordAt us_RX8_X8_wordAt un_RX8) rfl rfl rfl ud_X8_wordAt ⟨Nat.le_of_ble_eq_true rfl, Nat.le_of_ble_eq_true rfl⟩) w rfl hl.1 rfl (Nat.le_of_ble_eq_true rfl) dX8_why_2 ⟨(Nat.le_of_ble_eq_true rfl), (Nat.le_of_ble_eq_true rfl)⟩) (fun H locs w => ?_)
  refine lq_astore (lv' := [(4, va_rf o_413), (0, .ref th), (1, .int a1), (2, .int a2), (3, .int a3)]) hx hb dX8_why_5 hl (by decide) (fun v hv => by subst hv; exact (rfl)) (fun ls hl => ?_)
  refine lq_aload hx hb dX8_why_7 (lv_at hl 0 rfl) ?_
  cases o_413 with
  | none =>
    replace h := nl_n h
    have hl : lv_has ls 8 [(4, .null), (0, .ref th), (1, .int a1), (2, .int a2), (3, .int a3)] := hl
    refine lv_ifnullN (tgt := 20) hx hb dX8_why_9 (by decide) ?_
    exact J20   P_412 h _ _ _ (lv_sub hl [] rfl) w
  | some b_416 =>
    replace h := nl_s h
    have hl : lv_has ls 8 [(4, .ref b_416), (0, .ref th), (1, .int a1), (2, .int a2), (3, .int a3)] := hl
    refine lv_ifnull hx hb dX8_why_9 ?_
    refine lv_iload_n hx hb dX8_why_12 rfl (lv_at hl 3 rfl) ?_
    refine lv_iload_n hx hb dX8_why_13 rfl (lv_at hl 4 rfl) ?_
    replace h := bd_e h
    obtain ⟨r_418, P_417, hc_419, h⟩ := h
    refine cc_i (cr_S (As := [.int a2, .int a3]) (rest := []) cx (hcc_X8_isOffer l D cs t0  P_412 P_417 a2 a3 r_418 hc_419) (va_cwS 2 hts (uGS uw_X8_isOffer ul_RX8_166 ut_X8_isOffer un_RX8) rfl rfl rfl ud_X8_isOffer.2 ⟨Nat.le_of_ble_eq_true rfl, Nat.le_of_ble_eq_true rfl⟩) w rfl hl.1 rfl (Nat.le_of_ble_eq_true rfl) dX8_why_14 ⟨(Nat.le_of_ble_eq_true rfl), (Nat.le_of_ble_eq_true rfl)⟩) (fun H locs w => ?_)
    refine lv_if_ne (tgt := 22) hx hb dX8_why_17 (by decide) (fun q => ?_) (fun q => ?_)
    · replace h := br_n q h
      refine lv_aload_n hx hb dX8_why_22 rfl (lv_at hl 1 rfl) ?_
      refine lv_aload hx hb dX8_why_23 (lv_at hl 0 rfl) ?_
      refine lv_iload_n hx hb dX8_why_25 rfl (lv_at hl 3 rfl) ?_
      refine lv_iload_n hx hb dX8_why_26 rfl (lv_at hl 4 rfl) ?_
      refine lv_aload_n hx hb dX8_why_27 rfl (lv_at hl 1 rfl) ?_
      replace h := ck_e h
      obtain ⟨hk_420, h⟩ := h
      replace h := nn_e h
      obtain ⟨b_421, hbb_421, h⟩ := h
      refine cw_getS cx hsub w kT9 hk_420 4 (by decide) hbb_421 ⟨hsub _ uf_RX8_37, Or.inl rfl⟩ dX8_why_28 ?_
      replace h := bd_e h
      obtain ⟨r_423, P_422, hc_424, h⟩ := h
      refine cc_i (cr_V (As := [.ref b_416, .int a2, .int a3, .ref b_421]) (rest := []) cx (hcc_X8_keeper l D cs t0  P_417 P_422 th b_416 a2 a3 b_421 r_423 hc_424) kT9 hk_420 (cwV 4 hts (uG uw_X8_keeper ul_RX8_173 ui_X8_keeper us_RX8_X8_keeper un_RX8) rfl rfl rfl ud_X8_keeper ⟨Nat.le_of_ble_eq_true rfl, Nat.le_of_ble_eq_true rfl⟩) w rfl hl.1 rfl (Nat.le_of_ble_eq_true rfl) dX8_why_31 ⟨(Nat.le_of_ble_eq_true rfl), (Nat.le_of_ble_eq_true rfl)⟩) (fun H locs w => ?_)
      refine lv_istore (lv' := [(5, .int r_423), (4, .ref b_416), (0, .ref th), (1, .int a1), (2, .int a2), (3, .int a3)]) hx hb dX8_why_34 hl (by decide) (rfl) (fun ls hl => ?_)
      refine lv_iload hx hb dX8_why_36 (lv_at hl 0 rfl) ?_
      refine lv_if_lt (tgt := 49) hx hb dX8_why_38 (by decide) (fun q => ?_) (fun q => ?_)
      · replace h := br_p q h
        refine lv_aload_n hx hb dX8_why_49 rfl (lv_at hl 2 rfl) ?_
        refine lv_aload_n hx hb dX8_why_50 rfl (lv_at hl 2 rfl) ?_
        refine lv_aload hx hb dX8_why_51 (lv_at hl 1 rfl) ?_
        replace h := ck_e h
        obtain ⟨hk_425, h⟩ := h
        refine cw_getI cx hsub w kT8 hk_425 6 (by decide) ⟨hsub _ uf_RX8_102, Or.inl rfl⟩ dX8_why_53 ?_
        replace h := bd_e h
        obtain ⟨r_427, P_426, hc_428, h⟩ := h
        replace h := ck_e h
        obtain ⟨hk_429, h⟩ := h
        refine cc_i (cr_V (As := [.int (pI P_422 b_416 6)]) (rest := [.ref th]) cx (hcc_X8_withParts l D cs t0  P_422 P_426 th (pI P_422 b_416 6) r_427 hc_428) kT9 hk_429 (cwV 1 hts (uG uw_X8_withParts ul_RX8_177 ui_X8_withParts us_RX8_X8_withParts un_RX8) rfl rfl rfl ud_X8_withParts ⟨Nat.le_of_ble_eq_true rfl, Nat.le_of_ble_eq_true rfl⟩) w rfl hl.1 rfl (Nat.le_of_ble_eq_true rfl) dX8_why_56 ⟨(Nat.le_of_ble_eq_true rfl), (Nat.le_of_ble_eq_true rfl)⟩) (fun H locs w => ?_)
        refine lv_iload_n hx hb dX8_why_59 rfl (lv_at hl 5 rfl) ?_
        refine lv_aload_n hx hb dX8_why_60 rfl (lv_at hl 2 rfl) ?_
        replace h := ck_e h
        obtain ⟨hk_430, h⟩ := h
        replace h := nn_e h
        obtain ⟨b_431, hbb_431, h⟩ := h
        refine cw_getS cx hsub w kT9 hk_430 4 (by decide) hbb_431 ⟨hsub _ uf_RX8_37, Or.inl rfl⟩ dX8_why_61 ?_
        replace h := bd_e h
        obtain ⟨r_433, P_432, hc_434, h⟩ := h
        refine cc_i (cr_V (As := [.int r_427, .int a3, .ref b_431]) (rest := []) cx (hcc_X8_heardToPartsEnd l D cs t0  P_426 P_432 th r_427 a3 b_431 r_433 hc_434) kT9 hk_430 (cwV 3 hts (uG uw_X8_heardToPartsEnd ul_RX8_180 ui_X8_heardToPartsEnd us_RX8_X8_heardToPartsEnd un_RX8) rfl rfl rfl ud_X8_heardToPartsEnd ⟨Nat.le_of_ble_eq_true rfl, Nat.le_of_ble_eq_true rfl⟩) w rfl hl.1 rfl (Nat.le_of_ble_eq_true rfl) dX8_why_64 ⟨(Nat.le_of_ble_eq_true rfl), (Nat.le_of_ble_eq_true rfl)⟩) (fun H locs w => ?_)
        refine lv_istore (lv' := [(6, .int r_433), (5, .int r_423), (4, .ref b_416), (0, .ref th), (1, .int a1), (2, .int a2), (3, .int a3)]) hx hb dX8_why_67 hl (by decide) (rfl) (fun ls hl => ?_)
        refine lv_iconst (v := (0 : Int32)) hx hb dX8_why_69 (by decide) ?_
        replace h := lt_e h
        obtain ⟨x7_435, ex7_435, h⟩ := h
        refine top_i ex7_435 ?_
        refine lv_istore (lv' := [(7, .int x7_435), (6, .int r_433), (5, .int r_423), (4, .ref b_416), (0, .ref th), (1, .int a1), (2, .int a2), (3, .int a3)]) hx hb dX8_why_70 hl (by decide) (rfl) (fun ls hl => ?_)
        exact L72  4000 th a2 a3 b_416 r_433 x7_435 P_432 h _ _ _ (lv_sub hl [4, 6, 7, 3, 1, 0] rfl) w
      · replace h := br_n q h
        refine lv_bipush (v := (100 : Int32)) hx hb dX8_why_41 (by decide) ?_
        refine lv_iload_n hx hb dX8_why_43 rfl (lv_at hl 3 rfl) ?_
        refine lv_imul hx hb dX8_why_44 ?_
        refine lv_iload hx hb dX8_why_45 (lv_at hl 0 rfl) ?_
        refine lv_iadd hx hb dX8_why_47 ?_
        exact cw_iret cx (rt_e h) w dX8_why_48
    · replace h := br_p q h
      exact J20   P_417 h _ _ _ (lv_sub hl [] rfl) w
