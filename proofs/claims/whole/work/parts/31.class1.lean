def hm_X0_init (P : PS) (th : Nat) : Option (Int32 × PS) := lt_ (pZ P) (fun z_101 => lt_ (pNew P 12 ((20 : Int32)).toNatClampNeg) (fun P_102 => ck (kk P_102 th 1) (lt_ (pRu P_102 th 0 (some z_101)) (fun P_104 => some ((0 : Int32), P_104)))))
abbrev wu_X0_init : List Cond := .code yX0_init cX0_init 1 none :: wsL_law
theorem ud_X0_init : yX0_init.cls = RX0 ∧ yX0_init.cls ≠ "java/lang/invoke/MethodHandle" ∧ yX0_init.cls ≠ "java/lang/invoke/VarHandle" ∧ (parseMethodDescriptor yX0_init.desc).map (fun d => d.parameters.length) = some 0 := by decide +kernel
abbrev rmc_X0_init : Room := { frames := 1, cells := 1, slots := 20, locals := 40 }
set_option maxHeartbeats 4000000 in
set_option maxRecDepth 100000 in
theorem hcc_X0_init (l : Launch) (D : va_G) (cs : Nat → ClassId) (t0 : TS) (P0 T : PS) (th : Nat) (r0 : Int32) (h : hm_X0_init P0 th = some (r0, T)) : MetCV l yX0_init wu_X0_init rmc_X0_init D cs t0 [.ref th] P0 T r0 1 20 := by
  refine co_start (own := RX0) (ty := none) (cc := cX0_init) (maxL := 1) ⟨by decide, rfl⟩ rfl (Nat.le_of_ble_eq_true rfl) ?_
  intro p e s m args below meth c ls cx hnm hl w
  have hx := cx.1
  have hb := cx.2.1
  have hts := cx.2.2.2.1
  have hown := cx.2.2.2.2.1
  have hml := cx.2.2.2.2.2.2
  have hsub : ∀ w ∈ wsL_law, w ∈ wu_X0_init := fun _ hq => List.mem_cons_of_mem _ hq
  have hl : lv_has ls 1 [(0, .ref th)] := hl
  have hP0 : P0 = P0 := rfl
  unfold hm_X0_init at h
  refine lv_aload_n hx hb dX0_init_0 rfl (lv_at hl 0 rfl) ?_
  refine W.objInit hx hb hown (hts _ (hsub _ ul_RX0_3)) (hts _ (hsub _ uoi_i)) (hts _ (hsub _ uoi_c)) rfl (by rw [hml]; exact hl.1) rfl dX0_init_1 (Nat.le_of_ble_eq_true rfl) (Nat.le_of_ble_eq_true rfl) ?_
  refine W.eq (g2 := F0 m _ ls []) rfl ?_
  refine lv_aload_n hx hb dX0_init_4 rfl (lv_at hl 0 rfl) ?_
  refine lv_bipush (v := (20 : Int32)) hx hb dX0_init_5 (by decide) ?_
  replace h := lt_e h
  obtain ⟨z_101, ez_101, h⟩ := h
  replace h := lt_e h
  obtain ⟨P_102, eP_102, h⟩ := h
  refine cw_newi cx w (by decide) (by decide) eP_102 (hsub _ uar_int) (Nat.le_of_ble_eq_true rfl) (Nat.le_of_ble_eq_true rfl) dX0_init_7 (fun H w => ?_)
  refine W.widen (k := 1) (n := 20) (Nat.le_of_ble_eq_true rfl) (Nat.le_of_ble_eq_true rfl) ?_
  have hkz_101 : kk P_102 z_101 12 = true := by rw [ez_101]; exact kk_new eP_102
  rw [← ez_101]
  replace h := ck_e h
  obtain ⟨hk_103, h⟩ := h
  replace h := lt_e h
  obtain ⟨P_104, eP_104, h⟩ := h
  refine cw_putR cx hsub w kT1 hk_103 0 (v := (some z_101)) eP_104 (by decide) (by first | exact Or.inl ⟨_, rfl⟩ | exact Or.inr ⟨_, rfl⟩) (Or.inr ⟨rfl, hnm, rfl⟩) ⟨hsub _ uf_RX0_9, Or.inl rfl⟩ dX0_init_9 (fun H locs w => ?_)
  refine W.widen (k := 1) (n := 20) (Nat.le_of_ble_eq_true rfl) (Nat.le_of_ble_eq_true rfl) ?_
  exact cw_vret cx (rt_e h) w dX0_init_12
def hm_X0_begin_29 (o0 : Nat) (P : PS) : Option (Int32 × PS) := ck (kk P o0 1) (lt_ (pIu P o0 1 ((pI P o0 1) + (1 : Int32))) (fun P_102 => some ((0 : Int32), P_102)))
def hm_X0_begin (P : PS) (th : Nat) (a1 : Int32) : Option (Int32 × PS) := ck (kk P th 1) (if (pI P th 1) < (0 : Int32) then (hm_X0_begin_29  th P) else (nn (pR P th 0) (fun b_204 => ck (kk P b_204 12) (if (nI (pN P b_204)) ≤ (pI P th 1) then (hm_X0_begin_29  th P) else (nn (pR P th 0) (fun b_206 => ck (kk P b_206 12) (ck (vin (pI P th 1) (pN P b_206)) (lt_ (pIu P b_206 ((pI P th 1)).toNatClampNeg a1) (fun P_209 => hm_X0_begin_29  th P_209)))))))))
abbrev wu_X0_begin : List Cond := .code yX0_begin cX0_begin 2 none :: wsL_law
theorem ud_X0_begin : yX0_begin.cls = RX0 ∧ yX0_begin.cls ≠ "java/lang/invoke/MethodHandle" ∧ yX0_begin.cls ≠ "java/lang/invoke/VarHandle" ∧ (parseMethodDescriptor yX0_begin.desc).map (fun d => d.parameters.length) = some 1 := by decide +kernel
abbrev rmc_X0_begin : Room := { frames := 0, cells := 0, slots := 0, locals := 0 }
set_option maxHeartbeats 4000000 in
set_option maxRecDepth 100000 in
theorem hcc_X0_begin (l : Launch) (D : va_G) (cs : Nat → ClassId) (t0 : TS) (P0 T : PS) (th : Nat) (a1 : Int32) (r0 : Int32) (h : hm_X0_begin P0 th a1 = some (r0, T)) : MetCV l yX0_begin wu_X0_begin rmc_X0_begin D cs t0 [.ref th, .int a1] P0 T r0 0 0 := by
  refine co_start (own := RX0) (ty := none) (cc := cX0_begin) (maxL := 2) ⟨by decide, rfl⟩ rfl (Nat.le_of_ble_eq_true rfl) ?_
  intro p e s m args below meth c ls cx hnm hl w
  have hx := cx.1
  have hb := cx.2.1
  have hts := cx.2.2.2.1
  have hown := cx.2.2.2.2.1
  have hml := cx.2.2.2.2.2.2
  have hsub : ∀ w ∈ wsL_law, w ∈ wu_X0_begin := fun _ hq => List.mem_cons_of_mem _ hq
  have hl : lv_has ls 2 [(0, .ref th), (1, .int a1)] := hl
  have J29 : ∀ (o0 : Nat) (P : PS), hm_X0_begin_29  o0 P = some (r0, T) → cGo p l e rmc_X0_begin s m args below meth c 2 D cs t0 (pA P0) (cQV below D cs P0 args s 0 0 r0 T) 0 0 29 [(0, .ref o0)] [] P := by
    intro o0 P h H locs ls hl w
    unfold hm_X0_begin_29 at h
    refine lv_aload_n hx hb dX0_begin_29 rfl (lv_at hl 0 rfl) ?_
    refine lv_dup hx hb dX0_begin_30 rfl ?_
    replace h := ck_e h
    obtain ⟨hk_101, h⟩ := h
    refine cw_getI cx hsub w kT1 hk_101 1 (by decide) ⟨hsub _ uf_RX0_49, Or.inl rfl⟩ dX0_begin_31 ?_
    refine lv_iconst (v := (1 : Int32)) hx hb dX0_begin_34 (by decide) ?_
    refine lv_iadd hx hb dX0_begin_35 ?_
    replace h := lt_e h
    obtain ⟨P_102, eP_102, h⟩ := h
    refine cw_putI cx hsub w kT1 hk_101 1 eP_102 ⟨by decide, by decide, rfl⟩ (Or.inl rfl) ⟨hsub _ uf_RX0_49, Or.inl rfl⟩ dX0_begin_36 (fun H locs w => ?_)
    exact cw_vret cx (rt_e h) w dX0_begin_39
  have hP0 : P0 = P0 := rfl
  unfold hm_X0_begin at h
  refine lv_aload_n hx hb dX0_begin_0 rfl (lv_at hl 0 rfl) ?_
  replace h := ck_e h
  obtain ⟨hk_203, h⟩ := h
  refine cw_getI cx hsub w kT1 hk_203 1 (by decide) ⟨hsub _ uf_RX0_49, Or.inl rfl⟩ dX0_begin_1 ?_
  refine lv_if_lt (tgt := 29) hx hb dX0_begin_4 (by decide) (fun q => ?_) (fun q => ?_)
  · replace h := br_p q h
    exact J29  th P0 h _ _ _ (lv_sub hl [0] rfl) w
  · replace h := br_n q h
    refine lv_aload_n hx hb dX0_begin_7 rfl (lv_at hl 0 rfl) ?_
    refine cw_getI cx hsub w kT1 hk_203 1 (by decide) ⟨hsub _ uf_RX0_49, Or.inl rfl⟩ dX0_begin_8 ?_
    refine lv_aload_n hx hb dX0_begin_11 rfl (lv_at hl 0 rfl) ?_
    replace h := nn_e h
    obtain ⟨b_204, hbb_204, h⟩ := h
    refine cw_getS cx hsub w kT1 hk_203 0 (by decide) hbb_204 ⟨hsub _ uf_RX0_9, Or.inl rfl⟩ dX0_begin_12 ?_
    replace h := ck_e h
    obtain ⟨hk_205, h⟩ := h
    refine cw_alen cx w hk_205 rfl dX0_begin_15 ?_
    refine lv_icmp_ge (tgt := 29) hx hb dX0_begin_16 (by decide) (fun q => ?_) (fun q => ?_)
    · replace h := br_p q h
      exact J29  th P0 h _ _ _ (lv_sub hl [0] rfl) w
    · replace h := br_n q h
      refine lv_aload_n hx hb dX0_begin_19 rfl (lv_at hl 0 rfl) ?_
      replace h := nn_e h
      obtain ⟨b_206, hbb_206, h⟩ := h
      refine cw_getS cx hsub w kT1 hk_203 0 (by decide) hbb_206 ⟨hsub _ uf_RX0_9, Or.inl rfl⟩ dX0_begin_20 ?_
      refine lv_aload_n hx hb dX0_begin_23 rfl (lv_at hl 0 rfl) ?_
      refine cw_getI cx hsub w kT1 hk_203 1 (by decide) ⟨hsub _ uf_RX0_49, Or.inl rfl⟩ dX0_begin_24 ?_
      refine lv_iload_n hx hb dX0_begin_27 rfl (lv_at hl 1 rfl) ?_
      replace h := ck_e h
      obtain ⟨hk_207, h⟩ := h
      replace h := ck_e h
      obtain ⟨hq_208, h⟩ := h
      replace h := lt_e h
      obtain ⟨P_209, eP_209, h⟩ := h
      refine cw_iast cx w hk_207 hq_208 eP_209 dX0_begin_28 (fun H locs w => ?_)
      exact J29  th P_209 h _ _ _ (lv_sub hl [0] rfl) w
def hm_X8_kindAbove_40  (P : PS) : Option (Int32 × PS) := some ((0 : Int32), P)
def hm_X8_kindAbove_36  (P : PS) : Option (Int32 × PS) := some ((1 : Int32), P)
def hm_X8_kindAbove (P : PS) (a1 : Int32) : Option (Int32 × PS) := if a1 = (2 : Int32) then (hm_X8_kindAbove_36   P) else (if a1 = (5 : Int32) then (some ((2 : Int32), P)) else (if a1 = (6 : Int32) then (hm_X8_kindAbove_36   P) else (hm_X8_kindAbove_40   P)))
abbrev wu_X8_kindAbove : List Cond := .code yX8_kindAbove cX8_kindAbove 1 (some .int) :: wsL_law
theorem ud_X8_kindAbove : yX8_kindAbove.cls = RX8 ∧ yX8_kindAbove.cls ≠ "java/lang/invoke/MethodHandle" ∧ yX8_kindAbove.cls ≠ "java/lang/invoke/VarHandle" ∧ (parseMethodDescriptor yX8_kindAbove.desc).map (fun d => d.parameters.length) = some 1 := by decide +kernel
abbrev rmc_X8_kindAbove : Room := { frames := 0, cells := 0, slots := 0, locals := 0 }
set_option maxHeartbeats 4000000 in
set_option maxRecDepth 100000 in
theorem hcc_X8_kindAbove (l : Launch) (D : va_G) (cs : Nat → ClassId) (t0 : TS) (P0 T : PS) (a1 : Int32) (r0 : Int32) (h : hm_X8_kindAbove P0 a1 = some (r0, T)) : MetCI l yX8_kindAbove wu_X8_kindAbove rmc_X8_kindAbove D cs t0 [.int a1] P0 T r0 0 0 := by
  refine co_start (own := RX8) (ty := (some .int)) (cc := cX8_kindAbove) (maxL := 1) ⟨by decide, rfl⟩ rfl (Nat.le_of_ble_eq_true rfl) ?_
  intro p e s m args below meth c ls cx hnm hl w
  have hx := cx.1
  have hb := cx.2.1
  have hts := cx.2.2.2.1
  have hown := cx.2.2.2.2.1
  have hml := cx.2.2.2.2.2.2
  have hsub : ∀ w ∈ wsL_law, w ∈ wu_X8_kindAbove := fun _ hq => List.mem_cons_of_mem _ hq
  have hl : lv_has ls 1 [(0, .int a1)] := hl
  have J40 : ∀  (P : PS), hm_X8_kindAbove_40   P = some (r0, T) → cGo p l e rmc_X8_kindAbove s m args below meth c 1 D cs t0 (pA P0) (cQI below D cs P0 args s 0 0 r0 T) 0 0 40 [] [] P := by
    intro  P h H locs ls hl w
    unfold hm_X8_kindAbove_40 at h
    refine lv_iconst (v := (0 : Int32)) hx hb dX8_kindAbove_40 (by decide) ?_
    exact cw_iret cx (rt_e h) w dX8_kindAbove_41
  have J36 : ∀  (P : PS), hm_X8_kindAbove_36   P = some (r0, T) → cGo p l e rmc_X8_kindAbove s m args below meth c 1 D cs t0 (pA P0) (cQI below D cs P0 args s 0 0 r0 T) 0 0 36 [] [] P := by
    intro  P h H locs ls hl w
    unfold hm_X8_kindAbove_36 at h
    refine lv_iconst (v := (1 : Int32)) hx hb dX8_kindAbove_36 (by decide) ?_
    exact cw_iret cx (rt_e h) w dX8_kindAbove_37
  have hP0 : P0 = P0 := rfl
  unfold hm_X8_kindAbove at h
  refine lv_iload_n hx hb dX8_kindAbove_0 rfl (lv_at hl 0 rfl) ?_
  by_cases q_301 : a1 = (2 : Int32)
  · replace h := br_p q_301 h
    refine lv_tableIn (tgt := 36) hx hb dX8_kindAbove_1 (by rw [q_301]; decide) (by rw [q_301]; decide) (by rw [q_301]; rfl) (by decide) ?_
    exact J36   P0 h _ _ _ (lv_sub hl [] rfl) w
  replace h := br_n q_301 h
  by_cases q_302 : a1 = (5 : Int32)
  · replace h := br_p q_302 h
    refine lv_tableIn (tgt := 38) hx hb dX8_kindAbove_1 (by rw [q_302]; decide) (by rw [q_302]; decide) (by rw [q_302]; rfl) (by decide) ?_
    refine lv_iconst (v := (2 : Int32)) hx hb dX8_kindAbove_38 (by decide) ?_
    exact cw_iret cx (rt_e h) w dX8_kindAbove_39
  replace h := br_n q_302 h
  by_cases q_303 : a1 = (6 : Int32)
  · replace h := br_p q_303 h
    refine lv_tableIn (tgt := 36) hx hb dX8_kindAbove_1 (by rw [q_303]; decide) (by rw [q_303]; decide) (by rw [q_303]; rfl) (by decide) ?_
    exact J36   P0 h _ _ _ (lv_sub hl [] rfl) w
  replace h := br_n q_303 h
  refine lv_tableH (tgt := 40) hx hb dX8_kindAbove_1 (by by_cases q_304 : a1 = (3 : Int32); exact Or.inr ⟨by rw [q_304]; decide, by rw [q_304]; decide, by rw [q_304]; rfl⟩; by_cases q_305 : a1 = (4 : Int32); exact Or.inr ⟨by rw [q_305]; decide, by rw [q_305]; decide, by rw [q_305]; rfl⟩; exact Or.inl (by have := lv_neT q_301 (a := 2) (by decide); have := lv_neT q_302 (a := 5) (by decide); have := lv_neT q_303 (a := 6) (by decide); have := lv_neT q_304 (a := 3) (by decide); have := lv_neT q_305 (a := 4) (by decide); omega)) (by decide) ?_
  exact J40   P0 h _ _ _ (lv_sub hl [] rfl) w
def hm_X0_traced_30  (P : PS) : Option (Int32 × PS) := some ((-1 : Int32), P)
def hm_X0_traced (P : PS) (th : Nat) (a1 : Int32) : Option (Int32 × PS) := if a1 < (0 : Int32) then (hm_X0_traced_30   P) else (ck (kk P th 1) (if (pI P th 1) ≤ a1 then (hm_X0_traced_30   P) else (nn (pR P th 0) (fun b_202 => ck (kk P b_202 12) (if (nI (pN P b_202)) ≤ a1 then (hm_X0_traced_30   P) else (nn (pR P th 0) (fun b_204 => ck (kk P b_204 12) (ck (vin a1 (pN P b_204)) (some ((pI P b_204 (a1).toNatClampNeg), P))))))))))
abbrev wu_X0_traced : List Cond := .code yX0_traced cX0_traced 2 (some .int) :: wsL_law
theorem ud_X0_traced : yX0_traced.cls = RX0 ∧ yX0_traced.cls ≠ "java/lang/invoke/MethodHandle" ∧ yX0_traced.cls ≠ "java/lang/invoke/VarHandle" ∧ (parseMethodDescriptor yX0_traced.desc).map (fun d => d.parameters.length) = some 1 := by decide +kernel
abbrev rmc_X0_traced : Room := { frames := 0, cells := 0, slots := 0, locals := 0 }
set_option maxHeartbeats 4000000 in
set_option maxRecDepth 100000 in
theorem hcc_X0_traced (l : Launch) (D : va_G) (cs : Nat → ClassId) (t0 : TS) (P0 T : PS) (th : Nat) (a1 : Int32) (r0 : Int32) (h : hm_X0_traced P0 th a1 = some (r0, T)) : MetCI l yX0_traced wu_X0_traced rmc_X0_traced D cs t0 [.ref th, .int a1] P0 T r0 0 0 := by
  refine co_start (own := RX0) (ty := (some .int)) (cc := cX0_traced) (maxL := 2) ⟨by decide, rfl⟩ rfl (Nat.le_of_ble_eq_true rfl) ?_
  intro p e s m args below meth c ls cx hnm hl w
  have hx := cx.1
  have hb := cx.2.1
  have hts := cx.2.2.2.1
  have hown := cx.2.2.2.2.1
  have hml := cx.2.2.2.2.2.2
  have hsub : ∀ w ∈ wsL_law, w ∈ wu_X0_traced := fun _ hq => List.mem_cons_of_mem _ hq
  have hl : lv_has ls 2 [(0, .ref th), (1, .int a1)] := hl
  have J30 : ∀  (P : PS), hm_X0_traced_30   P = some (r0, T) → cGo p l e rmc_X0_traced s m args below meth c 2 D cs t0 (pA P0) (cQI below D cs P0 args s 0 0 r0 T) 0 0 30 [] [] P := by
    intro  P h H locs ls hl w
    unfold hm_X0_traced_30 at h
    refine lv_iconst (v := (-1 : Int32)) hx hb dX0_traced_30 (by decide) ?_
    exact cw_iret cx (rt_e h) w dX0_traced_31
  have hP0 : P0 = P0 := rfl
  unfold hm_X0_traced at h
  refine lv_iload_n hx hb dX0_traced_0 rfl (lv_at hl 1 rfl) ?_
  refine lv_if_lt (tgt := 30) hx hb dX0_traced_1 (by decide) (fun q => ?_) (fun q => ?_)
  · replace h := br_p q h
    exact J30   P0 h _ _ _ (lv_sub hl [] rfl) w
  · replace h := br_n q h
    refine lv_iload_n hx hb dX0_traced_4 rfl (lv_at hl 1 rfl) ?_
    refine lv_aload_n hx hb dX0_traced_5 rfl (lv_at hl 0 rfl) ?_
    replace h := ck_e h
    obtain ⟨hk_201, h⟩ := h
    refine cw_getI cx hsub w kT1 hk_201 1 (by decide) ⟨hsub _ uf_RX0_49, Or.inl rfl⟩ dX0_traced_6 ?_
    refine lv_icmp_ge (tgt := 30) hx hb dX0_traced_9 (by decide) (fun q => ?_) (fun q => ?_)
    · replace h := br_p q h
      exact J30   P0 h _ _ _ (lv_sub hl [] rfl) w
    · replace h := br_n q h
      refine lv_iload_n hx hb dX0_traced_12 rfl (lv_at hl 1 rfl) ?_
      refine lv_aload_n hx hb dX0_traced_13 rfl (lv_at hl 0 rfl) ?_
      replace h := nn_e h
      obtain ⟨b_202, hbb_202, h⟩ := h
      refine cw_getS cx hsub w kT1 hk_201 0 (by decide) hbb_202 ⟨hsub _ uf_RX0_9, Or.inl rfl⟩ dX0_traced_14 ?_
      replace h := ck_e h
      obtain ⟨hk_203, h⟩ := h
      refine cw_alen cx w hk_203 rfl dX0_traced_17 ?_
      refine lv_icmp_ge (tgt := 30) hx hb dX0_traced_18 (by decide) (fun q => ?_) (fun q => ?_)
      · replace h := br_p q h
        exact J30   P0 h _ _ _ (lv_sub hl [] rfl) w
      · replace h := br_n q h
        refine lv_aload_n hx hb dX0_traced_21 rfl (lv_at hl 0 rfl) ?_
        replace h := nn_e h
        obtain ⟨b_204, hbb_204, h⟩ := h
        refine cw_getS cx hsub w kT1 hk_201 0 (by decide) hbb_204 ⟨hsub _ uf_RX0_9, Or.inl rfl⟩ dX0_traced_22 ?_
        refine lv_iload_n hx hb dX0_traced_25 rfl (lv_at hl 1 rfl) ?_
        replace h := ck_e h
        obtain ⟨hk_205, h⟩ := h
        replace h := ck_e h
        obtain ⟨hq_206, h⟩ := h
        refine cw_iald cx w hk_205 hq_206 dX0_traced_26 ?_
        refine lv_goto (tgt := 31) hx hb dX0_traced_27 (by decide) ?_
        exact cw_iret cx (rt_e h) w dX0_traced_31
def hm_X1_init (P : PS) (th : Nat) (a1 : Int32) (a2 : Int32) (a3 : Nat) : Option (Int32 × PS) := ck (kk P th 2) (lt_ (pIu P th 0 a1) (fun P_102 => lt_ (pIu P_102 th 1 a2) (fun P_104 => lt_ (pRu P_104 th 2 (some a3)) (fun P_106 => some ((0 : Int32), P_106)))))
abbrev wu_X1_init : List Cond := .code yX1_init cX1_init 4 none :: wsL_law
theorem ud_X1_init : yX1_init.cls = RX1 ∧ yX1_init.cls ≠ "java/lang/invoke/MethodHandle" ∧ yX1_init.cls ≠ "java/lang/invoke/VarHandle" ∧ (parseMethodDescriptor yX1_init.desc).map (fun d => d.parameters.length) = some 3 := by decide +kernel
abbrev rmc_X1_init : Room := { frames := 1, cells := 0, slots := 0, locals := 40 }
set_option maxHeartbeats 4000000 in
set_option maxRecDepth 100000 in
theorem hcc_X1_init (l : Launch) (D : va_G) (cs : Nat → ClassId) (t0 : TS) (P0 T : PS) (th : Nat) (a1 : Int32) (a2 : Int32) (a3 : Nat) (r0 : Int32) (h : hm_X1_init P0 th a1 a2 a3 = some (r0, T)) : MetCV l yX1_init wu_X1_init rmc_X1_init D cs t0 [.ref th, .int a1, .int a2, .ref a3] P0 T r0 0 0 := by
  refine co_start (own := RX1) (ty := none) (cc := cX1_init) (maxL := 4) ⟨by decide, rfl⟩ rfl (Nat.le_of_ble_eq_true rfl) ?_
  intro p e s m args below meth c ls cx hnm hl w
  have hx := cx.1
  have hb := cx.2.1
  have hts := cx.2.2.2.1
  have hown := cx.2.2.2.2.1
  have hml := cx.2.2.2.2.2.2
  have hsub : ∀ w ∈ wsL_law, w ∈ wu_X1_init := fun _ hq => List.mem_cons_of_mem _ hq
  have hl : lv_has ls 4 [(0, .ref th), (1, .int a1), (2, .int a2), (3, .ref a3)] := hl
  have hP0 : P0 = P0 := rfl
  unfold hm_X1_init at h
  refine lv_aload_n hx hb dX1_init_0 rfl (lv_at hl 0 rfl) ?_
  refine W.objInit hx hb hown (hts _ (hsub _ ul_RX1_3)) (hts _ (hsub _ uoi_i)) (hts _ (hsub _ uoi_c)) rfl (by rw [hml]; exact hl.1) rfl dX1_init_1 (Nat.le_of_ble_eq_true rfl) (Nat.le_of_ble_eq_true rfl) ?_
  refine W.eq (g2 := F0 m _ ls []) rfl ?_
  refine lv_aload_n hx hb dX1_init_4 rfl (lv_at hl 0 rfl) ?_
  refine lv_iload_n hx hb dX1_init_5 rfl (lv_at hl 1 rfl) ?_
  replace h := ck_e h
  obtain ⟨hk_101, h⟩ := h
  replace h := lt_e h
  obtain ⟨P_102, eP_102, h⟩ := h
  refine cw_putI cx hsub w kT2 hk_101 0 eP_102 ⟨by decide, by decide, rfl⟩ (Or.inr ⟨rfl, hnm, rfl⟩) ⟨hsub _ uf_RX1_9, Or.inl rfl⟩ dX1_init_6 (fun H locs w => ?_)
  refine lv_aload_n hx hb dX1_init_9 rfl (lv_at hl 0 rfl) ?_
  refine lv_iload_n hx hb dX1_init_10 rfl (lv_at hl 2 rfl) ?_
  have hk_103 : kk P_102 th 2 = true := by rw [eP_102]; exact hk_101
  replace h := lt_e h
  obtain ⟨P_104, eP_104, h⟩ := h
  refine cw_putI cx hsub w kT2 hk_103 1 eP_104 ⟨by decide, by decide, rfl⟩ (Or.inr ⟨rfl, hnm, rfl⟩) ⟨hsub _ uf_RX1_15, Or.inl rfl⟩ dX1_init_11 (fun H locs w => ?_)
  refine lv_aload_n hx hb dX1_init_14 rfl (lv_at hl 0 rfl) ?_
  refine lv_aload_n hx hb dX1_init_15 rfl (lv_at hl 3 rfl) ?_
  have hk_105 : kk P_104 th 2 = true := by rw [eP_104]; exact hk_103
  replace h := lt_e h
  obtain ⟨P_106, eP_106, h⟩ := h
  refine cw_putR cx hsub w kT2 hk_105 2 (v := (some a3)) eP_106 (by decide) (by first | exact Or.inl ⟨_, rfl⟩ | exact Or.inr ⟨_, rfl⟩) (Or.inr ⟨rfl, hnm, rfl⟩) ⟨hsub _ uf_RX1_18, Or.inl rfl⟩ dX1_init_16 (fun H locs w => ?_)
  exact cw_vret cx (rt_e h) w dX1_init_19
def hm_X1_passes_272  (P : PS) : Option (Int32 × PS) := some ((0 : Int32), P)
def hm_X1_passes (P : PS) (a1 : Int32) (a2 : Nat) (a3 : Int32) (a4 : Int32) (a5 : Int32) : Option (Int32 × PS) := lt_ ((a1 - a1 / (10 : Int32) * (10 : Int32))) (fun x5_201 => if (a1 / (10 : Int32)) = (0 : Int32) then (ck (kk P a2 8) (if x5_201 ≤ (pI P a2 1) then (some ((0 : Int32), P)) else (some ((1 : Int32), P)))) else (if (a1 / (10 : Int32)) = (1 : Int32) then (ck (kk P a2 8) (if (pI P a2 1) = x5_201 then (some ((1 : Int32), P)) else (some ((0 : Int32), P)))) else (if (a1 / (10 : Int32)) = (2 : Int32) then (ck (kk P a2 8) (if (pI P a2 1) ≤ x5_201 then (some ((0 : Int32), P)) else (some ((1 : Int32), P)))) else (if (a1 / (10 : Int32)) = (3 : Int32) then (if x5_201 ≤ a5 then (some ((0 : Int32), P)) else (some ((1 : Int32), P))) else (if (a1 / (10 : Int32)) = (4 : Int32) then (if a5 = x5_201 then (some ((1 : Int32), P)) else (some ((0 : Int32), P))) else (if (a1 / (10 : Int32)) = (5 : Int32) then (if a5 ≤ x5_201 then (some ((0 : Int32), P)) else (some ((1 : Int32), P))) else (if (a1 / (10 : Int32)) = (7 : Int32) then (ck (kk P a2 8) (if (((pI P a2 2) >>> (x5_201 &&& 31)) &&& (1 : Int32)) = (0 : Int32) then (some ((0 : Int32), P)) else (some ((1 : Int32), P)))) else (if (a1 / (10 : Int32)) = (10 : Int32) then (ck (kk P a2 8) (nn (pR P a2 3) (fun b_215 => ck (kk P b_215 3) (if (pI P b_215 0) = x5_201 then (some ((1 : Int32), P)) else (some ((0 : Int32), P)))))) else (if (a1 / (10 : Int32)) = (13 : Int32) then (ck (kk P a2 8) (nn (pR P a2 3) (fun b_219 => ck (kk P b_219 3) (if (((pI P b_219 1) >>> (x5_201 &&& 31)) &&& (1 : Int32)) = (0 : Int32) then (some ((0 : Int32), P)) else (some ((1 : Int32), P)))))) else (if (a1 / (10 : Int32)) = (16 : Int32) then (if a3 = x5_201 then (some ((1 : Int32), P)) else (some ((0 : Int32), P))) else (if (a1 / (10 : Int32)) = (19 : Int32) then (if ((a4 >>> (x5_201 &&& 31)) &&& (1 : Int32)) = (0 : Int32) then (some ((0 : Int32), P)) else (some ((1 : Int32), P))) else (hm_X1_passes_272   P))))))))))))
abbrev wu_X1_passes : List Cond := .code yX1_passes cX1_passes 6 (some .boolean) :: wsL_law
theorem ud_X1_passes : yX1_passes.cls = RX1 ∧ yX1_passes.cls ≠ "java/lang/invoke/MethodHandle" ∧ yX1_passes.cls ≠ "java/lang/invoke/VarHandle" ∧ (parseMethodDescriptor yX1_passes.desc).map (fun d => d.parameters.length) = some 5 := by decide +kernel
abbrev rmc_X1_passes : Room := { frames := 0, cells := 0, slots := 0, locals := 0 }
set_option maxHeartbeats 4000000 in
set_option maxRecDepth 100000 in
theorem hcc_X1_passes (l : Launch) (D : va_G) (cs : Nat → ClassId) (t0 : TS) (P0 T : PS) (a1 : Int32) (a2 : Nat) (a3 : Int32) (a4 : Int32) (a5 : Int32) (r0 : Int32) (h : hm_X1_passes P0 a1 a2 a3 a4 a5 = some (r0, T)) : MetCI l yX1_passes wu_X1_passes rmc_X1_passes D cs t0 [.int a1, .ref a2, .int a3, .int a4, .int a5] P0 T r0 0 0 := by
  refine co_start (own := RX1) (ty := (some .boolean)) (cc := cX1_passes) (maxL := 6) ⟨by decide, rfl⟩ rfl (Nat.le_of_ble_eq_true rfl) ?_
  intro p e s m args below meth c ls cx hnm hl w
  have hx := cx.1
  have hb := cx.2.1
  have hts := cx.2.2.2.1
  have hown := cx.2.2.2.2.1
  have hml := cx.2.2.2.2.2.2
  have hsub : ∀ w ∈ wsL_law, w ∈ wu_X1_passes := fun _ hq => List.mem_cons_of_mem _ hq
  have hl : lv_has ls 6 [(0, .int a1), (1, .ref a2), (2, .int a3), (3, .int a4), (4, .int a5)] := hl
  have J272 : ∀  (P : PS), hm_X1_passes_272   P = some (r0, T) → cGo p l e rmc_X1_passes s m args below meth c 6 D cs t0 (pA P0) (cQI below D cs P0 args s 0 0 r0 T) 0 0 272 [] [] P := by
    intro  P h H locs ls hl w
    unfold hm_X1_passes_272 at h
    refine lv_iconst (v := (0 : Int32)) hx hb dX1_passes_272 (by decide) ?_
    exact cw_zret cx (Or.inl rfl) (rt_e h) w dX1_passes_273
  have hP0 : P0 = P0 := rfl
  unfold hm_X1_passes at h
  refine lv_iload_n hx hb dX1_passes_0 rfl (lv_at hl 0 rfl) ?_
  refine lv_bipush (v := (10 : Int32)) hx hb dX1_passes_1 (by decide) ?_
  refine lv_irem hx hb dX1_passes_3 (by decide) ?_
  replace h := lt_e h
  obtain ⟨x5_201, ex5_201, h⟩ := h
  refine top_i ex5_201 ?_
  refine lv_istore (lv' := [(5, .int x5_201), (0, .int a1), (1, .ref a2), (2, .int a3), (3, .int a4), (4, .int a5)]) hx hb dX1_passes_4 hl (by decide) (rfl) (fun ls hl => ?_)
  refine lv_iload_n hx hb dX1_passes_6 rfl (lv_at hl 1 rfl) ?_
  refine lv_bipush (v := (10 : Int32)) hx hb dX1_passes_7 (by decide) ?_
  refine lv_idiv hx hb dX1_passes_9 (by decide) ?_
  by_cases q_202 : (a1 / (10 : Int32)) = (0 : Int32)
  · replace h := br_p q_202 h
    refine lv_tableIn (tgt := 104) hx hb dX1_passes_10 (by rw [q_202]; decide) (by rw [q_202]; decide) (by rw [q_202]; rfl) (by decide) ?_
    refine lv_aload_n hx hb dX1_passes_104 rfl (lv_at hl 2 rfl) ?_
    replace h := ck_e h
    obtain ⟨hk_203, h⟩ := h
    refine cw_getI cx hsub w kT8 hk_203 1 (by decide) ⟨hsub _ uf_RX1_26, Or.inl rfl⟩ dX1_passes_105 ?_
    refine lv_iload hx hb dX1_passes_108 (lv_at hl 0 rfl) ?_
    refine lv_icmp_ge (tgt := 117) hx hb dX1_passes_110 (by decide) (fun q => ?_) (fun q => ?_)
    · replace h := br_p q h
      refine lv_iconst (v := (0 : Int32)) hx hb dX1_passes_117 (by decide) ?_
      exact cw_zret cx (Or.inl rfl) (rt_e h) w dX1_passes_118
    · replace h := br_n q h
      refine lv_iconst (v := (1 : Int32)) hx hb dX1_passes_113 (by decide) ?_
      refine lv_goto (tgt := 118) hx hb dX1_passes_114 (by decide) ?_
      exact cw_zret cx (Or.inr rfl) (rt_e h) w dX1_passes_118
  replace h := br_n q_202 h
  by_cases q_204 : (a1 / (10 : Int32)) = (1 : Int32)
  · replace h := br_p q_204 h
    refine lv_tableIn (tgt := 119) hx hb dX1_passes_10 (by rw [q_204]; decide) (by rw [q_204]; decide) (by rw [q_204]; rfl) (by decide) ?_
    refine lv_aload_n hx hb dX1_passes_119 rfl (lv_at hl 2 rfl) ?_
    replace h := ck_e h
    obtain ⟨hk_205, h⟩ := h
    refine cw_getI cx hsub w kT8 hk_205 1 (by decide) ⟨hsub _ uf_RX1_26, Or.inl rfl⟩ dX1_passes_120 ?_
    refine lv_iload hx hb dX1_passes_123 (lv_at hl 0 rfl) ?_
    refine lv_icmp_ne (tgt := 132) hx hb dX1_passes_125 (by decide) (fun q => ?_) (fun q => ?_)
    · replace h := br_n q h
      refine lv_iconst (v := (0 : Int32)) hx hb dX1_passes_132 (by decide) ?_
      exact cw_zret cx (Or.inl rfl) (rt_e h) w dX1_passes_133
    · replace h := br_p q h
      refine lv_iconst (v := (1 : Int32)) hx hb dX1_passes_128 (by decide) ?_
      refine lv_goto (tgt := 133) hx hb dX1_passes_129 (by decide) ?_
      exact cw_zret cx (Or.inr rfl) (rt_e h) w dX1_passes_133
  replace h := br_n q_204 h
  by_cases q_206 : (a1 / (10 : Int32)) = (2 : Int32)
  · replace h := br_p q_206 h
    refine lv_tableIn (tgt := 134) hx hb dX1_passes_10 (by rw [q_206]; decide) (by rw [q_206]; decide) (by rw [q_206]; rfl) (by decide) ?_
    refine lv_aload_n hx hb dX1_passes_134 rfl (lv_at hl 2 rfl) ?_
    replace h := ck_e h
    obtain ⟨hk_207, h⟩ := h
    refine cw_getI cx hsub w kT8 hk_207 1 (by decide) ⟨hsub _ uf_RX1_26, Or.inl rfl⟩ dX1_passes_135 ?_
    refine lv_iload hx hb dX1_passes_138 (lv_at hl 0 rfl) ?_
    refine lv_icmp_le (tgt := 147) hx hb dX1_passes_140 (by decide) (fun q => ?_) (fun q => ?_)
    · replace h := br_p q h
      refine lv_iconst (v := (0 : Int32)) hx hb dX1_passes_147 (by decide) ?_
      exact cw_zret cx (Or.inl rfl) (rt_e h) w dX1_passes_148
    · replace h := br_n q h
      refine lv_iconst (v := (1 : Int32)) hx hb dX1_passes_143 (by decide) ?_
      refine lv_goto (tgt := 148) hx hb dX1_passes_144 (by decide) ?_
      exact cw_zret cx (Or.inr rfl) (rt_e h) w dX1_passes_148
  replace h := br_n q_206 h
  by_cases q_208 : (a1 / (10 : Int32)) = (3 : Int32)
  · replace h := br_p q_208 h
    refine lv_tableIn (tgt := 149) hx hb dX1_passes_10 (by rw [q_208]; decide) (by rw [q_208]; decide) (by rw [q_208]; rfl) (by decide) ?_
    refine lv_iload hx hb dX1_passes_149 (lv_at hl 5 rfl) ?_
    refine lv_iload hx hb dX1_passes_151 (lv_at hl 0 rfl) ?_
    refine lv_icmp_ge (tgt := 160) hx hb dX1_passes_153 (by decide) (fun q => ?_) (fun q => ?_)
    · replace h := br_p q h
      refine lv_iconst (v := (0 : Int32)) hx hb dX1_passes_160 (by decide) ?_
      exact cw_zret cx (Or.inl rfl) (rt_e h) w dX1_passes_161
    · replace h := br_n q h
      refine lv_iconst (v := (1 : Int32)) hx hb dX1_passes_156 (by decide) ?_
      refine lv_goto (tgt := 161) hx hb dX1_passes_157 (by decide) ?_
      exact cw_zret cx (Or.inr rfl) (rt_e h) w dX1_passes_161
  replace h := br_n q_208 h
  by_cases q_209 : (a1 / (10 : Int32)) = (4 : Int32)
  · replace h := br_p q_209 h
    refine lv_tableIn (tgt := 162) hx hb dX1_passes_10 (by rw [q_209]; decide) (by rw [q_209]; decide) (by rw [q_209]; rfl) (by decide) ?_
    refine lv_iload hx hb dX1_passes_162 (lv_at hl 5 rfl) ?_
    refine lv_iload hx hb dX1_passes_164 (lv_at hl 0 rfl) ?_
    refine lv_icmp_ne (tgt := 173) hx hb dX1_passes_166 (by decide) (fun q => ?_) (fun q => ?_)
    · replace h := br_n q h
      refine lv_iconst (v := (0 : Int32)) hx hb dX1_passes_173 (by decide) ?_
      exact cw_zret cx (Or.inl rfl) (rt_e h) w dX1_passes_174
    · replace h := br_p q h
      refine lv_iconst (v := (1 : Int32)) hx hb dX1_passes_169 (by decide) ?_
      refine lv_goto (tgt := 174) hx hb dX1_passes_170 (by decide) ?_
      exact cw_zret cx (Or.inr rfl) (rt_e h) w dX1_passes_174
  replace h := br_n q_209 h
  by_cases q_210 : (a1 / (10 : Int32)) = (5 : Int32)
  · replace h := br_p q_210 h
    refine lv_tableIn (tgt := 175) hx hb dX1_passes_10 (by rw [q_210]; decide) (by rw [q_210]; decide) (by rw [q_210]; rfl) (by decide) ?_
    refine lv_iload hx hb dX1_passes_175 (lv_at hl 5 rfl) ?_
    refine lv_iload hx hb dX1_passes_177 (lv_at hl 0 rfl) ?_
    refine lv_icmp_le (tgt := 186) hx hb dX1_passes_179 (by decide) (fun q => ?_) (fun q => ?_)
    · replace h := br_p q h
      refine lv_iconst (v := (0 : Int32)) hx hb dX1_passes_186 (by decide) ?_
      exact cw_zret cx (Or.inl rfl) (rt_e h) w dX1_passes_187
    · replace h := br_n q h
      refine lv_iconst (v := (1 : Int32)) hx hb dX1_passes_182 (by decide) ?_
      refine lv_goto (tgt := 187) hx hb dX1_passes_183 (by decide) ?_
      exact cw_zret cx (Or.inr rfl) (rt_e h) w dX1_passes_187
  replace h := br_n q_210 h
  by_cases q_211 : (a1 / (10 : Int32)) = (7 : Int32)
  · replace h := br_p q_211 h
    refine lv_tableIn (tgt := 188) hx hb dX1_passes_10 (by rw [q_211]; decide) (by rw [q_211]; decide) (by rw [q_211]; rfl) (by decide) ?_
    refine lv_aload_n hx hb dX1_passes_188 rfl (lv_at hl 2 rfl) ?_
    replace h := ck_e h
    obtain ⟨hk_212, h⟩ := h
    refine cw_getI cx hsub w kT8 hk_212 2 (by decide) ⟨hsub _ uf_RX1_31, Or.inl rfl⟩ dX1_passes_189 ?_
    refine lv_iload hx hb dX1_passes_192 (lv_at hl 0 rfl) ?_
    refine lv_ishr hx hb dX1_passes_194 ?_
    refine lv_iconst (v := (1 : Int32)) hx hb dX1_passes_195 (by decide) ?_
    refine lv_iand hx hb dX1_passes_196 ?_
    refine lv_if_eq (tgt := 204) hx hb dX1_passes_197 (by decide) (fun q => ?_) (fun q => ?_)
    · replace h := br_p q h
      refine lv_iconst (v := (0 : Int32)) hx hb dX1_passes_204 (by decide) ?_
      exact cw_zret cx (Or.inl rfl) (rt_e h) w dX1_passes_205
    · replace h := br_n q h
      refine lv_iconst (v := (1 : Int32)) hx hb dX1_passes_200 (by decide) ?_
      refine lv_goto (tgt := 205) hx hb dX1_passes_201 (by decide) ?_
      exact cw_zret cx (Or.inr rfl) (rt_e h) w dX1_passes_205
  replace h := br_n q_211 h
  by_cases q_213 : (a1 / (10 : Int32)) = (10 : Int32)
  · replace h := br_p q_213 h
    refine lv_tableIn (tgt := 206) hx hb dX1_passes_10 (by rw [q_213]; decide) (by rw [q_213]; decide) (by rw [q_213]; rfl) (by decide) ?_
    refine lv_aload_n hx hb dX1_passes_206 rfl (lv_at hl 2 rfl) ?_
    replace h := ck_e h
    obtain ⟨hk_214, h⟩ := h
    replace h := nn_e h
    obtain ⟨b_215, hbb_215, h⟩ := h
    refine cw_getS cx hsub w kT8 hk_214 3 (by decide) hbb_215 ⟨hsub _ uf_RX1_34, Or.inl rfl⟩ dX1_passes_207 ?_
    replace h := ck_e h
    obtain ⟨hk_216, h⟩ := h
    refine cw_getI cx hsub w kT3 hk_216 0 (by decide) ⟨hsub _ uf_RX1_38, Or.inl rfl⟩ dX1_passes_210 ?_
    refine lv_iload hx hb dX1_passes_213 (lv_at hl 0 rfl) ?_
    refine lv_icmp_ne (tgt := 222) hx hb dX1_passes_215 (by decide) (fun q => ?_) (fun q => ?_)
    · replace h := br_n q h
      refine lv_iconst (v := (0 : Int32)) hx hb dX1_passes_222 (by decide) ?_
      exact cw_zret cx (Or.inl rfl) (rt_e h) w dX1_passes_223
    · replace h := br_p q h
      refine lv_iconst (v := (1 : Int32)) hx hb dX1_passes_218 (by decide) ?_
      refine lv_goto (tgt := 223) hx hb dX1_passes_219 (by decide) ?_
      exact cw_zret cx (Or.inr rfl) (rt_e h) w dX1_passes_223
  replace h := br_n q_213 h
  by_cases q_217 : (a1 / (10 : Int32)) = (13 : Int32)
  · replace h := br_p q_217 h
    refine lv_tableIn (tgt := 224) hx hb dX1_passes_10 (by rw [q_217]; decide) (by rw [q_217]; decide) (by rw [q_217]; rfl) (by decide) ?_
    refine lv_aload_n hx hb dX1_passes_224 rfl (lv_at hl 2 rfl) ?_
    replace h := ck_e h
    obtain ⟨hk_218, h⟩ := h
    replace h := nn_e h
    obtain ⟨b_219, hbb_219, h⟩ := h
    refine cw_getS cx hsub w kT8 hk_218 3 (by decide) hbb_219 ⟨hsub _ uf_RX1_34, Or.inl rfl⟩ dX1_passes_225 ?_
    replace h := ck_e h
    obtain ⟨hk_220, h⟩ := h
    refine cw_getI cx hsub w kT3 hk_220 1 (by decide) ⟨hsub _ uf_RX1_43, Or.inl rfl⟩ dX1_passes_228 ?_
    refine lv_iload hx hb dX1_passes_231 (lv_at hl 0 rfl) ?_
    refine lv_ishr hx hb dX1_passes_233 ?_
    refine lv_iconst (v := (1 : Int32)) hx hb dX1_passes_234 (by decide) ?_
    refine lv_iand hx hb dX1_passes_235 ?_
    refine lv_if_eq (tgt := 243) hx hb dX1_passes_236 (by decide) (fun q => ?_) (fun q => ?_)
    · replace h := br_p q h
      refine lv_iconst (v := (0 : Int32)) hx hb dX1_passes_243 (by decide) ?_
      exact cw_zret cx (Or.inl rfl) (rt_e h) w dX1_passes_244
    · replace h := br_n q h
      refine lv_iconst (v := (1 : Int32)) hx hb dX1_passes_239 (by decide) ?_
      refine lv_goto (tgt := 244) hx hb dX1_passes_240 (by decide) ?_
      exact cw_zret cx (Or.inr rfl) (rt_e h) w dX1_passes_244
  replace h := br_n q_217 h
  by_cases q_221 : (a1 / (10 : Int32)) = (16 : Int32)
  · replace h := br_p q_221 h
    refine lv_tableIn (tgt := 245) hx hb dX1_passes_10 (by rw [q_221]; decide) (by rw [q_221]; decide) (by rw [q_221]; rfl) (by decide) ?_
    refine lv_iload_n hx hb dX1_passes_245 rfl (lv_at hl 3 rfl) ?_
    refine lv_iload hx hb dX1_passes_246 (lv_at hl 0 rfl) ?_
    refine lv_icmp_ne (tgt := 255) hx hb dX1_passes_248 (by decide) (fun q => ?_) (fun q => ?_)
    · replace h := br_n q h
      refine lv_iconst (v := (0 : Int32)) hx hb dX1_passes_255 (by decide) ?_
      exact cw_zret cx (Or.inl rfl) (rt_e h) w dX1_passes_256
    · replace h := br_p q h
      refine lv_iconst (v := (1 : Int32)) hx hb dX1_passes_251 (by decide) ?_
      refine lv_goto (tgt := 256) hx hb dX1_passes_252 (by decide) ?_
      exact cw_zret cx (Or.inr rfl) (rt_e h) w dX1_passes_256
  replace h := br_n q_221 h
  by_cases q_222 : (a1 / (10 : Int32)) = (19 : Int32)
  · replace h := br_p q_222 h
    refine lv_tableIn (tgt := 257) hx hb dX1_passes_10 (by rw [q_222]; decide) (by rw [q_222]; decide) (by rw [q_222]; rfl) (by decide) ?_
    refine lv_iload_n hx hb dX1_passes_257 rfl (lv_at hl 4 rfl) ?_
    refine lv_iload hx hb dX1_passes_258 (lv_at hl 0 rfl) ?_
    refine lv_ishr hx hb dX1_passes_260 ?_
    refine lv_iconst (v := (1 : Int32)) hx hb dX1_passes_261 (by decide) ?_
    refine lv_iand hx hb dX1_passes_262 ?_
    refine lv_if_eq (tgt := 270) hx hb dX1_passes_263 (by decide) (fun q => ?_) (fun q => ?_)
    · replace h := br_p q h
      refine lv_iconst (v := (0 : Int32)) hx hb dX1_passes_270 (by decide) ?_
      exact cw_zret cx (Or.inl rfl) (rt_e h) w dX1_passes_271
    · replace h := br_n q h
      refine lv_iconst (v := (1 : Int32)) hx hb dX1_passes_266 (by decide) ?_
      refine lv_goto (tgt := 271) hx hb dX1_passes_267 (by decide) ?_
      exact cw_zret cx (Or.inr rfl) (rt_e h) w dX1_passes_271
  replace h := br_n q_222 h
  refine lv_tableH (tgt := 272) hx hb dX1_passes_10 (by by_cases q_223 : (a1 / (10 : Int32)) = (6 : Int32); exact Or.inr ⟨by rw [q_223]; decide, by rw [q_223]; decide, by rw [q_223]; rfl⟩; by_cases q_224 : (a1 / (10 : Int32)) = (8 : Int32); exact Or.inr ⟨by rw [q_224]; decide, by rw [q_224]; decide, by rw [q_224]; rfl⟩; by_cases q_225 : (a1 / (10 : Int32)) = (9 : Int32); exact Or.inr ⟨by rw [q_225]; decide, by rw [q_225]; decide, by rw [q_225]; rfl⟩; by_cases q_226 : (a1 / (10 : Int32)) = (11 : Int32); exact Or.inr ⟨by rw [q_226]; decide, by rw [q_226]; decide, by rw [q_226]; rfl⟩; by_cases q_227 : (a1 / (10 : Int32)) = (12 : Int32); exact Or.inr ⟨by rw [q_227]; decide, by rw [q_227]; decide, by rw [q_227]; rfl⟩; by_cases q_228 : (a1 / (10 : Int32)) = (14 : Int32); exact Or.inr ⟨by rw [q_228]; decide, by rw [q_228]; decide, by rw [q_228]; rfl⟩; by_cases q_229 : (a1 / (10 : Int32)) = (15 : Int32); exact Or.inr ⟨by rw [q_229]; decide, by rw [q_229]; decide, by rw [q_229]; rfl⟩; by_cases q_230 : (a1 / (10 : Int32)) = (17 : Int32); exact Or.inr ⟨by rw [q_230]; decide, by rw [q_230]; decide, by rw [q_230]; rfl⟩; by_cases q_231 : (a1 / (10 : Int32)) = (18 : Int32); exact Or.inr ⟨by rw [q_231]; decide, by rw [q_231]; decide, by rw [q_231]; rfl⟩; exact Or.inl (by have := lv_neT q_202 (a := 0) (by decide); have := lv_neT q_204 (a := 1) (by decide); have := lv_neT q_206 (a := 2) (by decide); have := lv_neT q_208 (a := 3) (by decide); have := lv_neT q_209 (a := 4) (by decide); have := lv_neT q_210 (a := 5) (by decide); have := lv_neT q_211 (a := 7) (by decide); have := lv_neT q_213 (a := 10) (by decide); have := lv_neT q_217 (a := 13) (by decide); have := lv_neT q_221 (a := 16) (by decide); have := lv_neT q_222 (a := 19) (by decide); have := lv_neT q_223 (a := 6) (by decide); have := lv_neT q_224 (a := 8) (by decide); have := lv_neT q_225 (a := 9) (by decide); have := lv_neT q_226 (a := 11) (by decide); have := lv_neT q_227 (a := 12) (by decide); have := lv_neT q_228 (a := 14) (by decide); have := lv_neT q_229 (a := 15) (by decide); have := lv_neT q_230 (a := 17) (by decide); have := lv_neT q_231 (a := 18) (by decide); omega)) (by decide) ?_
  exact J272   P0 h _ _ _ (lv_sub hl [] rfl) w
def hm_X1_holds_122 (k17 : Nat → Int32 → Int32 → Int32 → Int32 → Nat → Int32 → Int32 → PS → Option (Int32 × PS)) (o1 : Nat) (x2 : Int32) (x3 : Int32) (x4 : Int32) (x5 : Int32) (o6 : Nat) (x7 : Int32) (x8 : Int32) (P : PS) : Option (Int32 × PS) := lt_ (x8 + (1 : Int32)) (fun x8_101 => k17 o1 x2 x3 x4 x5 o6 x7 x8_101 P)
def hm_X1_holds_119 (k17 : Nat → Int32 → Int32 → Int32 → Int32 → Nat → Int32 → Int32 → PS → Option (Int32 × PS)) (o1 : Nat) (x2 : Int32) (x3 : Int32) (x4 : Int32) (o6 : Nat) (x7 : Int32) (x8 : Int32) (sv0 : Int32) (sv1 : Int32) (P : PS) : Option (Int32 × PS) := lt_ ((sv0 ||| sv1)) (fun x5_202 => hm_X1_holds_122 k17 o1 x2 x3 x4 x5_202 o6 x7 x8 P)
def hm_X1_holds_17 (k17 : Nat → Int32 → Int32 → Int32 → Int32 → Nat → Int32 → Int32 → PS → Option (Int32 × PS)) (o1 : Nat) (x2 : Int32) (x3 : Int32) (x4 : Int32) (x5 : Int32) (o6 : Nat) (x7 : Int32) (x8 : Int32) (P : PS) : Option (Int32 × PS) := if x7 ≤ x8 then (if (x5 &&& (1 : Int32)) = (0 : Int32) then (some ((0 : Int32), P)) else (some ((1 : Int32), P))) else (ck (kk P o6 12) (ck (vin x8 (pN P o6)) (lt_ ((pI P o6 (x8).toNatClampNeg)) (fun x9_305 => lt_ ((x9_305 / (10 : Int32))) (fun x10_306 => if x10_306 = (21 : Int32) then (lt_ ((x5 ^^^ (1 : Int32))) (fun x5_312 => hm_X1_holds_122 k17 o1 x2 x3 x4 x5_312 o6 x7 x8 P)) else (if x10_306 = (22 : Int32) then (lt_ (((x5 >>> ((1 : Int32) &&& 31)) &&& (x5 ||| (-2 : Int32)))) (fun x5_311 => hm_X1_holds_122 k17 o1 x2 x3 x4 x5_311 o6 x7 x8 P)) else (if x10_306 = (23 : Int32) then (lt_ (((x5 >>> ((1 : Int32) &&& 31)) ||| (x5 &&& (1 : Int32)))) (fun x5_310 => hm_X1_holds_122 k17 o1 x2 x3 x4 x5_310 o6 x7 x8 P)) else (bd (hm_X1_passes  P x9_305 o1 x2 x3 x4) (fun r_308 P_307 => if r_308 = (0 : Int32) then (hm_X1_holds_119 k17 o1 x2 x3 x4 o6 x7 x8 (x5 <<< ((1 : Int32) &&& 31)) (0 : Int32) P_307) else (hm_X1_holds_119 k17 o1 x2 x3 x4 o6 x7 x8 (x5 <<< ((1 : Int32) &&& 31)) (1 : Int32) P_307))))))))))
def hm_X1_holds_17L : Nat → Nat → Int32 → Int32 → Int32 → Int32 → Nat → Int32 → Int32 → PS → Option (Int32 × PS)
  | 0, _, _, _, _, _, _, _, _, _ => none
  | n + 1, o1, x2, x3, x4, x5, o6, x7, x8, P => hm_X1_holds_17  (hm_X1_holds_17L  n) o1 x2 x3 x4 x5 o6 x7 x8 P
def hm_X1_holds (P : PS) (th : Nat) (a1 : Nat) (a2 : Int32) (a3 : Int32) (a4 : Int32) : Option (Int32 × PS) := lt_ ((0 : Int32)) (fun x5_413 => ck (kk P th 2) (nn (pR P th 2) (fun b_415 => ck (kk P b_415 12) (lt_ ((nI (pN P b_415))) (fun x7_417 => lt_ ((0 : Int32)) (fun x8_418 => hm_X1_holds_17L  4000 a1 a2 a3 a4 x5_413 b_415 x7_417 x8_418 P))))))
abbrev wu_X1_holds : List Cond := .code yX1_holds cX1_holds 11 (some .boolean) :: wsL_law
theorem ud_X1_holds : yX1_holds.cls = RX1 ∧ yX1_holds.cls ≠ "java/lang/invoke/MethodHandle" ∧ yX1_holds.cls ≠ "java/lang/invoke/VarHandle" ∧ (parseMethodDescriptor yX1_holds.desc).map (fun d => d.parameters.length) = some 4 := by decide +kernel
abbrev rmc_X1_holds : Room := { frames := 1, cells := 0, slots := 0, locals := 25 }
set_option maxHeartbeats 4000000 in
set_option maxRecDepth 100000 in
theorem hcc_X1_holds (l : Launch) (D : va_G) (cs : Nat → ClassId) (t0 : TS) (P0 T : PS) (th : Nat) (a1 : Nat) (a2 : Int32) (a3 : Int32) (a4 : Int32) (r0 : Int32) (h : hm_X1_holds P0 th a1 a2 a3 a4 = some (r0, T)) : MetCI l yX1_holds wu_X1_holds rmc_X1_holds D cs t0 [.ref th, .ref a1, .int a2, .int a3, .int a4] P0 T r0 0 0 := by
  refine co_start (own := RX1) (ty := (some .boolean)) (cc := cX1_holds) (maxL := 11) ⟨by decide, rfl⟩ rfl (Nat.le_of_ble_eq_true rfl) ?_
  intro p e s m args below meth c ls cx hnm hl w
  have hx := cx.1
  have hb := cx.2.1
  have hts := cx.2.2.2.1
  have hown := cx.2.2.2.2.1
  have hml := cx.2.2.2.2.2.2
  have hsub : ∀ w ∈ wsL_law, w ∈ wu_X1_holds := fun _ hq => List.mem_cons_of_mem _ hq
  have hl : lv_has ls 11 [(0, .ref th), (1, .ref a1), (2, .int a2), (3, .int a3), (4, .int a4)] := hl
  have J122 : ∀ (k17 : Nat → Int32 → Int32 → Int32 → Int32 → Nat → Int32 → Int32 → PS → Option (Int32 × PS)) (hk17 : ∀ (o1 : Nat) (x2 : Int32) (x3 : Int32) (x4 : Int32) (x5 : Int32) (o6 : Nat) (x7 : Int32) (x8 : Int32) (P : PS), k17 o1 x2 x3 x4 x5 o6 x7 x8 P = some (r0, T) → cGo p l e rmc_X1_holds s m args below meth c 11 D cs t0 (pA P0) (cQI below D cs P0 args s 0 0 r0 T) 0 0 17 [(1, .ref o1), (2, .int x2), (3, .int x3), (4, .int x4), (5, .int x5), (6, .ref o6), (7, .int x7), (8, .int x8)] [] P) (o1 : Nat) (x2 : Int32) (x3 : Int32) (x4 : Int32) (x5 : Int32) (o6 : Nat) (x7 : Int32) (x8 : Int32) (P : PS), hm_X1_holds_122 k17 o1 x2 x3 x4 x5 o6 x7 x8 P = some (r0, T) → cGo p l e rmc_X1_holds s m args below meth c 11 D cs t0 (pA P0) (cQI below D cs P0 args s 0 0 r0 T) 0 0 122 [(1, .ref o1), (2, .int x2), (3, .int x3), (4, .int x4), (5, .int x5), (6, .ref o6), (7, .int x7), (8, .int x8)] [] P := by
    intro k17 hk17 o1 x2 x3 x4 x5 o6 x7 x8 P h H locs ls hl w
    unfold hm_X1_holds_122 at h
    replace h := lt_e h
    obtain ⟨x8_101, ex8_101, h⟩ := h
    refine lv_iinc (v := x8_101) (lv' := [(8, .int x8_101), (1, .ref o1), (2, .int x2), (3, .int x3), (4, .int x4), (5, .int x5), (6, .ref o6), (7, .int x7)]) hx hb dX1_holds_122 hl (k := 7) rfl (by rw [ex8_101]; rfl) (by decide) (rfl) (fun ls hl => ?_)
    refine lv_goto (tgt := 17) hx hb dX1_holds_125 (by decide) ?_
    exact hk17 o1 x2 x3 x4 x5 o6 x7 x8_101 P h _ _ _ (lv_sub hl [1, 2, 3, 4, 5, 6, 7, 0] rfl) w
  have J119 : ∀ (k17 : Nat → Int32 → Int32 → Int32 → Int32 → Nat → Int32 → Int32 → PS → Option (Int32 × PS)) (hk17 : ∀ (o1 : Nat) (x2 : Int32) (x3 : Int32) (x4 : Int32) (x5 : Int32) (o6 : Nat) (x7 : Int32) (x8 : Int32) (P : PS), k17 o1 x2 x3 x4 x5 o6 x7 x8 P = some (r0, T) → cGo p l e rmc_X1_holds s m args below meth c 11 D cs t0 (pA P0) (cQI below D cs P0 args s 0 0 r0 T) 0 0 17 [(1, .ref o1), (2, .int x2), (3, .int x3), (4, .int x4), (5, .int x5), (6, .ref o6), (7, .int x7), (8, .int x8)] [] P) (o1 : Nat) (x2 : Int32) (x3 : Int32) (x4 : Int32) (o6 : Nat) (x7 : Int32) (x8 : Int32) (sv0 : Int32) (sv1 : Int32) (P : PS), hm_X1_holds_119 k17 o1 x2 x3 x4 o6 x7 x8 sv0 sv1 P = some (r0, T) → cGo p l e rmc_X1_holds s m args below meth c 11 D cs t0 (pA P0) (cQI below D cs P0 args s 0 0 r0 T) 0 0 119 [(1, .ref o1), (2, .int x2), (3, .int x3), (4, .int x4), (6, .ref o6), (7, .int x7), (8, .int x8)] [.int sv1, .int sv0] P := by
    intro k17 hk17 o1 x2 x3 x4 o6 x7 x8 sv0 sv1 P h H locs ls hl w
    unfold hm_X1_holds_119 at h
    refine lv_ior hx hb dX1_holds_119 ?_
    replace h := lt_e h
    obtain ⟨x5_202, ex5_202, h⟩ := h
    refine top_i ex5_202 ?_
    refine lv_istore (lv' := [(5, .int x5_202), (1, .ref o1), (2, .int x2), (3, .int x3), (4, .int x4), (6, .ref o6), (7, .int x7), (8, .int x8)]) hx hb dX1_holds_120 hl (by decide) (rfl) (fun ls hl => ?_)
    exact J122 k17 hk17 o1 x2 x3 x4 x5_202 o6 x7 x8 P h _ _ _ (lv_sub hl [1, 2, 3, 4, 0, 5, 6, 7] rfl) w
  have L17 : ∀ (n : Nat) (o1 : Nat) (x2 : Int32) (x3 : Int32) (x4 : Int32) (x5 : Int32) (o6 : Nat) (x7 : Int32) (x8 : Int32) (P : PS), hm_X1_holds_17L  n o1 x2 x3 x4 x5 o6 x7 x8 P = some (r0, T) → cGo p l e rmc_X1_holds s m args below meth c 11 D cs t0 (pA P0) (cQI below D cs P0 args s 0 0 r0 T) 0 0 17 [(1, .ref o1), (2, .int x2), (3, .int x3), (4, .int x4), (5, .int x5), (6, .ref o6), (7, .int x7), (8, .int x8)] [] P := by
    intro n
    induction n with
    | zero =>
      intro o1 x2 x3 x4 x5 o6 x7 x8 P h
      have h : none = some (r0, T) := h
      cases h
    | succ n hk17 =>
      intro o1 x2 x3 x4 x5 o6 x7 x8 P h H locs ls hl w
      have h : hm_X1_holds_17  (hm_X1_holds_17L  n) o1 x2 x3 x4 x5 o6 x7 x8 P = some (r0, T) := h
      generalize hm_X1_holds_17L  n = k17 at h hk17
      unfold hm_X1_holds_17 at h
      refine lv_iload hx hb dX1_holds_17 (lv_at hl 7 rfl) ?_
      refine lv_iload hx hb dX1_holds_19 (lv_at hl 6 rfl) ?_
      refine lv_icmp_ge (tgt := 128) hx hb dX1_holds_21 (by decide) (fun q => ?_) (fun q => ?_)
      · replace h := br_p q h
        refine lv_iload hx hb dX1_holds_128 (lv_at hl 4 rfl) ?_
        refine lv_iconst (v := (1 : Int32)) hx hb dX1_holds_130 (by decide) ?_
        refine lv_iand hx hb dX1_holds_131 ?_
        refine lv_if_eq (tgt := 139) hx hb dX1_holds_132 (by decide) (fun q => ?_) (fun q => ?_)
        · replace h := br_p q h
          refine lv_iconst (v := (0 : Int32)) hx hb dX1_holds_139 (by decide) ?_
          exact cw_zret cx (Or.inl rfl) (rt_e h) w dX1_holds_140
        · replace h := br_n q h
          refine lv_iconst (v := (1 : Int32)) hx hb dX1_holds_135 (by decide) ?_
          refine lv_goto (tgt := 140) hx hb dX1_holds_136 (by decide) ?_
          exact cw_zret cx (Or.inr rfl) (rt_e h) w dX1_holds_140
      · replace h := br_n q h
        refine lv_aload hx hb dX1_holds_24 (lv_at hl 5 rfl) ?_
        refine lv_iload hx hb dX1_holds_26 (lv_at hl 7 rfl) ?_
        replace h := ck_e h
        obtain ⟨hk_303, h⟩ := h
        replace h := ck_e h
        obtain ⟨hq_304, h⟩ := h
        refine cw_iald cx w hk_303 hq_304 dX1_holds_28 ?_
        replace h := lt_e h
        obtain ⟨x9_305, ex9_305, h⟩ := h
        refine top_i ex9_305 ?_
        refine lv_istore (lv' := [(9, .int x9_305), (1, .ref o1), (2, .int x2), (3, .int x3), (4, .int x4), (5, .int x5), (6, .ref o6), (7, .int x7), (8, .int x8)]) hx hb dX1_holds_29 hl (by decide) (rfl) (fun ls hl => ?_)
        refine lv_iload hx hb dX1_holds_31 (lv_at hl 0 rfl) ?_
        refine lv_bipush (v := (10 : Int32)) hx hb dX1_holds_33 (by decide) ?_
        refine lv_idiv hx hb dX1_holds_35 (by decide) ?_
        replace h := lt_e h
        obtain ⟨x10_306, ex10_306, h⟩ := h
        refine top_i ex10_306 ?_
        refine lv_istore (lv' := [(10, .int x10_306), (9, .int x9_305), (1, .ref o1), (2, .int x2), (3, .int x3), (4, .int x4), (5, .int x5), (6, .ref o6), (7, .int x7), (8, .int x8)]) hx hb dX1_holds_36 hl (by decide) (rfl) (fun ls hl => ?_)
        refine lv_iload hx hb dX1_holds_38 (lv_at hl 0 rfl) ?_
        refine lv_bipush (v := (21 : Int32)) hx hb dX1_holds_40 (by decide) ?_
        refine lv_icmp_ne (tgt := 54) hx hb dX1_holds_42 (by decide) (fun q => ?_) (fun q => ?_)
        · replace h := br_n q h
          refine lv_iload hx hb dX1_holds_54 (lv_at hl 0 rfl) ?_
          refine lv_bipush (v := (22 : Int32)) hx hb dX1_holds_56 (by decide) ?_
          refine lv_icmp_ne (tgt := 76) hx hb dX1_holds_58 (by decide) (fun q => ?_) (fun q => ?_)
          · replace h := br_n q h
            refine lv_iload hx hb dX1_holds_76 (lv_at hl 0 rfl) ?_
            refine lv_bipush (v := (23 : Int32)) hx hb dX1_holds_78 (by decide) ?_
            refine lv_icmp_ne (tgt := 97) hx hb dX1_holds_80 (by decide) (fun q => ?_) (fun q => ?_)
            · replace h := br_n q h
              refine lv_iload hx hb dX1_holds_97 (lv_at hl 6 rfl) ?_
              refine lv_iconst (v := (1 : Int32)) hx hb dX1_holds_99 (by decide) ?_
              refine lv_ishl hx hb dX1_holds_100 ?_
              refine lv_iload hx hb dX1_holds_101 (lv_at hl 1 rfl) ?_
              refine lv_aload_n hx hb dX1_holds_103 rfl (lv_at hl 2 rfl) ?_
              refine lv_iload_n hx hb dX1_holds_104 rfl (lv_at hl 3 rfl) ?_
              refine lv_iload_n hx hb dX1_holds_105 rfl (lv_at hl 4 rfl) ?_
              refine lv_iload hx hb dX1_holds_106 (lv_at hl 5 rfl) ?_
              replace h := bd_e h
              obtain ⟨r_308, P_307, hc_309, h⟩ := h
              refine cc_i (cr_S (As := [.int x9_305, .ref o1, .int x2, .int x3, .int x4]) (rest := [.int (x5 <<< ((1 : Int32) &&& 31))]) cx (hcc_X1_passes l D cs t0  P P_307 x9_305 o1 x2 x3 x4 r_308 hc_309) (va_cwS 5 hts (uGS uw_X1_passes ul_RX1_22 ut_X1_passes un_RX1) rfl rfl rfl ud_X1_passes.2 ⟨Nat.le_of_ble_eq_true rfl, Nat.le_of_ble_eq_true rfl⟩) w rfl hl.1 rfl (Nat.le_of_ble_eq_true rfl) dX1_holds_108 ⟨(Nat.le_of_ble_eq_true rfl), (Nat.le_of_ble_eq_true rfl)⟩) (fun H locs w => ?_)
              refine lv_if_eq (tgt := 118) hx hb dX1_holds_111 (by decide) (fun q => ?_) (fun q => ?_)
              · replace h := br_p q h
                refine lv_iconst (v := (0 : Int32)) hx hb dX1_holds_118 (by decide) ?_
                exact J119 k17 hk17 o1 x2 x3 x4 o6 x7 x8 (x5 <<< ((1 : Int32) &&& 31)) (0 : Int32) P_307 h _ _ _ (lv_sub hl [2, 3, 4, 5, 7, 8, 9] rfl) w
              · replace h := br_n q h
                refine lv_iconst (v := (1 : Int32)) hx hb dX1_holds_114 (by decide) ?_
                refine lv_goto (tgt := 119) hx hb dX1_holds_115 (by decide) ?_
                exact J119 k17 hk17 o1 x2 x3 x4 o6 x7 x8 (x5 <<< ((1 : Int32) &&& 31)) (1 : Int32) P_307 h _ _ _ (lv_sub hl [2, 3, 4, 5, 7, 8, 9] rfl) w
            · replace h := br_p q h
              refine lv_iload hx hb dX1_holds_83 (lv_at hl 6 rfl) ?_
              refine lv_iconst (v := (1 : Int32)) hx hb dX1_holds_85 (by decide) ?_
              refine lv_ishr hx hb dX1_holds_86 ?_
              refine lv_iload hx hb dX1_holds_87 (lv_at hl 6 rfl) ?_
              refine lv_iconst (v := (1 : Int32)) hx hb dX1_holds_89 (by decide) ?_
              refine lv_iand hx hb dX1_holds_90 ?_
              refine lv_ior hx hb dX1_holds_91 ?_
              replace h := lt_e h
              obtain ⟨x5_310, ex5_310, h⟩ := h
              refine top_i ex5_310 ?_
              refine lv_istore (lv' := [(5, .int x5_310), (10, .int x10_306), (9, .int x9_305), (1, .ref o1), (2, .int x2), (3, .int x3), (4, .int x4), (6, .ref o6), (7, .int x7), (8, .int x8)]) hx hb dX1_holds_92 hl (by decide) (rfl) (fun ls hl => ?_)
              refine lv_goto (tgt := 122) hx hb dX1_holds_94 (by decide) ?_
              exact J122 k17 hk17 o1 x2 x3 x4 x5_310 o6 x7 x8 P h _ _ _ (lv_sub hl [3, 4, 5, 6, 0, 7, 8, 9] rfl) w
          · replace h := br_p q h
            refine lv_iload hx hb dX1_holds_61 (lv_at hl 6 rfl) ?_
            refine lv_iconst (v := (1 : Int32)) hx hb dX1_holds_63 (by decide) ?_
            refine lv_ishr hx hb dX1_holds_64 ?_
            refine lv_iload hx hb dX1_holds_65 (lv_at hl 6 rfl) ?_
            refine lv_bipush (v := (-2 : Int32)) hx hb dX1_holds_67 (by decide) ?_
            refine lv_ior hx hb dX1_holds_69 ?_
            refine lv_iand hx hb dX1_holds_70 ?_
            replace h := lt_e h
            obtain ⟨x5_311, ex5_311, h⟩ := h
            refine top_i ex5_311 ?_
            refine lv_istore (lv' := [(5, .int x5_311), (10, .int x10_306), (9, .int x9_305), (1, .ref o1), (2, .int x2), (3, .int x3), (4, .int x4), (6, .ref o6), (7, .int x7), (8, .int x8)]) hx hb dX1_holds_71 hl (by decide) (rfl) (fun ls hl => ?_)
            refine lv_goto (tgt := 122) hx hb dX1_holds_73 (by decide) ?_
            exact J122 k17 hk17 o1 x2 x3 x4 x5_311 o6 x7 x8 P h _ _ _ (lv_sub hl [3, 4, 5, 6, 0, 7, 8, 9] rfl) w
        · replace h := br_p q h
          refine lv_iload hx hb dX1_holds_45 (lv_at hl 6 rfl) ?_
          refine lv_iconst (v := (1 : Int32)) hx hb dX1_holds_47 (by decide) ?_
          refine lv_ixor hx hb dX1_holds_48 ?_
          replace h := lt_e h
          obtain ⟨x5_312, ex5_312, h⟩ := h
          refine top_i ex5_312 ?_
          refine lv_istore (lv' := [(5, .int x5_312), (10, .int x10_306), (9, .int x9_305), (1, .ref o1), (2, .int x2), (3, .int x3), (4, .int x4), (6, .ref o6), (7, .int x7), (8, .int x8)]) hx hb dX1_holds_49 hl (by decide) (rfl) (fun ls hl => ?_)
          refine lv_goto (tgt := 122) hx hb dX1_holds_51 (by decide) ?_
          exact J122 k17 hk17 o1 x2 x3 x4 x5_312 o6 x7 x8 P h _ _ _ (lv_sub hl [3, 4, 5, 6, 0, 7, 8, 9] rfl) w
  have hP0 : P0 = P0 := rfl
  unfold hm_X1_holds at h
  refine lv_iconst (v := (0 : Int32)) hx hb dX1_holds_0 (by decide) ?_
  replace h := lt_e h
  obtain ⟨x5_413, ex5_413, h⟩ := h
  refine top_i ex5_413 ?_
  refine lv_istore (lv' := [(5, .int x5_413), (0, .ref th), (1, .ref a1), (2, .int a2), (3, .int a3), (4, .int a4)]) hx hb dX1_holds_1 hl (by decide) (rfl) (fun ls hl => ?_)
  refine lv_aload_n hx hb dX1_holds_3 rfl (lv_at hl 1 rfl) ?_
  replace h := ck_e h
  obtain ⟨hk_414, h⟩ := h
  replace h := nn_e h
  obtain ⟨b_415, hbb_415, h⟩ := h
  refine cw_getS cx hsub w kT2 hk_414 2 (by decide) hbb_415 ⟨hsub _ uf_RX1_18, Or.inl rfl⟩ dX1_holds_4 ?_
  refine lv_astore (lv' := [(6, .ref b_415), (5, .int x5_413), (0, .ref th), (1, .ref a1), (2, .int a2), (3, .int a3), (4, .int a4)]) hx hb dX1_holds_7 hl (by decide) (rfl) (fun ls hl => ?_)
  refine lv_aload hx hb dX1_holds_9 (lv_at hl 0 rfl) ?_
  replace h := ck_e h
  obtain ⟨hk_416, h⟩ := h
  refine cw_alen cx w hk_416 rfl dX1_holds_11 ?_
  replace h := lt_e h
  obtain ⟨x7_417, ex7_417, h⟩ := h
  refine top_i ex7_417 ?_
  refine lv_istore (lv' := [(7, .int x7_417), (6, .ref b_415), (5, .int x5_413), (0, .ref th), (1, .ref a1), (2, .int a2), (3, .int a3), (4, .int a4)]) hx hb dX1_holds_12 hl (by decide) (rfl) (fun ls hl => ?_)
  refine lv_iconst (v := (0 : Int32)) hx hb dX1_holds_14 (by decide) ?_
  replace h := lt_e h
  obtain ⟨x8_418, ex8_418, h⟩ := h
  refine top_i ex8_418 ?_
  refine lv_istore (lv' := [(8, .int x8_418), (7, .int x7_417), (6, .ref b_415), (5, .int x5_413), (0, .ref th), (1, .ref a1), (2, .int a2), (3, .int a3), (4, .int a4)]) hx hb dX1_holds_15 hl (by decide) (rfl) (fun ls hl => ?_)
  exact L17  4000 a1 a2 a3 a4 x5_413 b_415 x7_417 x8_418 P0 h _ _ _ (lv_sub hl [5, 6, 7, 8, 3, 2, 1, 0] rfl) w
def hm_X2_init (P : PS) (th : Nat) (a1 : Int32) : Option (Int32 × PS) := ck (kk P th 3) (lt_ (pIu P th 0 a1) (fun P_102 => some ((0 : Int32), P_102)))
abbrev wu_X2_init : List Cond := .code yX2_init cX2_init 2 none :: wsL_law
theorem ud_X2_init : yX2_init.cls = RX2 ∧ yX2_init.cls ≠ "java/lang/invoke/MethodHandle" ∧ yX2_init.cls ≠ "java/lang/invoke/VarHandle" ∧ (parseMethodDescriptor yX2_init.desc).map (fun d => d.parameters.length) = some 1 := by decide +kernel
abbrev rmc_X2_init : Room := { frames := 1, cells := 0, slots := 0, locals := 40 }
set_option maxHeartbeats 4000000 in
set_option maxRecDepth 100000 in
theorem hcc_X2_init (l : Launch) (D : va_G) (cs : Nat → ClassId) (t0 : TS) (P0 T : PS) (th : Nat) (a1 : Int32) (r0 : Int32) (h : hm_X2_init P0 th a1 = some (r0, T)) : MetCV l yX2_init wu_X2_init rmc_X2_init D cs t0 [.ref th, .int a1] P0 T r0 0 0 := by
  refine co_start (own := RX2) (ty := none) (cc := cX2_init) (maxL := 2) ⟨by decide, rfl⟩ rfl (Nat.le_of_ble_eq_true rfl) ?_
  intro p e s m args below meth c ls cx hnm hl w
  have hx := cx.1
  have hb := cx.2.1
  have hts := cx.2.2.2.1
  have hown := cx.2.2.2.2.1
  have hml := cx.2.2.2.2.2.2
  have hsub : ∀ w ∈ wsL_law, w ∈ wu_X2_init := fun _ hq => List.mem_cons_of_mem _ hq
  have hl : lv_has ls 2 [(0, .ref th), (1, .int a1)] := hl
  have hP0 : P0 = P0 := rfl
  unfold hm_X2_init at h
  refine lv_aload_n hx hb dX2_init_0 rfl (lv_at hl 0 rfl) ?_
  refine W.objInit hx hb hown (hts _ (hsub _ ul_RX2_1)) (hts _ (hsub _ uoi_i)) (hts _ (hsub _ uoi_c)) rfl (by rw [hml]; exact hl.1) rfl dX2_init_1 (Nat.le_of_ble_eq_true rfl) (Nat.le_of_ble_eq_true rfl) ?_
  refine W.eq (g2 := F0 m _ ls []) rfl ?_
  refine lv_aload_n hx hb dX2_init_4 rfl (lv_at hl 0 rfl) ?_
  refine lv_iload_n hx hb dX2_init_5 rfl (lv_at hl 1 rfl) ?_
  replace h := ck_e h
  obtain ⟨hk_101, h⟩ := h
  replace h := lt_e h
  obtain ⟨P_102, eP_102, h⟩ := h
  refine cw_putI cx hsub w kT3 hk_101 0 eP_102 ⟨by decide, by decide, rfl⟩ (Or.inr ⟨rfl, hnm, rfl⟩) ⟨hsub _ uf_RX2_7, Or.inl rfl⟩ dX2_init_6 (fun H locs w => ?_)
  exact cw_vret cx (rt_e h) w dX2_init_9
def hm_X3_init (P : PS) (th : Nat) : Option (Int32 × PS) := lt_ (pZ P) (fun z_101 => lt_ (pNew P 11 ((100 : Int32)).toNatClampNeg) (fun P_102 => ck (kk P_102 th 4) (lt_ (pRu P_102 th 0 (some z_101)) (fun P_104 => lt_ (pZ P_104) (fun z_105 => lt_ (pNew P_104 12 ((100 : Int32)).toNatClampNeg) (fun P_106 => ck (kk P_106 th 4) (lt_ (pRu P_106 th 1 (some z_105)) (fun P_108 => some ((0 : Int32), P_108)))))))))
abbrev wu_X3_init : List Cond := .code yX3_init cX3_init 1 none :: wsL_law
theorem ud_X3_init : yX3_init.cls = RX3 ∧ yX3_init.cls ≠ "java/lang/invoke/MethodHandle" ∧ yX3_init.cls ≠ "java/lang/invoke/VarHandle" ∧ (parseMethodDescriptor yX3_init.desc).map (fun d => d.parameters.length) = some 0 := by decide +kernel
abbrev rmc_X3_init : Room := { frames := 1, cells := 2, slots := 200, locals := 40 }
set_option maxHeartbeats 4000000 in
set_option maxRecDepth 100000 in
theorem hcc_X3_init (l : Launch) (D : va_G) (cs : Nat → ClassId) (t0 : TS) (P0 T : PS) (th : Nat) (r0 : Int32) (h : hm_X3_init P0 th = some (r0, T)) : MetCV l yX3_init wu_X3_init rmc_X3_init D cs t0 [.ref th] P0 T r0 2 200 := by
  refine co_start (own := RX3) (ty := none) (cc := cX3_init) (maxL := 1) ⟨by decide, rfl⟩ rfl (Nat.le_of_ble_eq_true rfl) ?_
  intro p e s m args below meth c ls cx hnm hl w
  have hx := cx.1
  have hb := cx.2.1
  have hts := cx.2.2.2.1
  have hown := cx.2.2.2.2.1
  have hml := cx.2.2.2.2.2.2
  have hsub : ∀ w ∈ wsL_law, w ∈ wu_X3_init := fun _ hq => List.mem_cons_of_mem _ hq
  have hl : lv_has ls 1 [(0, .ref th)] := hl
  have hP0 : P0 = P0 := rfl
  unfold hm_X3_init at h
  refine lv_aload_n hx hb dX3_init_0 rfl (lv_at hl 0 rfl) ?_
  refine W.objInit hx hb hown (hts _ (hsub _ ul_RX3_3)) (hts _ (hsub _ uoi_i)) (hts _ (hsub _ uoi_c)) rfl (by rw [hml]; exact hl.1) rfl dX3_init_1 (Nat.le_of_ble_eq_true rfl) (Nat.le_of_ble_eq_true rfl) ?_
  refine W.eq (g2 := F0 m _ ls []) rfl ?_
  refine lv_aload_n hx hb dX3_init_4 rfl (lv_at hl 0 rfl) ?_
  refine lv_bipush (v := (100 : Int32)) hx hb dX3_init_5 (by decide) ?_
  replace h := lt_e h
  obtain ⟨z_101, ez_101, h⟩ := h
  replace h := lt_e h
  obtain ⟨P_102, eP_102, h⟩ := h
  refine cw_newb cx w (by decide) (by decide) eP_102 (hsub _ uar_byte) (Nat.le_of_ble_eq_true rfl) (Nat.le_of_ble_eq_true rfl) dX3_init_7 (fun H w => ?_)
  refine W.widen (k := 1) (n := 100) (Nat.le_of_ble_eq_true rfl) (Nat.le_of_ble_eq_true rfl) ?_
  have hkz_101 : kk P_102 z_101 11 = true := by rw [ez_101]; exact kk_new eP_102
  rw [← ez_101]
  replace h := ck_e h
  obtain ⟨hk_103, h⟩ := h
  replace h := lt_e h
  obtain ⟨P_104, eP_104, h⟩ := h
  refine cw_putR cx hsub w kT4 hk_103 0 (v := (some z_101)) eP_104 (by decide) (by first | exact Or.inl ⟨_, rfl⟩ | exact Or.inr ⟨_, rfl⟩) (Or.inr ⟨rfl, hnm, rfl⟩) ⟨hsub _ uf_RX3_9, Or.inl rfl⟩ dX3_init_9 (fun H locs w => ?_)
  refine lv_aload_n hx hb dX3_init_12 rfl (lv_at hl 0 rfl) ?_
  refine lv_bipush (v := (100 : Int32)) hx hb dX3_init_13 (by decide) ?_
  replace h := lt_e h
  obtain ⟨z_105, ez_105, h⟩ := h
  replace h := lt_e h
  obtain ⟨P_106, eP_106, h⟩ := h
  refine cw_newi cx w (by decide) (by decide) eP_106 (hsub _ uar_int) (Nat.le_of_ble_eq_true rfl) (Nat.le_of_ble_eq_true rfl) dX3_init_15 (fun H w => ?_)
  refine W.widen (k := 2) (n := 200) (Nat.le_of_ble_eq_true rfl) (Nat.le_of_ble_eq_true rfl) ?_
  have hkz_105 : kk P_106 z_105 12 = true := by rw [ez_105]; exact kk_new eP_106
  rw [← ez_105]
  replace h := ck_e h
  obtain ⟨hk_107, h⟩ := h
  replace h := lt_e h
  obtain ⟨P_108, eP_108, h⟩ := h
  refine cw_putR cx hsub w kT4 hk_107 1 (v := (some z_105)) eP_108 (by decide) (by first | exact Or.inl ⟨_, rfl⟩ | exact Or.inr ⟨_, rfl⟩) (Or.inr ⟨rfl, hnm, rfl⟩) ⟨hsub _ uf_RX3_15, Or.inl rfl⟩ dX3_init_17 (fun H locs w => ?_)
  refine W.widen (k := 2) (n := 200) (Nat.le_of_ble_eq_true rfl) (Nat.le_of_ble_eq_true rfl) ?_
  exact cw_vret cx (rt_e h) w dX3_init_20
def hm_X3_append (P : PS) (th : Nat) (a1 : Int32) : Option (Int32 × PS) := ck (kk P th 4) (if (pI P th 2) < (0 : Int32) then (some ((0 : Int32), P)) else (nn (pR P th 0) (fun b_102 => ck (kk P b_102 11) (if (nI (pN P b_102)) ≤ (pI P th 2) then (some ((0 : Int32), P)) else (nn (pR P th 0) (fun b_104 => ck (kk P b_104 11) (ck (vin (pI P th 2) (pN P b_104)) (lt_ (pIu P b_104 ((pI P th 2)).toNatClampNeg (a1).toInt8.toInt32) (fun P_107 => lt_ (pIu P_107 th 2 ((pI P_107 th 2) + (1 : Int32))) (fun P_109 => some ((0 : Int32), P_109)))))))))))
abbrev wu_X3_append : List Cond := .code yX3_append cX3_append 2 none :: wsL_law
theorem ud_X3_append : yX3_append.cls = RX3 ∧ yX3_append.cls ≠ "java/lang/invoke/MethodHandle" ∧ yX3_append.cls ≠ "java/lang/invoke/VarHandle" ∧ (parseMethodDescriptor yX3_append.desc).map (fun d => d.parameters.length) = some 1 := by decide +kernel
abbrev rmc_X3_append : Room := { frames := 0, cells := 0, slots := 0, locals := 0 }
set_option maxHeartbeats 4000000 in
set_option maxRecDepth 100000 in
theorem hcc_X3_append (l : Launch) (D : va_G) (cs : Nat → ClassId) (t0 : TS) (P0 T : PS) (th : Nat) (a1 : Int32) (r0 : Int32) (h : hm_X3_append P0 th a1 = some (r0, T)) : MetCV l yX3_append wu_X3_append rmc_X3_append D cs t0 [.ref th, .int a1] P0 T r0 0 0 := by
  refine co_start (own := RX3) (ty := none) (cc := cX3_append) (maxL := 2) ⟨by decide, rfl⟩ rfl (Nat.le_of_ble_eq_true rfl) ?_
  intro p e s m args below meth c ls cx hnm hl w
  have hx := cx.1
  have hb := cx.2.1
  have hts := cx.2.2.2.1
  have hown := cx.2.2.2.2.1
  have hml := cx.2.2.2.2.2.2
  have hsub : ∀ w ∈ wsL_law, w ∈ wu_X3_append := fun _ hq => List.mem_cons_of_mem _ hq
  have hl : lv_has ls 2 [(0, .ref th), (1, .int a1)] := hl
  have hP0 : P0 = P0 := rfl
  unfold hm_X3_append at h
  refine lv_aload_n hx hb dX3_append_0 rfl (lv_at hl 0 rfl) ?_
  replace h := ck_e h
  obtain ⟨hk_101, h⟩ := h
  refine cw_getI cx hsub w kT4 hk_101 2 (by decide) ⟨hsub _ uf_RX3_19, Or.inl rfl⟩ dX3_append_1 ?_
  refine lv_if_lt (tgt := 39) hx hb dX3_append_4 (by decide) (fun q => ?_) (fun q => ?_)
  · replace h := br_p q h
    exact cw_vret cx (rt_e h) w dX3_append_39
  · replace h := br_n q h
    refine lv_aload_n hx hb dX3_append_7 rfl (lv_at hl 0 rfl) ?_
    refine cw_getI cx hsub w kT4 hk_101 2 (by decide) ⟨hsub _ uf_RX3_19, Or.inl rfl⟩ dX3_append_8 ?_
    refine lv_aload_n hx hb dX3_append_11 rfl (lv_at hl 0 rfl) ?_
    replace h := nn_e h
    obtain ⟨b_102, hbb_102, h⟩ := h
    refine cw_getS cx hsub w kT4 hk_101 0 (by decide) hbb_102 ⟨hsub _ uf_RX3_9, Or.inl rfl⟩ dX3_append_12 ?_
    replace h := ck_e h
    obtain ⟨hk_103, h⟩ := h
    refine cw_alen cx w hk_103 rfl dX3_append_15 ?_
    refine lv_icmp_ge (tgt := 39) hx hb dX3_append_16 (by decide) (fun q => ?_) (fun q => ?_)
    · replace h := br_p q h
      exact cw_vret cx (rt_e h) w dX3_append_39
    · replace h := br_n q h
      refine lv_aload_n hx hb dX3_append_19 rfl (lv_at hl 0 rfl) ?_
      replace h := nn_e h
      obtain ⟨b_104, hbb_104, h⟩ := h
      refine cw_getS cx hsub w kT4 hk_101 0 (by decide) hbb_104 ⟨hsub _ uf_RX3_9, Or.inl rfl⟩ dX3_append_20 ?_
      refine lv_aload_n hx hb dX3_append_23 rfl (lv_at hl 0 rfl) ?_
      refine cw_getI cx hsub w kT4 hk_101 2 (by decide) ⟨hsub _ uf_RX3_19, Or.inl rfl⟩ dX3_append_24 ?_
      refine lv_iload_n hx hb dX3_append_27 rfl (lv_at hl 1 rfl) ?_
      replace h := ck_e h
      obtain ⟨hk_105, h⟩ := h
      replace h := ck_e h
      obtain ⟨hq_106, h⟩ := h
      replace h := lt_e h
      obtain ⟨P_107, eP_107, h⟩ := h
      refine cw_bast cx w hk_105 hq_106 eP_107 dX3_append_28 (fun H locs w => ?_)
      refine lv_aload_n hx hb dX3_append_29 rfl (lv_at hl 0 rfl) ?_
      refine lv_dup hx hb dX3_append_30 rfl ?_
      have hk_108 : kk P_107 th 4 = true := by rw [eP_107]; exact hk_101
      refine cw_getI cx hsub w kT4 hk_108 2 (by decide) ⟨hsub _ uf_RX3_19, Or.inl rfl⟩ dX3_append_31 ?_
      refine lv_iconst (v := (1 : Int32)) hx hb dX3_append_34 (by decide) ?_
      refine lv_iadd hx hb dX3_append_35 ?_
      replace h := lt_e h
      obtain ⟨P_109, eP_109, h⟩ := h
      refine cw_putI cx hsub w kT4 hk_108 2 eP_109 ⟨by decide, by decide, rfl⟩ (Or.inl rfl) ⟨hsub _ uf_RX3_19, Or.inl rfl⟩ dX3_append_36 (fun H locs w => ?_)
      exact cw_vret cx (rt_e h) w dX3_append_39
def hm_Jxa1e45_init_da8c8 (P : PS) (th : Nat) : Option (Int32 × PS) := some ((0 : Int32), P)
abbrev wu_Jxa1e45_init_da8c8 : List Cond := .code yJxa1e45_init_da8c8 cJxa1e45_init_da8c8 1 none :: wsL_law
theorem ud_Jxa1e45_init_da8c8 : yJxa1e45_init_da8c8.cls = RJxa1e45 ∧ yJxa1e45_init_da8c8.cls ≠ "java/lang/invoke/MethodHandle" ∧ yJxa1e45_init_da8c8.cls ≠ "java/lang/invoke/VarHandle" ∧ (parseMethodDescriptor yJxa1e45_init_da8c8.desc).map (fun d => d.parameters.length) = some 0 := by decide +kernel
abbrev rmc_Jxa1e45_init_da8c8 : Room := { frames := 1, cells := 0, slots := 0, locals := 40 }
set_option maxHeartbeats 4000000 in
set_option maxRecDepth 100000 in
theorem hcc_Jxa1e45_init_da8c8 (l : Launch) (D : va_G) (cs : Nat → ClassId) (t0 : TS) (P0 T : PS) (th : Nat) (r0 : Int32) (h : hm_Jxa1e45_init_da8c8 P0 th = some (r0, T)) : MetCV l yJxa1e45_init_da8c8 wu_Jxa1e45_init_da8c8 rmc_Jxa1e45_init_da8c8 D cs t0 [.ref th] P0 T r0 0 0 := by
  refine co_start (own := RJxa1e45) (ty := none) (cc := cJxa1e45_init_da8c8) (maxL := 1) ⟨by decide, rfl⟩ rfl (Nat.le_of_ble_eq_true rfl) ?_
  intro p e s m args below meth c ls cx hnm hl w
  have hx := cx.1
  have hb := cx.2.1
  have hts := cx.2.2.2.1
  have hown := cx.2.2.2.2.1
  have hml := cx.2.2.2.2.2.2
  have hsub : ∀ w ∈ wsL_law, w ∈ wu_Jxa1e45_init_da8c8 := fun _ hq => List.mem_cons_of_mem _ hq
  have hl : lv_has ls 1 [(0, .ref th)] := hl
  have hP0 : P0 = P0 := rfl
  unfold hm_Jxa1e45_init_da8c8 at h
  refine lv_aload_n hx hb dJxa1e45_init_da8c8_0 rfl (lv_at hl 0 rfl) ?_
  refine W.objInit hx hb hown (hts _ (hsub _ ul_RJxa1e45_1)) (hts _ (hsub _ uoi_i)) (hts _ (hsub _ uoi_c)) rfl (by rw [hml]; exact hl.1) rfl dJxa1e45_init_da8c8_1 (Nat.le_of_ble_eq_true rfl) (Nat.le_of_ble_eq_true rfl) ?_
  refine W.eq (g2 := F0 m _ ls []) rfl ?_
  exact cw_vret cx (rt_e h) w dJxa1e45_init_da8c8_4
def hm_X3_peek_42 (o0 : Nat) (sv0 : Int32) (P : PS) : Option (Int32 × PS) := if sv0 = (0 : Int32) then (some ((-1 : Int32), P)) else (ck (kk P o0 4) (nn (pR P o0 0) (fun b_102 => ck (kk P b_102 11) (ck (vin (pI P o0 3) (pN P b_102)) (some (((pI P b_102 ((pI P o0 3)).toNatClampNeg) &&& (255 : Int32)), P))))))
def hm_X3_peek_41 (o0 : Nat) (P : PS) : Option (Int32 × PS) := hm_X3_peek_42  o0 (0 : Int32) P
def hm_X3_peek (P : PS) (th : Nat) : Option (Int32 × PS) := ck (kk P th 4) (if (pI P th 4) = (0 : Int32) then (if (pI P th 2) ≤ (pI P th 3) then (hm_X3_peek_41  th P) else (if (pI P th 3) < (0 : Int32) then (hm_X3_peek_41  th P) else (nn (pR P th 0) (fun b_306 => ck (kk P b_306 11) (if (nI (pN P b_306)) ≤ (pI P th 3) then (hm_X3_peek_41  th P) else (hm_X3_peek_42  th (1 : Int32) P)))))) else (hm_X3_peek_41  th P))
abbrev wu_X3_peek : List Cond := .code yX3_peek cX3_peek 2 (some .int) :: wsL_law
theorem ud_X3_peek : yX3_peek.cls = RX3 ∧ yX3_peek.cls ≠ "java/lang/invoke/MethodHandle" ∧ yX3_peek.cls ≠ "java/lang/invoke/VarHandle" ∧ (parseMethodDescriptor yX3_peek.desc).map (fun d => d.parameters.length) = some 0 := by decide +kernel
abbrev rmc_X3_peek : Room := { frames := 0, cells := 0, slots := 0, locals := 0 }
set_option maxHeartbeats 4000000 in
set_option maxRecDepth 100000 in
theorem hcc_X3_peek (l : Launch) (D : va_G) (cs : Nat → ClassId) (t0 : TS) (P0 T : PS) (th : Nat) (r0 : Int32) (h : hm_X3_peek P0 th = some (r0, T)) : MetCI l yX3_peek wu_X3_peek rmc_X3_peek D cs t0 [.ref th] P0 T r0 0 0 := by
  refine co_start (own := RX3) (ty := (some .int)) (cc := cX3_peek) (maxL := 2) ⟨by decide, rfl⟩ rfl (Nat.le_of_ble_eq_true rfl) ?_
  intro p e s m args below meth c ls cx hnm hl w
  have hx := cx.1
  have hb := cx.2.1
  have hts := cx.2.2.2.1
  have hown := cx.2.2.2.2.1
  have hml := cx.2.2.2.2.2.2
  have hsub : ∀ w ∈ wsL_law, w ∈ wu_X3_peek := fun _ hq => List.mem_cons_of_mem _ hq
  have hl : lv_has ls 2 [(0, .ref th)] := hl
  have J42 : ∀ (o0 : Nat) (sv0 : Int32) (P : PS), hm_X3_peek_42  o0 sv0 P = some (r0, T) → cGo p l e rmc_X3_peek s m args below meth c 2 D cs t0 (pA P0) (cQI below D cs P0 args s 0 0 r0 T) 0 0 42 [(0, .ref o0)] [.int sv0] P := by
    intro o0 sv0 P h H locs ls hl w
    unfold hm_X3_peek_42 at h
    refine lv_istore_n (lv' := [(1, .int sv0), (0, .ref o0)]) hx hb dX3_peek_42 rfl hl (by decide) (rfl) (fun ls hl => ?_)
    refine lv_iload_n hx hb dX3_peek_43 rfl (lv_at hl 0 rfl) ?_
    refine lv_if_eq (tgt := 63) hx hb dX3_peek_44 (by decide) (fun q => ?_) (fun q => ?_)
    · replace h := br_p q h
      refine lv_iconst (v := (-1 : Int32)) hx hb dX3_peek_63 (by decide) ?_
      exact cw_iret cx (rt_e h) w dX3_peek_64
    · replace h := br_n q h
      refine lv_aload_n hx hb dX3_peek_47 rfl (lv_at hl 1 rfl) ?_
      replace h := ck_e h
      obtain ⟨hk_101, h⟩ := h
      replace h := nn_e h
      obtain ⟨b_102, hbb_102, h⟩ := h
      refine cw_getS cx hsub w kT4 hk_101 0 (by decide) hbb_102 ⟨hsub _ uf_RX3_9, Or.inl rfl⟩ dX3_peek_48 ?_
      refine lv_aload_n hx hb dX3_peek_51 rfl (lv_at hl 1 rfl) ?_
      refine cw_getI cx hsub w kT4 hk_101 3 (by decide) ⟨hsub _ uf_RX3_23, Or.inl rfl⟩ dX3_peek_52 ?_
      replace h := ck_e h
      obtain ⟨hk_103, h⟩ := h
      replace h := ck_e h
      obtain ⟨hq_104, h⟩ := h
      refine cw_bald cx w hk_103 hq_104 dX3_peek_55 ?_
      refine lv_sipush (v := (255 : Int32)) hx hb dX3_peek_56 (by decide) ?_
      refine lv_iand hx hb dX3_peek_59 ?_
      refine lv_goto (tgt := 64) hx hb dX3_peek_60 (by decide) ?_
      exact cw_iret cx (rt_e h) w dX3_peek_64
  have J41 : ∀ (o0 : Nat) (P : PS), hm_X3_peek_41  o0 P = some (r0, T) → cGo p l e rmc_X3_peek s m args below meth c 2 D cs t0 (pA P0) (cQI below D cs P0 args s 0 0 r0 T) 0 0 41 [(0, .ref o0)] [] P := by
    intro o0 P h H locs ls hl w
    unfold hm_X3_peek_41 at h
    refine lv_iconst (v := (0 : Int32)) hx hb dX3_peek_41 (by decide) ?_
    exact J42  o0 (0 : Int32) P h _ _ _ (lv_sub hl [0] rfl) w
  have hP0 : P0 = P0 := rfl
  unfold hm_X3_peek at h
  refine lv_aload_n hx hb dX3_peek_0 rfl (lv_at hl 0 rfl) ?_
  replace h := ck_e h
  obtain ⟨hk_305, h⟩ := h
  refine cw_getI cx hsub w kT4 hk_305 4 (by decide) ⟨hsub _ uf_RX3_26, Or.inl rfl⟩ dX3_peek_1 ?_
  refine lv_if_ne (tgt := 41) hx hb dX3_peek_4 (by decide) (fun q => ?_) (fun q => ?_)
  · replace h := br_n q h
    exact J41  th P0 h _ _ _ (lv_sub hl [0] rfl) w
  · replace h := br_p q h
    refine lv_aload_n hx hb dX3_peek_7 rfl (lv_at hl 0 rfl) ?_
    refine cw_getI cx hsub w kT4 hk_305 3 (by decide) ⟨hsub _ uf_RX3_23, Or.inl rfl⟩ dX3_peek_8 ?_
    refine lv_aload_n hx hb dX3_peek_11 rfl (lv_at hl 0 rfl) ?_
    refine cw_getI cx hsub w kT4 hk_305 2 (by decide) ⟨hsub _ uf_RX3_19, Or.inl rfl⟩ dX3_peek_12 ?_
    refine lv_icmp_ge (tgt := 41) hx hb dX3_peek_15 (by decide) (fun q => ?_) (fun q => ?_)
    · replace h := br_p q h
      exact J41  th P0 h _ _ _ (lv_sub hl [0] rfl) w
    · replace h := br_n q h
      refine lv_aload_n hx hb dX3_peek_18 rfl (lv_at hl 0 rfl) ?_
      refine cw_getI cx hsub w kT4 hk_305 3 (by decide) ⟨hsub _ uf_RX3_23, Or.inl rfl⟩ dX3_peek_19 ?_
      refine lv_if_lt (tgt := 41) hx hb dX3_peek_22 (by decide) (fun q => ?_) (fun q => ?_)
      · replace h := br_p q h
        exact J41  th P0 h _ _ _ (lv_sub hl [0] rfl) w
      · replace h := br_n q h
        refine lv_aload_n hx hb dX3_peek_25 rfl (lv_at hl 0 rfl) ?_
        refine cw_getI cx hsub w kT4 hk_305 3 (by decide) ⟨hsub _ uf_RX3_23, Or.inl rfl⟩ dX3_peek_26 ?_
        refine lv_aload_n hx hb dX3_peek_29 rfl (lv_at hl 0 rfl) ?_
        replace h := nn_e h
        obtain ⟨b_306, hbb_306, h⟩ := h
        refine cw_getS cx hsub w kT4 hk_305 0 (by decide) hbb_306 ⟨hsub _ uf_RX3_9, Or.inl rfl⟩ dX3_peek_30 ?_
        replace h := ck_e h
        obtain ⟨hk_307, h⟩ := h
        refine cw_alen cx w hk_307 rfl dX3_peek_33 ?_
        refine lv_icmp_ge (tgt := 41) hx hb dX3_peek_34 (by decide) (fun q => ?_) (fun q => ?_)
        · replace h := br_p q h
          exact J41  th P0 h _ _ _ (lv_sub hl [0] rfl) w
        · replace h := br_n q h
          refine lv_iconst (v := (1 : Int32)) hx hb dX3_peek_37 (by decide) ?_
          refine lv_goto (tgt := 42) hx hb dX3_peek_38 (by decide) ?_
          exact J42  th (1 : Int32) P0 h _ _ _ (lv_sub hl [0] rfl) w
def hm_J3_checkIndex_8e157 (P : PS) (a1 : Int32) (a2 : Int32) (a3 : Option Nat) : Option (Int32 × PS) := if a1 < (0 : Int32) then (none) else (if a1 < a2 then (some (a1, P)) else (none))
abbrev wu_J3_checkIndex_8e157 : List Cond := .code yJ3_checkIndex_8e157 cJ3_checkIndex_8e157 3 (some .int) :: wsL_law
theorem ud_J3_checkIndex_8e157 : yJ3_checkIndex_8e157.cls = RJ3 ∧ yJ3_checkIndex_8e157.cls ≠ "java/lang/invoke/MethodHandle" ∧ yJ3_checkIndex_8e157.cls ≠ "java/lang/invoke/VarHandle" ∧ (parseMethodDescriptor yJ3_checkIndex_8e157.desc).map (fun d => d.parameters.length) = some 3 := by decide +kernel
abbrev rmc_J3_checkIndex_8e157 : Room := { frames := 0, cells := 0, slots := 0, locals := 0 }
set_option maxHeartbeats 4000000 in
set_option maxRecDepth 100000 in
theorem hcc_J3_checkIndex_8e157 (l : Launch) (D : va_G) (cs : Nat → ClassId) (t0 : TS) (P0 T : PS) (a1 : Int32) (a2 : Int32) (a3 : Option Nat) (r0 : Int32) (h : hm_J3_checkIndex_8e157 P0 a1 a2 a3 = some (r0, T)) : MetCI l yJ3_checkIndex_8e157 wu_J3_checkIndex_8e157 rmc_J3_checkIndex_8e157 D cs t0 [.int a1, .int a2, va_rf a3] P0 T r0 0 0 := by
  refine co_start (own := RJ3) (ty := (some .int)) (cc := cJ3_checkIndex_8e157) (maxL := 3) ⟨by decide, rfl⟩ rfl (by cases a3 <;> exact Nat.le_of_ble_eq_true rfl) ?_
  intro p e s m args below meth c ls cx hnm hl w
  have hx := cx.1
  have hb := cx.2.1
  have hts := cx.2.2.2.1
  have hown := cx.2.2.2.2.1
  have hml := cx.2.2.2.2.2.2
  have hsub : ∀ w ∈ wsL_law, w ∈ wu_J3_checkIndex_8e157 := fun _ hq => List.mem_cons_of_mem _ hq
  have hl : lv_has ls 3 [(0, .int a1), (1, .int a2), (2, va_rf a3)] := hl
  have hP0 : P0 = P0 := rfl
  unfold hm_J3_checkIndex_8e157 at h
  refine lv_iload_n hx hb dJ3_checkIndex_8e157_0 rfl (lv_at hl 0 rfl) ?_
  refine lv_if_lt (tgt := 9) hx hb dJ3_checkIndex_8e157_1 (by decide) (fun q => ?_) (fun q => ?_)
  · replace h := br_p q h
    cases h
  · replace h := br_n q h
    refine lv_iload_n hx hb dJ3_checkIndex_8e157_4 rfl (lv_at hl 0 rfl) ?_
    refine lv_iload_n hx hb dJ3_checkIndex_8e157_5 rfl (lv_at hl 1 rfl) ?_
    refine lv_icmp_lt (tgt := 16) hx hb dJ3_checkIndex_8e157_6 (by decide) (fun q => ?_) (fun q => ?_)
    · replace h := br_p q h
      refine lv_iload_n hx hb dJ3_checkIndex_8e157_16 rfl (lv_at hl 0 rfl) ?_
      exact cw_iret cx (rt_e h) w dJ3_checkIndex_8e157_17
    · replace h := br_n q h
      cases h
def hm_X3_put (P : PS) (th : Nat) (a1 : Int32) (a2 : Int32) : Option (Int32 × PS) := ck (kk P th 4) (if (pI P th 5) < (0 : Int32) then (some ((0 : Int32), P)) else (nn (pR P th 1) (fun b_102 => ck (kk P b_102 12) (if (nI (pN P b_102)) ≤ (pI P th 5) then (some ((0 : Int32), P)) else (nn (pR P th 1) (fun b_104 => ck (kk P b_104 12) (ck (vin (pI P th 5) (pN P b_104)) (lt_ (pIu P b_104 ((pI P th 5)).toNatClampNeg (((10 : Int32) * a1) + a2)) (fun P_107 => lt_ (pIu P_107 th 5 ((pI P_107 th 5) + (1 : Int32))) (fun P_109 => some ((0 : Int32), P_109)))))))))))
abbrev wu_X3_put : List Cond := .code yX3_put cX3_put 3 none :: wsL_law
theorem ud_X3_put : yX3_put.cls = RX3 ∧ yX3_put.cls ≠ "java/lang/invoke/MethodHandle" ∧ yX3_put.cls ≠ "java/lang/invoke/VarHandle" ∧ (parseMethodDescriptor yX3_put.desc).map (fun d => d.parameters.length) = some 2 := by decide +kernel
abbrev rmc_X3_put : Room := { frames := 0, cells := 0, slots := 0, locals := 0 }
set_option maxHeartbeats 4000000 in
set_option maxRecDepth 100000 in
theorem hcc_X3_put (l : Launch) (D : va_G) (cs : Nat → ClassId) (t0 : TS) (P0 T : PS) (th : Nat) (a1 : Int32) (a2 : Int32) (r0 : Int32) (h : hm_X3_put P0 th a1 a2 = some (r0, T)) : MetCV l yX3_put wu_X3_put rmc_X3_put D cs t0 [.ref th, .int a1, .int a2] P0 T r0 0 0 := by
  refine co_start (own := RX3) (ty := none) (cc := cX3_put) (maxL := 3) ⟨by decide, rfl⟩ rfl (Nat.le_of_ble_eq_true rfl) ?_
  intro p e s m args below meth c ls cx hnm hl w
  have hx := cx.1
  have hb := cx.2.1
  have hts := cx.2.2.2.1
  have hown := cx.2.2.2.2.1
  have hml := cx.2.2.2.2.2.2
  have hsub : ∀ w ∈ wsL_law, w ∈ wu_X3_put := fun _ hq => List.mem_cons_of_mem _ hq
  have hl : lv_has ls 3 [(0, .ref th), (1, .int a1), (2, .int a2)] := hl
  have hP0 : P0 = P0 := rfl
  unfold hm_X3_put at h
  refine lv_aload_n hx hb dX3_put_0 rfl (lv_at hl 0 rfl) ?_
  replace h := ck_e h
  obtain ⟨hk_101, h⟩ := h
  refine cw_getI cx hsub w kT4 hk_101 5 (by decide) ⟨hsub _ uf_RX3_67, Or.inl rfl⟩ dX3_put_1 ?_
  refine lv_if_lt (tgt := 44) hx hb dX3_put_4 (by decide) (fun q => ?_) (fun q => ?_)
  · replace h := br_p q h
    exact cw_vret cx (rt_e h) w dX3_put_44
  · replace h := br_n q h
    refine lv_aload_n hx hb dX3_put_7 rfl (lv_at hl 0 rfl) ?_
    refine cw_getI cx hsub w kT4 hk_101 5 (by decide) ⟨hsub _ uf_RX3_67, Or.inl rfl⟩ dX3_put_8 ?_
    refine lv_aload_n hx hb dX3_put_11 rfl (lv_at hl 0 rfl) ?_
    replace h := nn_e h
    obtain ⟨b_102, hbb_102, h⟩ := h
    refine cw_getS cx hsub w kT4 hk_101 1 (by decide) hbb_102 ⟨hsub _ uf_RX3_15, Or.inl rfl⟩ dX3_put_12 ?_
    replace h := ck_e h
    obtain ⟨hk_103, h⟩ := h
    refine cw_alen cx w hk_103 rfl dX3_put_15 ?_
    refine lv_icmp_ge (tgt := 44) hx hb dX3_put_16 (by decide) (fun q => ?_) (fun q => ?_)
    · replace h := br_p q h
      exact cw_vret cx (rt_e h) w dX3_put_44
    · replace h := br_n q h
      refine lv_aload_n hx hb dX3_put_19 rfl (lv_at hl 0 rfl) ?_
      replace h := nn_e h
      obtain ⟨b_104, hbb_104, h⟩ := h
      refine cw_getS cx hsub w kT4 hk_101 1 (by decide) hbb_104 ⟨hsub _ uf_RX3_15, Or.inl rfl⟩ dX3_put_20 ?_
      refine lv_aload_n hx hb dX3_put_23 rfl (lv_at hl 0 rfl) ?_
      refine cw_getI cx hsub w kT4 hk_101 5 (by decide) ⟨hsub _ uf_RX3_67, Or.inl rfl⟩ dX3_put_24 ?_
      refine lv_bipush (v := (10 : Int32)) hx hb dX3_put_27 (by decide) ?_
      refine lv_iload_n hx hb dX3_put_29 rfl (lv_at hl 1 rfl) ?_
      refine lv_imul hx hb dX3_put_30 ?_
      refine lv_iload_n hx hb dX3_put_31 rfl (lv_at hl 2 rfl) ?_
      refine lv_iadd hx hb dX3_put_32 ?_
      replace h := ck_e h
      obtain ⟨hk_105, h⟩ := h
      replace h := ck_e h
      obtain ⟨hq_106, h⟩ := h
      replace h := lt_e h
      obtain ⟨P_107, eP_107, h⟩ := h
      refine cw_iast cx w hk_105 hq_106 eP_107 dX3_put_33 (fun H locs w => ?_)
      refine lv_aload_n hx hb dX3_put_34 rfl (lv_at hl 0 rfl) ?_
      refine lv_dup hx hb dX3_put_35 rfl ?_
      have hk_108 : kk P_107 th 4 = true := by rw [eP_107]; exact hk_101
      refine cw_getI cx hsub w kT4 hk_108 5 (by decide) ⟨hsub _ uf_RX3_67, Or.inl rfl⟩ dX3_put_36 ?_
      refine lv_iconst (v := (1 : Int32)) hx hb dX3_put_39 (by decide) ?_
      refine lv_iadd hx hb dX3_put_40 ?_
      replace h := lt_e h
      obtain ⟨P_109, eP_109, h⟩ := h
      refine cw_putI cx hsub w kT4 hk_108 5 eP_109 ⟨by decide, by decide, rfl⟩ (Or.inl rfl) ⟨hsub _ uf_RX3_67, Or.inl rfl⟩ dX3_put_41 (fun H locs w => ?_)
      exact cw_vret cx (rt_e h) w dX3_put_44
def hm_Jx4a65c_size_8abf5 (P : PS) (th : Nat) : Option (Int32 × PS) := ck (kk P th 0) (some ((pI P th 2), P))
abbrev wu_Jx4a65c_size_8abf5 : List Cond := .code yJx4a65c_size_8abf5 cJx4a65c_size_8abf5 1 (some .int) :: wsL_law
theorem ud_Jx4a65c_size_8abf5 : yJx4a65c_size_8abf5.cls = RJx4a65c ∧ yJx4a65c_size_8abf5.cls ≠ "java/lang/invoke/MethodHandle" ∧ yJx4a65c_size_8abf5.cls ≠ "java/lang/invoke/VarHandle" ∧ (parseMethodDescriptor yJx4a65c_size_8abf5.desc).map (fun d => d.parameters.length) = some 0 := by decide +kernel
abbrev rmc_Jx4a65c_size_8abf5 : Room := { frames := 0, cells := 0, slots := 0, locals := 0 }
set_option maxHeartbeats 4000000 in
set_option maxRecDepth 100000 in
theorem hcc_Jx4a65c_size_8abf5 (l : Launch) (D : va_G) (cs : Nat → ClassId) (t0 : TS) (P0 T : PS) (th : Nat) (r0 : Int32) (h : hm_Jx4a65c_size_8abf5 P0 th = some (r0, T)) : MetCI l yJx4a65c_size_8abf5 wu_Jx4a65c_size_8abf5 rmc_Jx4a65c_size_8abf5 D cs t0 [.ref th] P0 T r0 0 0 := by
  refine co_start (own := RJx4a65c) (ty := (some .int)) (cc := cJx4a65c_size_8abf5) (maxL := 1) ⟨by decide, rfl⟩ rfl (Nat.le_of_ble_eq_true rfl) ?_
  intro p e s m args below meth c ls cx hnm hl w
  have hx := cx.1
  have hb := cx.2.1
  have hts := cx.2.2.2.1
  have hown := cx.2.2.2.2.1
  have hml := cx.2.2.2.2.2.2
  have hsub : ∀ w ∈ wsL_law, w ∈ wu_Jx4a65c_size_8abf5 := fun _ hq => List.mem_cons_of_mem _ hq
  have hl : lv_has ls 1 [(0, .ref th)] := hl
  have hP0 : P0 = P0 := rfl
  unfold hm_Jx4a65c_size_8abf5 at h
  refine lv_aload_n hx hb dJx4a65c_size_8abf5_0 rfl (lv_at hl 0 rfl) ?_
  replace h := ck_e h
  obtain ⟨hk_101, h⟩ := h
  refine cw_getI cx hsub w kT0 hk_101 2 (by decide) ⟨hsub _ uf_RJx4a65c_48, Or.inl rfl⟩ dJx4a65c_size_8abf5_1 ?_
  exact cw_iret cx (rt_e h) w dJx4a65c_size_8abf5_4
def hm_J6_bitCount_0f7a4 (P : PS) (a1 : Int32) : Option (Int32 × PS) := lt_ ((a1 - (((a1).toUInt32 >>> (((1 : Int32)).toUInt32 &&& Int32.toUInt32 31)).toInt32 &&& (1431655765 : Int32)))) (fun x0_101 => lt_ (((x0_101 &&& (858993459 : Int32)) + (((x0_101).toUInt32 >>> (((2 : Int32)).toUInt32 &&& Int32.toUInt32 31)).toInt32 &&& (858993459 : Int32)))) (fun x0_102 => lt_ (((x0_102 + ((x0_102).toUInt32 >>> (((4 : Int32)).toUInt32 &&& Int32.toUInt32 31)).toInt32) &&& (252645135 : Int32))) (fun x0_103 => lt_ ((x0_103 + ((x0_103).toUInt32 >>> (((8 : Int32)).toUInt32 &&& Int32.toUInt32 31)).toInt32)) (fun x0_104 => lt_ ((x0_104 + ((x0_104).toUInt32 >>> (((16 : Int32)).toUInt32 &&& Int32.toUInt32 31)).toInt32)) (fun x0_105 => some ((x0_105 &&& (63 : Int32)), P))))))
abbrev wu_J6_bitCount_0f7a4 : List Cond := .code yJ6_bitCount_0f7a4 cJ6_bitCount_0f7a4 1 (some .int) :: wsL_law
theorem ud_J6_bitCount_0f7a4 : yJ6_bitCount_0f7a4.cls = RJ6 ∧ yJ6_bitCount_0f7a4.cls ≠ "java/lang/invoke/MethodHandle" ∧ yJ6_bitCount_0f7a4.cls ≠ "java/lang/invoke/VarHandle" ∧ (parseMethodDescriptor yJ6_bitCount_0f7a4.desc).map (fun d => d.parameters.length) = some 1 := by decide +kernel
abbrev rmc_J6_bitCount_0f7a4 : Room := { frames := 0, cells := 0, slots := 0, locals := 0 }
set_option maxHeartbeats 4000000 in
set_option maxRecDepth 100000 in
theorem hcc_J6_bitCount_0f7a4 (l : Launch) (D : va_G) (cs : Nat → ClassId) (t0 : TS) (P0 T : PS) (a1 : Int32) (r0 : Int32) (h : hm_J6_bitCount_0f7a4 P0 a1 = some (r0, T)) : MetCI l yJ6_bitCount_0f7a4 wu_J6_bitCount_0f7a4 rmc_J6_bitCount_0f7a4 D cs t0 [.int a1] P0 T r0 0 0 := by
  refine co_start (own := RJ6) (ty := (some .int)) (cc := cJ6_bitCount_0f7a4) (maxL := 1) ⟨by decide, rfl⟩ rfl (Nat.le_of_ble_eq_true rfl) ?_
  intro p e s m args below meth c ls cx hnm hl w
  have hx := cx.1
  have hb := cx.2.1
  have hts := cx.2.2.2.1
  have hown := cx.2.2.2.2.1
  have hml := cx.2.2.2.2.2.2
  have hsub : ∀ w ∈ wsL_law, w ∈ wu_J6_bitCount_0f7a4 := fun _ hq => List.mem_cons_of_mem _ hq
  have hl : lv_has ls 1 [(0, .int a1)] := hl
  have hP0 : P0 = P0 := rfl
  unfold hm_J6_bitCount_0f7a4 at h
  refine lv_iload_n hx hb dJ6_bitCount_0f7a4_0 rfl (lv_at hl 0 rfl) ?_
  refine lv_iload_n hx hb dJ6_bitCount_0f7a4_1 rfl (lv_at hl 0 rfl) ?_
  refine lv_iconst (v := (1 : Int32)) hx hb dJ6_bitCount_0f7a4_2 (by decide) ?_
  refine lv_iushr hx hb dJ6_bitCount_0f7a4_3 rfl ?_
  refine lv_ldcw (v := (1431655765 : Int32)) hx hb hown (hts _ (hsub _ uc_RJ6_265)) dJ6_bitCount_0f7a4_4 ?_
  refine lv_iand hx hb dJ6_bitCount_0f7a4_7 ?_
  refine lv_isub hx hb dJ6_bitCount_0f7a4_8 ?_
  replace h := lt_e h
  obtain ⟨x0_101, ex0_101, h⟩ := h
  refine top_i ex0_101 ?_
  refine lv_istore_n (lv' := [(0, .int x0_101)]) hx hb dJ6_bitCount_0f7a4_9 rfl hl (by decide) (rfl) (fun ls hl => ?_)
  refine lv_iload_n hx hb dJ6_bitCount_0f7a4_10 rfl (lv_at hl 0 rfl) ?_
  refine lv_ldcw (v := (858993459 : Int32)) hx hb hown (hts _ (hsub _ uc_RJ6_266)) dJ6_bitCount_0f7a4_11 ?_
  refine lv_iand hx hb dJ6_bitCount_0f7a4_14 ?_
  refine lv_iload_n hx hb dJ6_bitCount_0f7a4_15 rfl (lv_at hl 0 rfl) ?_
  refine lv_iconst (v := (2 : Int32)) hx hb dJ6_bitCount_0f7a4_16 (by decide) ?_
  refine lv_iushr hx hb dJ6_bitCount_0f7a4_17 rfl ?_
  refine lv_ldcw (v := (858993459 : Int32)) hx hb hown (hts _ (hsub _ uc_RJ6_266)) dJ6_bitCount_0f7a4_18 ?_
  refine lv_iand hx hb dJ6_bitCount_0f7a4_21 ?_
  refine lv_iadd hx hb dJ6_bitCount_0f7a4_22 ?_
  replace h := lt_e h
  obtain ⟨x0_102, ex0_102, h⟩ := h
  refine top_i ex0_102 ?_
  refine lv_istore_n (lv' := [(0, .int x0_102)]) hx hb dJ6_bitCount_0f7a4_23 rfl hl (by decide) (rfl) (fun ls hl => ?_)
  refine lv_iload_n hx hb dJ6_bitCount_0f7a4_24 rfl (lv_at hl 0 rfl) ?_
  refine lv_iload_n hx hb dJ6_bitCount_0f7a4_25 rfl (lv_at hl 0 rfl) ?_
  refine lv_iconst (v := (4 : Int32)) hx hb dJ6_bitCount_0f7a4_26 (by decide) ?_
  refine lv_iushr hx hb dJ6_bitCount_0f7a4_27 rfl ?_
  refine lv_iadd hx hb dJ6_bitCount_0f7a4_28 ?_
  refine lv_ldcw (v := (252645135 : Int32)) hx hb hown (hts _ (hsub _ uc_RJ6_267)) dJ6_bitCount_0f7a4_29 ?_
  refine lv_iand hx hb dJ6_bitCount_0f7a4_32 ?_
  replace h := lt_e h
  obtain ⟨x0_103, ex0_103, h⟩ := h
  refine top_i ex0_103 ?_
  refine lv_istore_n (lv' := [(0, .int x0_103)]) hx hb dJ6_bitCount_0f7a4_33 rfl hl (by decide) (rfl) (fun ls hl => ?_)
  refine lv_iload_n hx hb dJ6_bitCount_0f7a4_34 rfl (lv_at hl 0 rfl) ?_
  refine lv_iload_n hx hb dJ6_bitCount_0f7a4_35 rfl (lv_at hl 0 rfl) ?_
  refine lv_bipush (v := (8 : Int32)) hx hb dJ6_bitCount_0f7a4_36 (by decide) ?_
  refine lv_iushr hx hb dJ6_bitCount_0f7a4_38 rfl ?_
  refine lv_iadd hx hb dJ6_bitCount_0f7a4_39 ?_
  replace h := lt_e h
  obtain ⟨x0_104, ex0_104, h⟩ := h
  refine top_i ex0_104 ?_
  refine lv_istore_n (lv' := [(0, .int x0_104)]) hx hb dJ6_bitCount_0f7a4_40 rfl hl (by decide) (rfl) (fun ls hl => ?_)
  refine lv_iload_n hx hb dJ6_bitCount_0f7a4_41 rfl (lv_at hl 0 rfl) ?_
  refine lv_iload_n hx hb dJ6_bitCount_0f7a4_42 rfl (lv_at hl 0 rfl) ?_
  refine lv_bipush (v := (16 : Int32)) hx hb dJ6_bitCount_0f7a4_43 (by decide) ?_
  refine lv_iushr hx hb dJ6_bitCount_0f7a4_45 rfl ?_
  refine lv_iadd hx hb dJ6_bitCount_0f7a4_46 ?_
  replace h := lt_e h
  obtain ⟨x0_105, ex0_105, h⟩ := h
  refine top_i ex0_105 ?_
  refine lv_istore_n (lv' := [(0, .int x0_105)]) hx hb dJ6_bitCount_0f7a4_47 rfl hl (by decide) (rfl) (fun ls hl => ?_)
  refine lv_iload_n hx hb dJ6_bitCount_0f7a4_48 rfl (lv_at hl 0 rfl) ?_
  refine lv_bipush (v := (63 : Int32)) hx hb dJ6_bitCount_0f7a4_49 (by decide) ?_
  refine lv_iand hx hb dJ6_bitCount_0f7a4_51 ?_
  exact cw_iret cx (rt_e h) w dJ6_bitCount_0f7a4_52
def hm_J15_checkIndex_7cf53 (P : PS) (a1 : Int32) (a2 : Int32) : Option (Int32 × PS) := bd (hm_J3_checkIndex_8e157  P a1 a2 none) (fun r_102 P_101 => some (r_102, P_101))
abbrev wu_J15_checkIndex_7cf53 : List Cond := .code yJ15_checkIndex_7cf53 cJ15_checkIndex_7cf53 2 (some .int) :: wsL_law
theorem ud_J15_checkIndex_7cf53 : yJ15_checkIndex_7cf53.cls = RJ15 ∧ yJ15_checkIndex_7cf53.cls ≠ "java/lang/invoke/MethodHandle" ∧ yJ15_checkIndex_7cf53.cls ≠ "java/lang/invoke/VarHandle" ∧ (parseMethodDescriptor yJ15_checkIndex_7cf53.desc).map (fun d => d.parameters.length) = some 2 := by decide +kernel
abbrev rmc_J15_checkIndex_7cf53 : Room := { frames := 1, cells := 0, slots := 0, locals := 22 }
set_option maxHeartbeats 4000000 in
set_option maxRecDepth 100000 in
theorem hcc_J15_checkIndex_7cf53 (l : Launch) (D : va_G) (cs : Nat → ClassId) (t0 : TS) (P0 T : PS) (a1 : Int32) (a2 : Int32) (r0 : Int32) (h : hm_J15_checkIndex_7cf53 P0 a1 a2 = some (r0, T)) : MetCI l yJ15_checkIndex_7cf53 wu_J15_checkIndex_7cf53 rmc_J15_checkIndex_7cf53 D cs t0 [.int a1, .int a2] P0 T r0 0 0 := by
  refine co_start (own := RJ15) (ty := (some .int)) (cc := cJ15_checkIndex_7cf53) (maxL := 2) ⟨by decide, rfl⟩ rfl (Nat.le_of_ble_eq_true rfl) ?_
  intro p e s m args below meth c ls cx hnm hl w
  have hx := cx.1
  have hb := cx.2.1
  have hts := cx.2.2.2.1
  have hown := cx.2.2.2.2.1
  have hml := cx.2.2.2.2.2.2
  have hsub : ∀ w ∈ wsL_law, w ∈ wu_J15_checkIndex_7cf53 := fun _ hq => List.mem_cons_of_mem _ hq
  have hl : lv_has ls 2 [(0, .int a1), (1, .int a2)] := hl
  have hP0 : P0 = P0 := rfl
  unfold hm_J15_checkIndex_7cf53 at h
  refine lv_iload_n hx hb dJ15_checkIndex_7cf53_0 rfl (lv_at hl 0 rfl) ?_
  refine lv_iload_n hx hb dJ15_checkIndex_7cf53_1 rfl (lv_at hl 1 rfl) ?_
  refine lv_null hx hb dJ15_checkIndex_7cf53_2 ?_
  replace h := bd_e h
  obtain ⟨r_102, P_101, hc_103, h⟩ := h
  refine cc_i (cr_S (As := [.int a1, .int a2, .null]) (rest := []) cx (hcc_J3_checkIndex_8e157 l D cs t0  P0 P_101 a1 a2 none r_102 hc_103) (va_cwS 3 hts (uGS uw_J3_checkIndex_8e157 ul_RJ15_105 ut_J3_checkIndex_8e157 un_RJ3) rfl rfl rfl ud_J3_checkIndex_8e157.2 ⟨Nat.le_of_ble_eq_true rfl, Nat.le_of_ble_eq_true rfl⟩) w rfl hl.1 rfl (Nat.le_of_ble_eq_true rfl) dJ15_checkIndex_7cf53_3 ⟨(Nat.le_of_ble_eq_true rfl), (Nat.le_of_ble_eq_true rfl)⟩) (fun H locs w => ?_)
  exact cw_iret cx (rt_e h) w dJ15_checkIndex_7cf53_6
def hm_Jx4a65c_elementData_915e3 (P : PS) (th : Nat) (a1 : Int32) : Option (Option Nat × PS) := ck (kk P th 0) (nn (pR P th 1) (fun b_102 => ck (kk P b_102 17) (ck (vin a1 (pN P b_102)) (lt_ (pR P b_102 (a1).toNatClampNeg) (fun o_105 => some (o_105, P))))))
abbrev wu_Jx4a65c_elementData_915e3 : List Cond := .code yJx4a65c_elementData_915e3 cJx4a65c_elementData_915e3 2 (some (.object "java/lang/Object")) :: wsL_law
theorem ud_Jx4a65c_elementData_915e3 : yJx4a65c_elementData_915e3.cls = RJx4a65c ∧ yJx4a65c_elementData_915e3.cls ≠ "java/lang/invoke/MethodHandle" ∧ yJx4a65c_elementData_915e3.cls ≠ "java/lang/invoke/VarHandle" ∧ (parseMethodDescriptor yJx4a65c_elementData_915e3.desc).map (fun d => d.parameters.length) = some 1 := by decide +kernel
abbrev rmc_Jx4a65c_elementData_915e3 : Room := { frames := 0, cells := 0, slots := 0, locals := 0 }
set_option maxHeartbeats 4000000 in
set_option maxRecDepth 100000 in
theorem hcc_Jx4a65c_elementData_915e3 (l : Launch) (D : va_G) (cs : Nat → ClassId) (t0 : TS) (P0 T : PS) (th : Nat) (a1 : Int32) (r0 : Option Nat) (h : hm_Jx4a65c_elementData_915e3 P0 th a1 = some (r0, T)) : MetCQ l yJx4a65c_elementData_915e3 wu_Jx4a65c_elementData_915e3 rmc_Jx4a65c_elementData_915e3 D cs t0 [.ref th, .int a1] P0 T r0 0 0 := by
  refine co_start (own := RJx4a65c) (ty := (some (.object "java/lang/Object"))) (cc := cJx4a65c_elementData_915e3) (maxL := 2) ⟨by decide, rfl⟩ rfl (Nat.le_of_ble_eq_true rfl) ?_
  intro p e s m args below meth c ls cx hnm hl w
  have hx := cx.1
  have hb := cx.2.1
  have hts := cx.2.2.2.1
  have hown := cx.2.2.2.2.1
  have hml := cx.2.2.2.2.2.2
  have hsub : ∀ w ∈ wsL_law, w ∈ wu_Jx4a65c_elementData_915e3 := fun _ hq => List.mem_cons_of_mem _ hq
  have hl : lv_has ls 2 [(0, .ref th), (1, .int a1)] := hl
  have hP0 : P0 = P0 := rfl
  unfold hm_Jx4a65c_elementData_915e3 at h
  refine lv_aload_n hx hb dJx4a65c_elementData_915e3_0 rfl (lv_at hl 0 rfl) ?_
  replace h := ck_e h
  obtain ⟨hk_101, h⟩ := h
  replace h := nn_e h
  obtain ⟨b_102, hbb_102, h⟩ := h
  refine cw_getS cx hsub w kT0 hk_101 1 (by decide) hbb_102 ⟨hsub _ uf_RJx4a65c_9, Or.inl rfl⟩ dJx4a65c_elementData_915e3_1 ?_
  refine lv_iload_n hx hb dJx4a65c_elementData_915e3_4 rfl (lv_at hl 1 rfl) ?_
  replace h := ck_e h
  obtain ⟨hk_103, h⟩ := h
  replace h := ck_e h
  obtain ⟨hq_104, h⟩ := h
  replace h := lt_e h
  obtain ⟨o_105, eo_105, h⟩ := h
  refine cw_oald cx w hk_103 hq_104 eo_105 dJx4a65c_elementData_915e3_5 ?_
  exact cw_aret cx (by first | exact Or.inl ⟨_, rfl⟩ | exact Or.inr ⟨_, rfl⟩) (v := o_105) (rt_e h) w dJx4a65c_elementData_915e3_6
def hm_Jx4a65c_get_915e3 (P : PS) (th : Nat) (a1 : Int32) : Option (Option Nat × PS) := ck (kk P th 0) (bd (hm_J15_checkIndex_7cf53  P a1 (pI P th 2)) (fun r_103 P_102 => bd (hm_Jx4a65c_elementData_915e3  P_102 th a1) (fun o_106 P_105 => ck (kk P_102 th 0) (some (o_106, P_105)))))
abbrev wu_Jx4a65c_get_915e3 : List Cond := .code yJx4a65c_get_915e3 cJx4a65c_get_915e3 2 (some (.object "java/lang/Object")) :: wsL_law
theorem ud_Jx4a65c_get_915e3 : yJx4a65c_get_915e3.cls = RJx4a65c ∧ yJx4a65c_get_915e3.cls ≠ "java/lang/invoke/MethodHandle" ∧ yJx4a65c_get_915e3.cls ≠ "java/lang/invoke/VarHandle" ∧ (parseMethodDescriptor yJx4a65c_get_915e3.desc).map (fun d => d.parameters.length) = some 1 := by decide +kernel
abbrev rmc_Jx4a65c_get_915e3 : Room := { frames := 2, cells := 0, slots := 0, locals := 43 }
set_option maxHeartbeats 4000000 in
set_option maxRecDepth 100000 in
theorem hcc_Jx4a65c_get_915e3 (l : Launch) (D : va_G) (cs : Nat → ClassId) (t0 : TS) (P0 T : PS) (th : Nat) (a1 : Int32) (r0 : Option Nat) (h : hm_Jx4a65c_get_915e3 P0 th a1 = some (r0, T)) : MetCQ l yJx4a65c_get_915e3 wu_Jx4a65c_get_915e3 rmc_Jx4a65c_get_915e3 D cs t0 [.ref th, .int a1] P0 T r0 0 0 := by
  refine co_start (own := RJx4a65c) (ty := (some (.object "java/lang/Object"))) (cc := cJx4a65c_get_915e3) (maxL := 2) ⟨by decide, rfl⟩ rfl (Nat.le_of_ble_eq_true rfl) ?_
  intro p e s m args below meth c ls cx hnm hl w
  have hx := cx.1
  have hb := cx.2.1
  have hts := cx.2.2.2.1
  have hown := cx.2.2.2.2.1
  have hml := cx.2.2.2.2.2.2
  have hsub : ∀ w ∈ wsL_law, w ∈ wu_Jx4a65c_get_915e3 := fun _ hq => List.mem_cons_of_mem _ hq
  have hl : lv_has ls 2 [(0, .ref th), (1, .int a1)] := hl
  have hP0 : P0 = P0 := rfl
  unfold hm_Jx4a65c_get_915e3 at h
  refine lv_iload_n hx hb dJx4a65c_get_915e3_0 rfl (lv_at hl 1 rfl) ?_
  refine lv_aload_n hx hb dJx4a65c_get_915e3_1 rfl (lv_at hl 0 rfl) ?_
  replace h := ck_e h
  obtain ⟨hk_101, h⟩ := h
  refine cw_getI cx hsub w kT0 hk_101 2 (by decide) ⟨hsub _ uf_RJx4a65c_48, Or.inl rfl⟩ dJx4a65c_get_915e3_2 ?_
  replace h := bd_e h
  obtain ⟨r_103, P_102, hc_104, h⟩ := h
  refine cc_i (cr_S (As := [.int a1, .int (pI P0 th 2)]) (rest := []) cx (hcc_J15_checkIndex_7cf53 l D cs t0  P0 P_102 a1 (pI P0 th 2) r_103 hc_104) (va_cwS 2 hts (uGS uw_J15_checkIndex_7cf53 ul_RJx4a65c_118 ut_J15_checkIndex_7cf53 un_RJ15) rfl rfl rfl ud_J15_checkIndex_7cf53.2 ⟨Nat.le_of_ble_eq_true rfl, Nat.le_of_ble_eq_true rfl⟩) w rfl hl.1 rfl (Nat.le_of_ble_eq_true rfl) dJx4a65c_get_915e3_5 ⟨(Nat.le_of_ble_eq_true rfl), (Nat.le_of_ble_eq_true rfl)⟩) (fun H locs w => ?_)
  refine lv_pop hx hb dJx4a65c_get_915e3_8 rfl ?_
  refine lv_aload_n hx hb dJx4a65c_get_915e3_9 rfl (lv_at hl 0 rfl) ?_
  refine lv_iload_n hx hb dJx4a65c_get_915e3_10 rfl (lv_at hl 1 rfl) ?_
  replace h := bd_e h
  obtain ⟨o_106, P_105, hc_107, h⟩ := h
  replace h := ck_e h
  obtain ⟨hk_108, h⟩ := h
  refine cc_q (cr_V (As := [.int a1]) (rest := []) cx (hcc_Jx4a65c_elementData_915e3 l D cs t0  P_102 P_105 th a1 o_106 hc_107) kT0 hk_108 (cwV 1 hts (uG uw_Jx4a65c_elementData_915e3 ul_RJx4a65c_123 ui_Jx4a65c_elementData_915e3 us_RJx4a65c_Jx4a65c_elementData_915e3 un_RJx4a65c) rfl rfl rfl ud_Jx4a65c_elementData_915e3 ⟨Nat.le_of_ble_eq_true rfl, Nat.le_of_ble_eq_true rfl⟩) w rfl hl.1 rfl (Nat.le_of_ble_eq_true rfl) dJx4a65c_get_915e3_11 ⟨(Nat.le_of_ble_eq_true rfl), (Nat.le_of_ble_eq_true rfl)⟩) (fun H locs w => ?_)
  exact cw_aret cx (by first | exact Or.inl ⟨_, rfl⟩ | exact Or.inr ⟨_, rfl⟩) (v := o_106) (rt_e h) w dJx4a65c_get_915e3_14
def hm_X4_holding_70 (k23 : Nat → Nat → Int32 → Nat → Int32 → Int32 → Int32 → PS → Option (Int32 × PS)) (o0 : Nat) (o1 : Nat) (x2 : Int32) (o3 : Nat) (x4 : Int32) (x5 : Int32) (x6 : Int32) (P : PS) : Option (Int32 × PS) := lt_ (x6 + (1 : Int32)) (fun x6_101 => k23 o0 o1 x2 o3 x4 x5 x6_101 P)
def hm_X4_holding_23 (k23 : Nat → Nat → Int32 → Nat → Int32 → Int32 → Int32 → PS → Option (Int32 × PS)) (o0 : Nat) (o1 : Nat) (x2 : Int32) (o3 : Nat) (x4 : Int32) (x5 : Int32) (x6 : Int32) (P : PS) : Option (Int32 × PS) := ck (kk P o0 5) (nn (pR P o0 2) (fun b_203 => bd (hm_Jx4a65c_size_8abf5  P b_203) (fun r_205 P_204 => ck (kk P b_203 0) (if r_205 ≤ x6 then (some (x5, P_204)) else (ck (kk P_204 o0 5) (nn (pR P_204 o0 2) (fun b_209 => bd (hm_Jx4a65c_get_915e3  P_204 b_209 x6) (fun o_211 P_210 => ck (kk P_204 b_209 0) (nn o_211 (fun b_214 => ck (kk P_210 b_214 2) (ck (kk P_210 o3 6) (bd (hm_X1_holds  P_210 b_214 o1 x2 (pI P_210 o3 0) x4) (fun r_218 P_217 => if r_218 = (0 : Int32) then (hm_X4_holding_70 k23 o0 o1 x2 o3 x4 x5 x6 P_217) else (lt_ ((x5 ||| ((1 : Int32) <<< (x6 &&& 31)))) (fun x5_220 => hm_X4_holding_70 k23 o0 o1 x2 o3 x4 x5_220 x6 P_217)))))))))))))))
def hm_X4_holding_23L : Nat → Nat → Nat → Int32 → Nat → Int32 → Int32 → Int32 → PS → Option (Int32 × PS)
  | 0, _, _, _, _, _, _, _, _ => none
  | n + 1, o0, o1, x2, o3, x4, x5, x6, P => hm_X4_holding_23  (hm_X4_holding_23L  n) o0 o1 x2 o3 x4 x5 x6 P
def hm_X4_holding (P : PS) (th : Nat) (a1 : Nat) (a2 : Int32) (a3 : Nat) : Option (Int32 × PS) := ck (kk P a1 8) (nn (pR P a1 3) (fun b_322 => ck (kk P b_322 3) (ck (kk P a3 6) (bd (hm_J6_bitCount_0f7a4  P ((pI P b_322 2) &&& (pI P a3 2))) (fun r_326 P_325 => lt_ ((0 : Int32)) (fun x5_328 => lt_ ((0 : Int32)) (fun x6_329 => hm_X4_holding_23L  4000 th a1 a2 a3 r_326 x5_328 x6_329 P_325)))))))
abbrev wu_X4_holding : List Cond := .code yX4_holding cX4_holding 7 (some .int) :: wsL_law
theorem ud_X4_holding : yX4_holding.cls = RX4 ∧ yX4_holding.cls ≠ "java/lang/invoke/MethodHandle" ∧ yX4_holding.cls ≠ "java/lang/invoke/VarHandle" ∧ (parseMethodDescriptor yX4_holding.desc).map (fun d => d.parameters.length) = some 3 := by decide +kernel
abbrev rmc_X4_holding : Room := { frames := 3, cells := 0, slots := 0, locals := 64 }
set_option maxHeartbeats 4000000 in
set_option maxRecDepth 100000 in
theorem hcc_X4_holding (l : Launch) (D : va_G) (cs : Nat → ClassId) (t0 : TS) (P0 T : PS) (th : Nat) (a1 : Nat) (a2 : Int32) (a3 : Nat) (r0 : Int32) (h : hm_X4_holding P0 th a1 a2 a3 = some (r0, T)) : MetCI l yX4_holding wu_X4_holding rmc_X4_holding D cs t0 [.ref th, .ref a1, .int a2, .ref a3] P0 T r0 0 0 := by
  refine co_start (own := RX4) (ty := (some .int)) (cc := cX4_holding) (maxL := 7) ⟨by decide, rfl⟩ rfl (Nat.le_of_ble_eq_true rfl) ?_
  intro p e s m args below meth c ls cx hnm hl w
  have hx := cx.1
  have hb := cx.2.1
  have hts := cx.2.2.2.1
  have hown := cx.2.2.2.2.1
  have hml := cx.2.2.2.2.2.2
  have hsub : ∀ w ∈ wsL_law, w ∈ wu_X4_holding := fun _ hq => List.mem_cons_of_mem _ hq
  have hl : lv_has ls 7 [(0, .ref th), (1, .ref a1), (2, .int a2), (3, .ref a3)] := hl
  have J70 : ∀ (k23 : Nat → Nat → Int32 → Nat → Int32 → Int32 → Int32 → PS → Option (Int32 × PS)) (hk23 : ∀ (o0 : Nat) (o1 : Nat) (x2 : Int32) (o3 : Nat) (x4 : Int32) (x5 : Int32) (x6 : Int32) (P : PS), k23 o0 o1 x2 o3 x4 x5 x6 P = some (r0, T) → cGo p l e rmc_X4_holding s m args below meth c 7 D cs t0 (pA P0) (cQI below D cs P0 args s 0 0 r0 T) 0 0 23 [(0, .ref o0), (1, .ref o1), (2, .int x2), (3, .ref o3), (4, .int x4), (5, .int x5), (6, .int x6)] [] P) (o0 : Nat) (o1 : Nat) (x2 : Int32) (o3 : Nat) (x4 : Int32) (x5 : Int32) (x6 : Int32) (P : PS), hm_X4_holding_70 k23 o0 o1 x2 o3 x4 x5 x6 P = some (r0, T) → cGo p l e rmc_X4_holding s m args below meth c 7 D cs t0 (pA P0) (cQI below D cs P0 args s 0 0 r0 T) 0 0 70 [(0, .ref o0), (1, .ref o1), (2, .int x2), (3, .ref o3), (4, .int x4), (5, .int x5), (6, .int x6)] [] P := by
    intro k23 hk23 o0 o1 x2 o3 x4 x5 x6 P h H locs ls hl w
    unfold hm_X4_holding_70 at h
    replace h := lt_e h
    obtain ⟨x6_101, ex6_101, h⟩ := h
    refine lv_iinc (v := x6_101) (lv' := [(6, .int x6_101), (0, .ref o0), (1, .ref o1), (2, .int x2), (3, .ref o3), (4, .int x4), (5, .int x5)]) hx hb dX4_holding_70 hl (k := 6) rfl (by rw [ex6_101]; rfl) (by decide) (rfl) (fun ls hl => ?_)
    refine lv_goto (tgt := 23) hx hb dX4_holding_73 (by decide) ?_
    exact hk23 o0 o1 x2 o3 x4 x5 x6_101 P h _ _ _ (lv_sub hl [1, 2, 3, 4, 5, 6, 0] rfl) w
  have L23 : ∀ (n : Nat) (o0 : Nat) (o1 : Nat) (x2 : Int32) (o3 : Nat) (x4 : Int32) (x5 : Int32) (x6 : Int32) (P : PS), hm_X4_holding_23L  n o0 o1 x2 o3 x4 x5 x6 P = some (r0, T) → cGo p l e rmc_X4_holding s m args below meth c 7 D cs t0 (pA P0) (cQI below D cs P0 args s 0 0 r0 T) 0 0 23 [(0, .ref o0), (1, .ref o1), (2, .int x2), (3, .ref o3), (4, .int x4), (5, .int x5), (6, .int x6)] [] P := by
    intro n
    induction n with
    | zero =>
      intro o0 o1 x2 o3 x4 x5 x6 P h
      have h : none = some (r0, T) := h
      cases h
    | succ n hk23 =>
      intro o0 o1 x2 o3 x4 x5 x6 P h H locs ls hl w
      have h : hm_X4_holding_23  (hm_X4_holding_23L  n) o0 o1 x2 o3 x4 x5 x6 P = some (r0, T) := h
      generalize hm_X4_holding_23L  n = k23 at h hk23
      unfold hm_X4_holding_23 at h
      refine lv_iload hx hb dX4_holding_23 (lv_at hl 6 rfl) ?_
      refine lv_aload_n hx hb dX4_holding_25 rfl (lv_at hl 0 rfl) ?_
      replace h := ck_e h
      obtain ⟨hk_202, h⟩ := h
      replace h := nn_e h
      obtain ⟨b_203, hbb_203, h⟩ := h
      refine cw_getS cx hsub w kT5 hk_202 2 (by decide) hbb_203 ⟨hsub _ uf_RX4_12, Or.inl rfl⟩ dX4_holding_26 ?_
      replace h := bd_e h
      obtain ⟨r_205, P_204, hc_206, h⟩ := h
      replace h := ck_e h
      obtain ⟨hk_207, h⟩ := h
      refine cc_i (cr_V (As := []) (rest := [.int x6]) cx (hcc_Jx4a65c_size_8abf5 l D cs t0  P P_204 b_203 r_205 hc_206) kT0 hk_207 (cwV 0 hts (uG uw_Jx4a65c_size_8abf5 ul_RX4_25 ui_Jx4a65c_size_8abf5 us_RJx4a65c_Jx4a65c_size_8abf5 un_RJx4a65c) rfl rfl rfl ud_Jx4a65c_size_8abf5 ⟨Nat.le_of_ble_eq_true rfl, Nat.le_of_ble_eq_true rfl⟩) w rfl hl.1 rfl (Nat.le_of_ble_eq_true rfl) dX4_holding_29 ⟨(Nat.le_of_ble_eq_true rfl), (Nat.le_of_ble_eq_true rfl)⟩) (fun H locs w => ?_)
      refine lv_icmp_ge (tgt := 76) hx hb dX4_holding_32 (by decide) (fun q => ?_) (fun q => ?_)
      · replace h := br_p q h
        refine lv_iload hx hb dX4_holding_76 (lv_at hl 5 rfl) ?_
        exact cw_iret cx (rt_e h) w dX4_holding_78
      · replace h := br_n q h
        refine lv_aload_n hx hb dX4_holding_35 rfl (lv_at hl 0 rfl) ?_
        replace h := ck_e h
        obtain ⟨hk_208, h⟩ := h
        replace h := nn_e h
        obtain ⟨b_209, hbb_209, h⟩ := h
        refine cw_getS cx hsub w kT5 hk_208 2 (by decide) hbb_209 ⟨hsub _ uf_RX4_12, Or.inl rfl⟩ dX4_holding_36 ?_
        refine lv_iload hx hb dX4_holding_39 (lv_at hl 6 rfl) ?_
        replace h := bd_e h
        obtain ⟨o_211, P_210, hc_212, h⟩ := h
        replace h := ck_e h
        obtain ⟨hk_213, h⟩ := h
        refine cc_q (cr_V (As := [.int x6]) (rest := []) cx (hcc_Jx4a65c_get_915e3 l D cs t0  P_204 P_210 b_209 x6 o_211 hc_212) kT0 hk_213 (cwV 1 hts (uG uw_Jx4a65c_get_915e3 ul_RX4_69 ui_Jx4a65c_get_915e3 us_RJx4a65c_Jx4a65c_get_915e3 un_RJx4a65c) rfl rfl rfl ud_Jx4a65c_get_915e3 ⟨Nat.le_of_ble_eq_true rfl, Nat.le_of_ble_eq_true rfl⟩) w rfl hl.1 rfl (Nat.le_of_ble_eq_true rfl) dX4_holding_41 ⟨(Nat.le_of_ble_eq_true rfl), (Nat.le_of_ble_eq_true rfl)⟩) (fun H locs w => ?_)
        replace h := nn_e h
        obtain ⟨b_214, hbb_214, h⟩ := h
        subst hbb_214
        have hl : lv_has ls 7 [(0, .ref o0), (1, .ref o1), (2, .int x2), (3, .ref o3), (4, .int x4), (5, .int x5), (6, .int x6)] := hl
        refine W.eq (g2 := F0 m _ ls [.ref b_214]) rfl ?_
        replace h := ck_e h
        obtain ⟨hk_215, h⟩ := h
        refine cw_cast cx w kT2 hk_215 (hsub _ ucl_RX4_34) dX4_holding_44 ?_
        refine lv_aload_n hx hb dX4_holding_47 rfl (lv_at hl 1 rfl) ?_
        refine lv_iload_n hx hb dX4_holding_48 rfl (lv_at hl 2 rfl) ?_
        refine lv_aload_n hx hb dX4_holding_49 rfl (lv_at hl 3 rfl) ?_
        replace h := ck_e h
        obtain ⟨hk_216, h⟩ := h
        refine cw_getI cx hsub w kT6 hk_216 0 (by decide) ⟨hsub _ uf_RX4_73, Or.inl rfl⟩ dX4_holding_50 ?_
        refine lv_iload hx hb dX4_holding_53 (lv_at hl 4 rfl) ?_
        replace h := bd_e h
        obtain ⟨r_218, P_217, hc_219, h⟩ := h
        refine cc_i (cr_V (As := [.ref o1, .int x2, .int (pI P_210 o3 0), .int x4]) (rest := []) cx (hcc_X1_holds l D cs t0  P_210 P_217 b_214 o1 x2 (pI P_210 o3 0) x4 r_218 hc_219) kT2 hk_215 (cwV 4 hts (uG uw_X1_holds ul_RX4_76 ui_X1_holds us_RX1_X1_holds un_RX1) rfl rfl rfl ud_X1_holds ⟨Nat.le_of_ble_eq_true rfl, Nat.le_of_ble_eq_true rfl⟩) w rfl hl.1 rfl (Nat.le_of_ble_eq_true rfl) dX4_holding_55 ⟨(Nat.le_of_ble_eq_true rfl), (Nat.le_of_ble_eq_true rfl)⟩) (fun H locs w => ?_)
        refine lv_if_eq (tgt := 70) hx hb dX4_holding_58 (by decide) (fun q => ?_) (fun q => ?_)
        · replace h := br_p q h
          exact J70 k23 hk23 o0 o1 x2 o3 x4 x5 x6 P_217 h _ _ _ (lv_sub hl [0, 1, 2, 3, 4, 5, 6] rfl) w
        · replace h := br_n q h
          refine lv_iload hx hb dX4_holding_61 (lv_at hl 5 rfl) ?_
          refine lv_iconst (v := (1 : Int32)) hx hb dX4_holding_63 (by decide) ?_
          refine lv_iload hx hb dX4_holding_64 (lv_at hl 6 rfl) ?_
          refine lv_ishl hx hb dX4_holding_66 ?_
          refine lv_ior hx hb dX4_holding_67 ?_
          replace h := lt_e h
          obtain ⟨x5_220, ex5_220, h⟩ := h
          refine top_i ex5_220 ?_
          refine lv_istore (lv' := [(5, .int x5_220), (0, .ref o0), (1, .ref o1), (2, .int x2), (3, .ref o3), (4, .int x4), (6, .int x6)]) hx hb dX4_holding_68 hl (by decide) (rfl) (fun ls hl => ?_)
          exact J70 k23 hk23 o0 o1 x2 o3 x4 x5_220 x6 P_217 h _ _ _ (lv_sub hl [1, 2, 3, 4, 5, 0, 6] rfl) w
  have hP0 : P0 = P0 := rfl
  unfold hm_X4_holding at h
  refine lv_aload_n hx hb dX4_holding_0 rfl (lv_at hl 1 rfl) ?_
  replace h := ck_e h
  obtain ⟨hk_321, h⟩ := h
  replace h := nn_e h
  obtain ⟨b_322, hbb_322, h⟩ := h
  refine cw_getS cx hsub w kT8 hk_321 3 (by decide) hbb_322 ⟨hsub _ uf_RX4_47, Or.inl rfl⟩ dX4_holding_1 ?_
  replace h := ck_e h
  obtain ⟨hk_323, h⟩ := h
  refine cw_getI cx hsub w kT3 hk_323 2 (by decide) ⟨hsub _ uf_RX4_53, Or.inl rfl⟩ dX4_holding_4 ?_
  refine lv_aload_n hx hb dX4_holding_7 rfl (lv_at hl 3 rfl) ?_
  replace h := ck_e h
  obtain ⟨hk_324, h⟩ := h
  refine cw_getI cx hsub w kT6 hk_324 2 (by decide) ⟨hsub _ uf_RX4_58, Or.inl rfl⟩ dX4_holding_8 ?_
  refine lv_iand hx hb dX4_holding_11 ?_
  replace h := bd_e h
  obtain ⟨r_326, P_325, hc_327, h⟩ := h
  refine cc_i (cr_S (As := [.int ((pI P0 b_322 2) &&& (pI P0 a3 2))]) (rest := []) cx (hcc_J6_bitCount_0f7a4 l D cs t0  P0 P_325 ((pI P0 b_322 2) &&& (pI P0 a3 2)) r_326 hc_327) (va_cwS 1 hts (uGS uw_J6_bitCount_0f7a4 ul_RX4_63 ut_J6_bitCount_0f7a4 un_RJ6) rfl rfl rfl ud_J6_bitCount_0f7a4.2 ⟨Nat.le_of_ble_eq_true rfl, Nat.le_of_ble_eq_true rfl⟩) w rfl hl.1 rfl (Nat.le_of_ble_eq_true rfl) dX4_holding_12 ⟨(Nat.le_of_ble_eq_true rfl), (Nat.le_of_ble_eq_true rfl)⟩) (fun H locs w => ?_)
  refine lv_istore (lv' := [(4, .int r_326), (0, .ref th), (1, .ref a1), (2, .int a2), (3, .ref a3)]) hx hb dX4_holding_15 hl (by decide) (rfl) (fun ls hl => ?_)
  refine lv_iconst (v := (0 : Int32)) hx hb dX4_holding_17 (by decide) ?_
  replace h := lt_e h
  obtain ⟨x5_328, ex5_328, h⟩ := h
  refine top_i ex5_328 ?_
  refine lv_istore (lv' := [(5, .int x5_328), (4, .int r_326), (0, .ref th), (1, .ref a1), (2, .int a2), (3, .ref a3)]) hx hb dX4_holding_18 hl (by decide) (rfl) (fun ls hl => ?_)
  refine lv_iconst (v := (0 : Int32)) hx hb dX4_holding_20 (by decide) ?_
  replace h := lt_e h
  obtain ⟨x6_329, ex6_329, h⟩ := h
  refine top_i ex6_329 ?_
  refine lv_istore (lv' := [(6, .int x6_329), (5, .int x5_328), (4, .int r_326), (0, .ref th), (1, .ref a1), (2, .int a2), (3, .ref a3)]) hx hb dX4_holding_21 hl (by decide) (rfl) (fun ls hl => ?_)
  exact L23  4000 th a1 a2 a3 r_326 x5_328 x6_329 P_325 h _ _ _ (lv_sub hl [3, 4, 5, 6, 2, 1, 0] rfl) w
def hm_X8_has (P : PS) (a1 : Int32) (a2 : Int32) : Option (Int32 × PS) := if ((a1 >>> (a2 &&& 31)) &&& (1 : Int32)) = (0 : Int32) then (some ((0 : Int32), P)) else (some ((1 : Int32), P))
abbrev wu_X8_has : List Cond := .code yX8_has cX8_has 2 (some .boolean) :: wsL_law
theorem ud_X8_has : yX8_has.cls = RX8 ∧ yX8_has.cls ≠ "java/lang/invoke/MethodHandle" ∧ yX8_has.cls ≠ "java/lang/invoke/VarHandle" ∧ (parseMethodDescriptor yX8_has.desc).map (fun d => d.parameters.length) = some 2 := by decide +kernel
abbrev rmc_X8_has : Room := { frames := 0, cells := 0, slots := 0, locals := 0 }
set_option maxHeartbeats 4000000 in
set_option maxRecDepth 100000 in
theorem hcc_X8_has (l : Launch) (D : va_G) (cs : Nat → ClassId) (t0 : TS) (P0 T : PS) (a1 : Int32) (a2 : Int32) (r0 : Int32) (h : hm_X8_has P0 a1 a2 = some (r0, T)) : MetCI l yX8_has wu_X8_has rmc_X8_has D cs t0 [.int a1, .int a2] P0 T r0 0 0 := by
  refine co_start (own := RX8) (ty := (some .boolean)) (cc := cX8_has) (maxL := 2) ⟨by decide, rfl⟩ rfl (Nat.le_of_ble_eq_true rfl) ?_
  intro p e s m args below meth c ls cx hnm hl w
  have hx := cx.1
  have hb := cx.2.1
  have hts := cx.2.2.2.1
  have hown := cx.2.2.2.2.1
  have hml := cx.2.2.2.2.2.2
  have hsub : ∀ w ∈ wsL_law, w ∈ wu_X8_has := fun _ hq => List.mem_cons_of_mem _ hq
  have hl : lv_has ls 2 [(0, .int a1), (1, .int a2)] := hl
  have hP0 : P0 = P0 := rfl
  unfold hm_X8_has at h
  refine lv_iload_n hx hb dX8_has_0 rfl (lv_at hl 0 rfl) ?_
  refine lv_iload_n hx hb dX8_has_1 rfl (lv_at hl 1 rfl) ?_
  refine lv_ishr hx hb dX8_has_2 ?_
  refine lv_iconst (v := (1 : Int32)) hx hb dX8_has_3 (by decide) ?_
  refine lv_iand hx hb dX8_has_4 ?_
  refine lv_if_eq (tgt := 12) hx hb dX8_has_5 (by decide) (fun q => ?_) (fun q => ?_)
  · replace h := br_p q h
    refine lv_iconst (v := (0 : Int32)) hx hb dX8_has_12 (by decide) ?_
    exact cw_zret cx (Or.inl rfl) (rt_e h) w dX8_has_13
  · replace h := br_n q h
    refine lv_iconst (v := (1 : Int32)) hx hb dX8_has_8 (by decide) ?_
    refine lv_goto (tgt := 13) hx hb dX8_has_9 (by decide) ?_
    exact cw_zret cx (Or.inr rfl) (rt_e h) w dX8_has_13
def hm_X4_unmetNeeds_58 (k4 : Nat → Nat → Int32 → Int32 → PS → Option (Int32 × PS)) (o0 : Nat) (o1 : Nat) (x2 : Int32) (x3 : Int32) (P : PS) : Option (Int32 × PS) := lt_ (x3 + (1 : Int32)) (fun x3_101 => k4 o0 o1 x2 x3_101 P)
def hm_X4_unmetNeeds_4 (k4 : Nat → Nat → Int32 → Int32 → PS → Option (Int32 × PS)) (o0 : Nat) (o1 : Nat) (x2 : Int32) (x3 : Int32) (P : PS) : Option (Int32 × PS) := ck (kk P o0 5) (nn (pR P o0 2) (fun b_203 => bd (hm_Jx4a65c_size_8abf5  P b_203) (fun r_205 P_204 => ck (kk P b_203 0) (if r_205 ≤ x3 then (some (x2, P_204)) else (ck (kk P_204 o0 5) (nn (pR P_204 o0 2) (fun b_209 => bd (hm_Jx4a65c_get_915e3  P_204 b_209 x3) (fun o_211 P_210 => ck (kk P_204 b_209 0) (nn o_211 (fun b_214 => ck (kk P_210 b_214 2) (if (pI P_210 b_214 0) = (2 : Int32) then (ck (kk P_210 o1 6) (bd (hm_X8_has  P_210 (pI P_210 o1 0) (pI P_210 b_214 1)) (fun r_218 P_217 => if r_218 = (0 : Int32) then (lt_ ((x2 ||| ((1 : Int32) <<< (x3 &&& 31)))) (fun x2_220 => hm_X4_unmetNeeds_58 k4 o0 o1 x2_220 x3 P_217)) else (hm_X4_unmetNeeds_58 k4 o0 o1 x2 x3 P_217)))) else (hm_X4_unmetNeeds_58 k4 o0 o1 x2 x3 P_210))))))))))))
def hm_X4_unmetNeeds_4L : Nat → Nat → Nat → Int32 → Int32 → PS → Option (Int32 × PS)
  | 0, _, _, _, _, _ => none
  | n + 1, o0, o1, x2, x3, P => hm_X4_unmetNeeds_4  (hm_X4_unmetNeeds_4L  n) o0 o1 x2 x3 P
def hm_X4_unmetNeeds (P : PS) (th : Nat) (a1 : Nat) : Option (Int32 × PS) := lt_ ((0 : Int32)) (fun x2_321 => lt_ ((0 : Int32)) (fun x3_322 => hm_X4_unmetNeeds_4L  4000 th a1 x2_321 x3_322 P))
abbrev wu_X4_unmetNeeds : List Cond := .code yX4_unmetNeeds cX4_unmetNeeds 5 (some .int) :: wsL_law
theorem ud_X4_unmetNeeds : yX4_unmetNeeds.cls = RX4 ∧ yX4_unmetNeeds.cls ≠ "java/lang/invoke/MethodHandle" ∧ yX4_unmetNeeds.cls ≠ "java/lang/invoke/VarHandle" ∧ (parseMethodDescriptor yX4_unmetNeeds.desc).map (fun d => d.parameters.length) = some 1 := by decide +kernel
abbrev rmc_X4_unmetNeeds : Room := { frames := 3, cells := 0, slots := 0, locals := 64 }
set_option maxHeartbeats 4000000 in
set_option maxRecDepth 100000 in
theorem hcc_X4_unmetNeeds (l : Launch) (D : va_G) (cs : Nat → ClassId) (t0 : TS) (P0 T : PS) (th : Nat) (a1 : Nat) (r0 : Int32) (h : hm_X4_unmetNeeds P0 th a1 = some (r0, T)) : MetCI l yX4_unmetNeeds wu_X4_unmetNeeds rmc_X4_unmetNeeds D cs t0 [.ref th, .ref a1] P0 T r0 0 0 := by
  refine co_start (own := RX4) (ty := (some .int)) (cc := cX4_unmetNeeds) (maxL := 5) ⟨by decide, rfl⟩ rfl (Nat.le_of_ble_eq_true rfl) ?_
  intro p e s m args below meth c ls cx hnm hl w
  have hx := cx.1
  have hb := cx.2.1
  have hts := cx.2.2.2.1
  have hown := cx.2.2.2.2.1
  have hml := cx.2.2.2.2.2.2
  have hsub : ∀ w ∈ wsL_law, w ∈ wu_X4_unmetNeeds := fun _ hq => List.mem_cons_of_mem _ hq
  have hl : lv_has ls 5 [(0, .ref th), (1, .ref a1)] := hl
  have J58 : ∀ (k4 : Nat → Nat → Int32 → Int32 → PS → Option (Int32 × PS)) (hk4 : ∀ (o0 : Nat) (o1 : Nat) (x2 : Int32) (x3 : Int32) (P : PS), k4 o0 o1 x2 x3 P = some (r0, T) → cGo p l e rmc_X4_unmetNeeds s m args below meth c 5 D cs t0 (pA P0) (cQI below D cs P0 args s 0 0 r0 T) 0 0 4 [(0, .ref o0), (1, .ref o1), (2, .int x2), (3, .int x3)] [] P) (o0 : Nat) (o1 : Nat) (x2 : Int32) (x3 : Int32) (P : PS), hm_X4_unmetNeeds_58 k4 o0 o1 x2 x3 P = some (r0, T) → cGo p l e rmc_X4_unmetNeeds s m args below meth c 5 D cs t0 (pA P0) (cQI below D cs P0 args s 0 0 r0 T) 0 0 58 [(0, .ref o0), (1, .ref o1), (2, .int x2), (3, .int x3)] [] P := by
    intro k4 hk4 o0 o1 x2 x3 P h H locs ls hl w
    unfold hm_X4_unmetNeeds_58 at h
    replace h := lt_e h
    obtain ⟨x3_101, ex3_101, h⟩ := h
    refine lv_iinc (v := x3_101) (lv' := [(3, .int x3_101), (0, .ref o0), (1, .ref o1), (2, .int x2)]) hx hb dX4_unmetNeeds_58 hl (k := 3) rfl (by rw [ex3_101]; rfl) (by decide) (rfl) (fun ls hl => ?_)
    refine lv_goto (tgt := 4) hx hb dX4_unmetNeeds_61 (by decide) ?_
    exact hk4 o0 o1 x2 x3_101 P h _ _ _ (lv_sub hl [1, 2, 3, 0] rfl) w
  have L4 : ∀ (n : Nat) (o0 : Nat) (o1 : Nat) (x2 : Int32) (x3 : Int32) (P : PS), hm_X4_unmetNeeds_4L  n o0 o1 x2 x3 P = some (r0, T) → cGo p l e rmc_X4_unmetNeeds s m args below meth c 5 D cs t0 (pA P0) (cQI below D cs P0 args s 0 0 r0 T) 0 0 4 [(0, .ref o0), (1, .ref o1), (2, .int x2), (3, .int x3)] [] P := by
    intro n
    induction n with
    | zero =>
      intro o0 o1 x2 x3 P h
      have h : none = some (r0, T) := h
      cases h
    | succ n hk4 =>
      intro o0 o1 x2 x3 P h H locs ls hl w
      have h : hm_X4_unmetNeeds_4  (hm_X4_unmetNeeds_4L  n) o0 o1 x2 x3 P = some (r0, T) := h
      generalize hm_X4_unmetNeeds_4L  n = k4 at h hk4
      unfold hm_X4_unmetNeeds_4 at h
      refine lv_iload_n hx hb dX4_unmetNeeds_4 rfl (lv_at hl 3 rfl) ?_
      refine lv_aload_n hx hb dX4_unmetNeeds_5 rfl (lv_at hl 0 rfl) ?_
      replace h := ck_e h
      obtain ⟨hk_202, h⟩ := h
      replace h := nn_e h
      obtain ⟨b_203, hbb_203, h⟩ := h
      refine cw_getS cx hsub w kT5 hk_202 2 (by decide) hbb_203 ⟨hsub _ uf_RX4_12, Or.inl rfl⟩ dX4_unmetNeeds_6 ?_
      replace h := bd_e h
      obtain ⟨r_205, P_204, hc_206, h⟩ := h
      replace h := ck_e h
      obtain ⟨hk_207, h⟩ := h
      refine cc_i (cr_V (As := []) (rest := [.int x3]) cx (hcc_Jx4a65c_size_8abf5 l D cs t0  P P_204 b_203 r_205 hc_206) kT0 hk_207 (cwV 0 hts (uG uw_Jx4a65c_size_8abf5 ul_RX4_25 ui_Jx4a65c_size_8abf5 us_RJx4a65c_Jx4a65c_size_8abf5 un_RJx4a65c) rfl rfl rfl ud_Jx4a65c_size_8abf5 ⟨Nat.le_of_ble_eq_true rfl, Nat.le_of_ble_eq_true rfl⟩) w rfl hl.1 rfl (Nat.le_of_ble_eq_true rfl) dX4_unmetNeeds_9 ⟨(Nat.le_of_ble_eq_true rfl), (Nat.le_of_ble_eq_true rfl)⟩) (fun H locs w => ?_)
      refine lv_icmp_ge (tgt := 64) hx hb dX4_unmetNeeds_12 (by decide) (fun q => ?_) (fun q => ?_)
      · replace h := br_p q h
        refine lv_iload_n hx hb dX4_unmetNeeds_64 rfl (lv_at hl 2 rfl) ?_
        exact cw_iret cx (rt_e h) w dX4_unmetNeeds_65
      · replace h := br_n q h
        refine lv_aload_n hx hb dX4_unmetNeeds_15 rfl (lv_at hl 0 rfl) ?_
        replace h := ck_e h
        obtain ⟨hk_208, h⟩ := h
        replace h := nn_e h
        obtain ⟨b_209, hbb_209, h⟩ := h
        refine cw_getS cx hsub w kT5 hk_208 2 (by decide) hbb_209 ⟨hsub _ uf_RX4_12, Or.inl rfl⟩ dX4_unmetNeeds_16 ?_
        refine lv_iload_n hx hb dX4_unmetNeeds_19 rfl (lv_at hl 3 rfl) ?_
        replace h := bd_e h
        obtain ⟨o_211, P_210, hc_212, h⟩ := h
        replace h := ck_e h
        obtain ⟨hk_213, h⟩ := h
        refine cc_q (cr_V (As := [.int x3]) (rest := []) cx (hcc_Jx4a65c_get_915e3 l D cs t0  P_204 P_210 b_209 x3 o_211 hc_212) kT0 hk_213 (cwV 1 hts (uG uw_Jx4a65c_get_915e3 ul_RX4_69 ui_Jx4a65c_get_915e3 us_RJx4a65c_Jx4a65c_get_915e3 un_RJx4a65c) rfl rfl rfl ud_Jx4a65c_get_915e3 ⟨Nat.le_of_ble_eq_true rfl, Nat.le_of_ble_eq_true rfl⟩) w rfl hl.1 rfl (Nat.le_of_ble_eq_true rfl) dX4_unmetNeeds_20 ⟨(Nat.le_of_ble_eq_true rfl), (Nat.le_of_ble_eq_true rfl)⟩) (fun H locs w => ?_)
        replace h := nn_e h
        obtain ⟨b_214, hbb_214, h⟩ := h
        subst hbb_214
        have hl : lv_has ls 5 [(0, .ref o0), (1, .ref o1), (2, .int x2), (3, .int x3)] := hl
        refine W.eq (g2 := F0 m _ ls [.ref b_214]) rfl ?_
        replace h := ck_e h
        obtain ⟨hk_215, h⟩ := h
        refine cw_cast cx w kT2 hk_215 (hsub _ ucl_RX4_34) dX4_unmetNeeds_23 ?_
        refine lv_astore (lv' := [(4, .ref b_214), (0, .ref o0), (1, .ref o1), (2, .int x2), (3, .int x3)]) hx hb dX4_unmetNeeds_26 hl (by decide) (rfl) (fun ls hl => ?_)
        refine lv_aload hx hb dX4_unmetNeeds_28 (lv_at hl 0 rfl) ?_
        refine cw_getI cx hsub w kT2 hk_215 0 (by decide) ⟨hsub _ uf_RX4_33, Or.inl rfl⟩ dX4_unmetNeeds_30 ?_
        refine lv_iconst (v := (2 : Int32)) hx hb dX4_unmetNeeds_33 (by decide) ?_
        refine lv_icmp_ne (tgt := 58) hx hb dX4_unmetNeeds_34 (by decide) (fun q => ?_) (fun q => ?_)
        · replace h := br_n q h
          exact J58 k4 hk4 o0 o1 x2 x3 P_210 h _ _ _ (lv_sub hl [1, 2, 3, 4] rfl) w
        · replace h := br_p q h
          refine lv_aload_n hx hb dX4_unmetNeeds_37 rfl (lv_at hl 2 rfl) ?_
          replace h := ck_e h
          obtain ⟨hk_216, h⟩ := h
          refine cw_getI cx hsub w kT6 hk_216 0 (by decide) ⟨hsub _ uf_RX4_73, Or.inl rfl⟩ dX4_unmetNeeds_38 ?_
          refine lv_aload hx hb dX4_unmetNeeds_41 (lv_at hl 0 rfl) ?_
          refine cw_getI cx hsub w kT2 hk_215 1 (by decide) ⟨hsub _ uf_RX4_91, Or.inl rfl⟩ dX4_unmetNeeds_43 ?_
          replace h := bd_e h
          obtain ⟨r_218, P_217, hc_219, h⟩ := h
          refine cc_i (cr_SN (As := [.int (pI P_210 o1 0), .int (pI P_210 b_214 1)]) (rest := []) cx (hcc_X8_has l D cs t0  P_210 P_217 (pI P_210 o1 0) (pI P_210 b_214 1) r_218 hc_219) ⟨va_cnB (host := "HeardWords") 2 hts (uGB uw_X8_has) rfl rfl rfl (w.2.2.2.2.2.2.1.2.1 ("HeardWords$Rule", 83, yX8_has, "HeardWords") (by decide +kernel)) (hts _ (hsub _ un_RX8)) ud_X8_has.2 ⟨Nat.le_of_ble_eq_true rfl, Nat.le_of_ble_eq_true rfl⟩, hts _ (hsub _ ut_X8_has), trivial⟩ w rfl hl.1 rfl (Nat.le_of_ble_eq_true rfl) dX4_unmetNeeds_46 ⟨(Nat.le_of_ble_eq_true rfl), (Nat.le_of_ble_eq_true rfl)⟩) (fun H locs w => ?_)
          refine lv_if_ne (tgt := 58) hx hb dX4_unmetNeeds_49 (by decide) (fun q => ?_) (fun q => ?_)
          · replace h := br_n q h
            exact J58 k4 hk4 o0 o1 x2 x3 P_217 h _ _ _ (lv_sub hl [1, 2, 3, 4] rfl) w
          · replace h := br_p q h
            refine lv_iload_n hx hb dX4_unmetNeeds_52 rfl (lv_at hl 3 rfl) ?_
            refine lv_iconst (v := (1 : Int32)) hx hb dX4_unmetNeeds_53 (by decide) ?_
            refine lv_iload_n hx hb dX4_unmetNeeds_54 rfl (lv_at hl 4 rfl) ?_
            refine lv_ishl hx hb dX4_unmetNeeds_55 ?_
            refine lv_ior hx hb dX4_unmetNeeds_56 ?_
            replace h := lt_e h
            obtain ⟨x2_220, ex2_220, h⟩ := h
            refine top_i ex2_220 ?_
            refine lv_istore_n (lv' := [(2, .int x2_220), (4, .ref b_214), (0, .ref o0), (1, .ref o1), (3, .int x3)]) hx hb dX4_unmetNeeds_57 rfl hl (by decide) (rfl) (fun ls hl => ?_)
            exact J58 k4 hk4 o0 o1 x2_220 x3 P_217 h _ _ _ (lv_sub hl [2, 3, 0, 4] rfl) w
  have hP0 : P0 = P0 := rfl
  unfold hm_X4_unmetNeeds at h
  refine lv_iconst (v := (0 : Int32)) hx hb dX4_unmetNeeds_0 (by decide) ?_
  replace h := lt_e h
  obtain ⟨x2_321, ex2_321, h⟩ := h
  refine top_i ex2_321 ?_
  refine lv_istore_n (lv' := [(2, .int x2_321), (0, .ref th), (1, .ref a1)]) hx hb dX4_unmetNeeds_1 rfl hl (by decide) (rfl) (fun ls hl => ?_)
  refine lv_iconst (v := (0 : Int32)) hx hb dX4_unmetNeeds_2 (by decide) ?_
  replace h := lt_e h
  obtain ⟨x3_322, ex3_322, h⟩ := h
  refine top_i ex3_322 ?_
  refine lv_istore_n (lv' := [(3, .int x3_322), (2, .int x2_321), (0, .ref th), (1, .ref a1)]) hx hb dX4_unmetNeeds_3 rfl hl (by decide) (rfl) (fun ls hl => ?_)
  exact L4  4000 th a1 x2_321 x3_322 P0 h _ _ _ (lv_sub hl [2, 3, 1, 0] rfl) w
def hm_X4_keepsOut_45 (o0 : Nat) (x1 : Int32) (o2 : Nat) (P : PS) : Option (Int32 × PS) := bd (hm_X4_unmetNeeds  P o0 o2) (fun r_102 P_101 => ck (kk P o0 5) (if (x1 &&& r_102) = (0 : Int32) then (some ((0 : Int32), P_101)) else (some ((1 : Int32), P_101))))
def hm_X4_keepsOut_20 (o0 : Nat) (x1 : Int32) (o2 : Nat) (P : PS) : Option (Int32 × PS) := ck (kk P o0 5) (if (x1 &&& (pI P o0 5)) = (0 : Int32) then (hm_X4_keepsOut_45  o0 x1 o2 P) else (ck (kk P o2 6) (bd (hm_X8_has  P (pI P o2 1) (pI P o0 0)) (fun r_208 P_207 => if r_208 = (0 : Int32) then (some ((1 : Int32), P_207)) else (hm_X4_keepsOut_45  o0 x1 o2 P_207)))))
def hm_X4_keepsOut (P : PS) (th : Nat) (a1 : Int32) (a2 : Nat) : Option (Int32 × PS) := ck (kk P th 5) (if (a1 &&& (pI P th 3)) = (0 : Int32) then (hm_X4_keepsOut_20  th a1 a2 P) else (if (a1 &&& (pI P th 4)) = (0 : Int32) then (some ((1 : Int32), P)) else (hm_X4_keepsOut_20  th a1 a2 P)))
abbrev wu_X4_keepsOut : List Cond := .code yX4_keepsOut cX4_keepsOut 3 (some .boolean) :: wsL_law
theorem ud_X4_keepsOut : yX4_keepsOut.cls = RX4 ∧ yX4_keepsOut.cls ≠ "java/lang/invoke/MethodHandle" ∧ yX4_keepsOut.cls ≠ "java/lang/invoke/VarHandle" ∧ (parseMethodDescriptor yX4_keepsOut.desc).map (fun d => d.parameters.length) = some 2 := by decide +kernel
abbrev rmc_X4_keepsOut : Room := { frames := 4, cells := 0, slots := 0, locals := 88 }
set_option maxHeartbeats 4000000 in
set_option maxRecDepth 100000 in
theorem hcc_X4_keepsOut (l : Launch) (D : va_G) (cs : Nat → ClassId) (t0 : TS) (P0 T : PS) (th : Nat) (a1 : Int32) (a2 : Nat) (r0 : Int32) (h : hm_X4_keepsOut P0 th a1 a2 = some (r0, T)) : MetCI l yX4_keepsOut wu_X4_keepsOut rmc_X4_keepsOut D cs t0 [.ref th, .int a1, .ref a2] P0 T r0 0 0 := by
  refine co_start (own := RX4) (ty := (some .boolean)) (cc := cX4_keepsOut) (maxL := 3) ⟨by decide, rfl⟩ rfl (Nat.le_of_ble_eq_true rfl) ?_
  intro p e s m args below meth c ls cx hnm hl w
  have hx := cx.1
  have hb := cx.2.1
  have hts := cx.2.2.2.1
  have hown := cx.2.2.2.2.1
  have hml := cx.2.2.2.2.2.2
  have hsub : ∀ w ∈ wsL_law, w ∈ wu_X4_keepsOut := fun _ hq => List.mem_cons_of_mem _ hq
  have hl : lv_has ls 3 [(0, .ref th), (1, .int a1), (2, .ref a2)] := hl
  have J45 : ∀ (o0 : Nat) (x1 : Int32) (o2 : Nat) (P : PS), hm_X4_keepsOut_45  o0 x1 o2 P = some (r0, T) → cGo p l e rmc_X4_keepsOut s m args below meth c 3 D cs t0 (pA P0) (cQI below D cs P0 args s 0 0 r0 T) 0 0 45 [(0, .ref o0), (1, .int x1), (2, .ref o2)] [] P := by
    intro o0 x1 o2 P h H locs ls hl w
    unfold hm_X4_keepsOut_45 at h
    refine lv_iload_n hx hb dX4_keepsOut_45 rfl (lv_at hl 1 rfl) ?_
    refine lv_aload_n hx hb dX4_keepsOut_46 rfl (lv_at hl 0 rfl) ?_
    refine lv_aload_n hx hb dX4_keepsOut_47 rfl (lv_at hl 2 rfl) ?_
    replace h := bd_e h
    obtain ⟨r_102, P_101, hc_103, h⟩ := h
    replace h := ck_e h
    obtain ⟨hk_104, h⟩ := h
    refine cc_i (cr_V (As := [.ref o2]) (rest := [.int x1]) cx (hcc_X4_unmetNeeds l D cs t0  P P_101 o0 o2 r_102 hc_103) kT5 hk_104 (cwV 1 hts (uG uw_X4_unmetNeeds ul_RX4_87 ui_X4_unmetNeeds us_RX4_X4_unmetNeeds un_RX4) rfl rfl rfl ud_X4_unmetNeeds ⟨Nat.le_of_ble_eq_true rfl, Nat.le_of_ble_eq_true rfl⟩) w rfl hl.1 rfl (Nat.le_of_ble_eq_true rfl) dX4_keepsOut_48 ⟨(Nat.le_of_ble_eq_true rfl), (Nat.le_of_ble_eq_true rfl)⟩) (fun H locs w => ?_)
    refine lv_iand hx hb dX4_keepsOut_51 ?_
    refine lv_if_eq (tgt := 59) hx hb dX4_keepsOut_52 (by decide) (fun q => ?_) (fun q => ?_)
    · replace h := br_p q h
      refine lv_iconst (v := (0 : Int32)) hx hb dX4_keepsOut_59 (by decide) ?_
      exact cw_zret cx (Or.inl rfl) (rt_e h) w dX4_keepsOut_60
    · replace h := br_n q h
      refine lv_iconst (v := (1 : Int32)) hx hb dX4_keepsOut_55 (by decide) ?_
      refine lv_goto (tgt := 60) hx hb dX4_keepsOut_56 (by decide) ?_
      exact cw_zret cx (Or.inr rfl) (rt_e h) w dX4_keepsOut_60
  have J20 : ∀ (o0 : Nat) (x1 : Int32) (o2 : Nat) (P : PS), hm_X4_keepsOut_20  o0 x1 o2 P = some (r0, T) → cGo p l e rmc_X4_keepsOut s m args below meth c 3 D cs t0 (pA P0) (cQI below D cs P0 args s 0 0 r0 T) 0 0 20 [(0, .ref o0), (1, .int x1), (2, .ref o2)] [] P := by
    intro o0 x1 o2 P h H locs ls hl w
    unfold hm_X4_keepsOut_20 at h
    refine lv_iload_n hx hb dX4_keepsOut_20 rfl (lv_at hl 1 rfl) ?_
    refine lv_aload_n hx hb dX4_keepsOut_21 rfl (lv_at hl 0 rfl) ?_
    replace h := ck_e h
    obtain ⟨hk_205, h⟩ := h
    refine cw_getI cx hsub w kT5 hk_205 5 (by decide) ⟨hsub _ uf_RX4_44, Or.inl rfl⟩ dX4_keepsOut_22 ?_
    refine lv_iand hx hb dX4_keepsOut_25 ?_
    refine lv_if_eq (tgt := 45) hx hb dX4_keepsOut_26 (by decide) (fun q => ?_) (fun q => ?_)
    · replace h := br_p q h
      exact J45  o0 x1 o2 P h _ _ _ (lv_sub hl [0, 1, 2] rfl) w
    · replace h := br_n q h
      refine lv_aload_n hx hb dX4_keepsOut_29 rfl (lv_at hl 2 rfl) ?_
      replace h := ck_e h
      obtain ⟨hk_206, h⟩ := h
      refine cw_getI cx hsub w kT6 hk_206 1 (by decide) ⟨hsub _ uf_RX4_80, Or.inl rfl⟩ dX4_keepsOut_30 ?_
      refine lv_aload_n hx hb dX4_keepsOut_33 rfl (lv_at hl 0 rfl) ?_
      refine cw_getI cx hsub w kT5 hk_205 0 (by decide) ⟨hsub _ uf_RX4_18, Or.inl rfl⟩ dX4_keepsOut_34 ?_
      replace h := bd_e h
      obtain ⟨r_208, P_207, hc_209, h⟩ := h
      refine cc_i (cr_SN (As := [.int (pI P o2 1), .int (pI P o0 0)]) (rest := []) cx (hcc_X8_has l D cs t0  P P_207 (pI P o2 1) (pI P o0 0) r_208 hc_209) ⟨va_cnB (host := "HeardWords") 2 hts (uGB uw_X8_has) rfl rfl rfl (w.2.2.2.2.2.2.1.2.1 ("HeardWords$Rule", 83, yX8_has, "HeardWords") (by decide +kernel)) (hts _ (hsub _ un_RX8)) ud_X8_has.2 ⟨Nat.le_of_ble_eq_true rfl, Nat.le_of_ble_eq_true rfl⟩, hts _ (hsub _ ut_X8_has), trivial⟩ w rfl hl.1 rfl (Nat.le_of_ble_eq_true rfl) dX4_keepsOut_37 ⟨(Nat.le_of_ble_eq_true rfl), (Nat.le_of_ble_eq_true rfl)⟩) (fun H locs w => ?_)
      refine lv_if_ne (tgt := 45) hx hb dX4_keepsOut_40 (by decide) (fun q => ?_) (fun q => ?_)
      · replace h := br_n q h
        exact J45  o0 x1 o2 P_207 h _ _ _ (lv_sub hl [0, 1, 2] rfl) w
      · replace h := br_p q h
        refine lv_iconst (v := (1 : Int32)) hx hb dX4_keepsOut_43 (by decide) ?_
        exact cw_zret cx (Or.inr rfl) (rt_e h) w dX4_keepsOut_44
  have hP0 : P0 = P0 := rfl
  unfold hm_X4_keepsOut at h
  refine lv_iload_n hx hb dX4_keepsOut_0 rfl (lv_at hl 1 rfl) ?_
  refine lv_aload_n hx hb dX4_keepsOut_1 rfl (lv_at hl 0 rfl) ?_
  replace h := ck_e h
  obtain ⟨hk_310, h⟩ := h
  refine cw_getI cx hsub w kT5 hk_310 3 (by decide) ⟨hsub _ uf_RX4_38, Or.inl rfl⟩ dX4_keepsOut_2 ?_
  refine lv_iand hx hb dX4_keepsOut_5 ?_
  refine lv_if_eq (tgt := 20) hx hb dX4_keepsOut_6 (by decide) (fun q => ?_) (fun q => ?_)
  · replace h := br_p q h
    exact J20  th a1 a2 P0 h _ _ _ (lv_sub hl [0, 1, 2] rfl) w
  · replace h := br_n q h
    refine lv_iload_n hx hb dX4_keepsOut_9 rfl (lv_at hl 1 rfl) ?_
    refine lv_aload_n hx hb dX4_keepsOut_10 rfl (lv_at hl 0 rfl) ?_
    refine cw_getI cx hsub w kT5 hk_310 4 (by decide) ⟨hsub _ uf_RX4_41, Or.inl rfl⟩ dX4_keepsOut_11 ?_
    refine lv_iand hx hb dX4_keepsOut_14 ?_
    refine lv_if_ne (tgt := 20) hx hb dX4_keepsOut_15 (by decide) (fun q => ?_) (fun q => ?_)
    · replace h := br_n q h
      exact J20  th a1 a2 P0 h _ _ _ (lv_sub hl [0, 1, 2] rfl) w
    · replace h := br_p q h
      refine lv_iconst (v := (1 : Int32)) hx hb dX4_keepsOut_18 (by decide) ?_
      exact cw_zret cx (Or.inr rfl) (rt_e h) w dX4_keepsOut_19
def hm_J6_numberOfTrailingZeros_0f7a4_74 (x0 : Int32) (x1 : Int32) (P : PS) : Option (Int32 × PS) := some ((x1 + ((x0).toUInt32 >>> (((1 : Int32)).toUInt32 &&& Int32.toUInt32 31)).toInt32), P)
def hm_J6_numberOfTrailingZeros_0f7a4_62 (x0 : Int32) (x1 : Int32) (P : PS) : Option (Int32 × PS) := if x0 ≤ (4 : Int32) then (hm_J6_numberOfTrailingZeros_0f7a4_74  x0 x1 P) else (lt_ (x1 + (2 : Int32)) (fun x1_201 => lt_ (((x0).toUInt32 >>> (((2 : Int32)).toUInt32 &&& Int32.toUInt32 31)).toInt32) (fun x0_202 => hm_J6_numberOfTrailingZeros_0f7a4_74  x0_202 x1_201 P)))
def hm_J6_numberOfTrailingZeros_0f7a4_49 (x0 : Int32) (x1 : Int32) (P : PS) : Option (Int32 × PS) := if x0 ≤ (16 : Int32) then (hm_J6_numberOfTrailingZeros_0f7a4_62  x0 x1 P) else (lt_ (x1 + (4 : Int32)) (fun x1_303 => lt_ (((x0).toUInt32 >>> (((4 : Int32)).toUInt32 &&& Int32.toUInt32 31)).toInt32) (fun x0_304 => hm_J6_numberOfTrailingZeros_0f7a4_62  x0_304 x1_303 P)))
def hm_J6_numberOfTrailingZeros_0f7a4_34 (x0 : Int32) (x1 : Int32) (P : PS) : Option (Int32 × PS) := if x0 ≤ (256 : Int32) then (hm_J6_numberOfTrailingZeros_0f7a4_49  x0 x1 P) else (lt_ (x1 + (8 : Int32)) (fun x1_405 => lt_ (((x0).toUInt32 >>> (((8 : Int32)).toUInt32 &&& Int32.toUInt32 31)).toInt32) (fun x0_406 => hm_J6_numberOfTrailingZeros_0f7a4_49  x0_406 x1_405 P)))
def hm_J6_numberOfTrailingZeros_0f7a4 (P : PS) (a1 : Int32) : Option (Int32 × PS) := lt_ (((a1 ^^^ (-1 : Int32)) &&& (a1 - (1 : Int32)))) (fun x0_507 => if (0 : Int32) < x0_507 then (lt_ ((1 : Int32)) (fun x1_508 => if x0_507 ≤ (65536 : Int32) then (hm_J6_numberOfTrailingZeros_0f7a4_34  x0_507 x1_508 P) else (lt_ (x1_508 + (16 : Int32)) (fun x1_509 => lt_ (((x0_507).toUInt32 >>> (((16 : Int32)).toUInt32 &&& Int32.toUInt32 31)).toInt32) (fun x0_510 => hm_J6_numberOfTrailingZeros_0f7a4_34  x0_510 x1_509 P))))) else (some ((x0_507 &&& (32 : Int32)), P)))
abbrev wu_J6_numberOfTrailingZeros_0f7a4 : List Cond := .code yJ6_numberOfTrailingZeros_0f7a4 cJ6_numberOfTrailingZeros_0f7a4 2 (some .int) :: wsL_law
theorem ud_J6_numberOfTrailingZeros_0f7a4 : yJ6_numberOfTrailingZeros_0f7a4.cls = RJ6 ∧ yJ6_numberOfTrailingZeros_0f7a4.cls ≠ "java/lang/invoke/MethodHandle" ∧ yJ6_numberOfTrailingZeros_0f7a4.cls ≠ "java/lang/invoke/VarHandle" ∧ (parseMethodDescriptor yJ6_numberOfTrailingZeros_0f7a4.desc).map (fun d => d.parameters.length) = some 1 := by decide +kernel
abbrev rmc_J6_numberOfTrailingZeros_0f7a4 : Room := { frames := 0, cells := 0, slots := 0, locals := 0 }
set_option maxHeartbeats 4000000 in
set_option maxRecDepth 100000 in
theorem hcc_J6_numberOfTrailingZeros_0f7a4 (l : Launch) (D : va_G) (cs : Nat → ClassId) (t0 : TS) (P0 T : PS) (a1 : Int32) (r0 : Int32) (h : hm_J6_numberOfTrailingZeros_0f7a4 P0 a1 = some (r0, T)) : MetCI l yJ6_numberOfTrailingZeros_0f7a4 wu_J6_numberOfTrailingZeros_0f7a4 rmc_J6_numberOfTrailingZeros_0f7a4 D cs t0 [.int a1] P0 T r0 0 0 := by
  refine co_start (own := RJ6) (ty := (some .int)) (cc := cJ6_numberOfTrailingZeros_0f7a4) (maxL := 2) ⟨by decide, rfl⟩ rfl (Nat.le_of_ble_eq_true rfl) ?_
  intro p e s m args below meth c ls cx hnm hl w
  have hx := cx.1
  have hb := cx.2.1
  have hts := cx.2.2.2.1
  have hown := cx.2.2.2.2.1
  have hml := cx.2.2.2.2.2.2
  have hsub : ∀ w ∈ wsL_law, w ∈ wu_J6_numberOfTrailingZeros_0f7a4 := fun _ hq => List.mem_cons_of_mem _ hq
  have hl : lv_has ls 2 [(0, .int a1)] := hl
  have J74 : ∀ (x0 : Int32) (x1 : Int32) (P : PS), hm_J6_numberOfTrailingZeros_0f7a4_74  x0 x1 P = some (r0, T) → cGo p l e rmc_J6_numberOfTrailingZeros_0f7a4 s m args below meth c 2 D cs t0 (pA P0) (cQI below D cs P0 args s 0 0 r0 T) 0 0 74 [(0, .int x0), (1, .int x1)] [] P := by
    intro x0 x1 P h H locs ls hl w
    unfold hm_J6_numberOfTrailingZeros_0f7a4_74 at h
    refine lv_iload_n hx hb dJ6_numberOfTrailingZeros_0f7a4_74 rfl (lv_at hl 1 rfl) ?_
    refine lv_iload_n hx hb dJ6_numberOfTrailingZeros_0f7a4_75 rfl (lv_at hl 0 rfl) ?_
    refine lv_iconst (v := (1 : Int32)) hx hb dJ6_numberOfTrailingZeros_0f7a4_76 (by decide) ?_
    refine lv_iushr hx hb dJ6_numberOfTrailingZeros_0f7a4_77 rfl ?_
    refine lv_iadd hx hb dJ6_numberOfTrailingZeros_0f7a4_78 ?_
    exact cw_iret cx (rt_e h) w dJ6_numberOfTrailingZeros_0f7a4_79
  have J62 : ∀ (x0 : Int32) (x1 : Int32) (P : PS), hm_J6_numberOfTrailingZeros_0f7a4_62  x0 x1 P = some (r0, T) → cGo p l e rmc_J6_numberOfTrailingZeros_0f7a4 s m args below meth c 2 D cs t0 (pA P0) (cQI below D cs P0 args s 0 0 r0 T) 0 0 62 [(0, .int x0), (1, .int x1)] [] P := by
    intro x0 x1 P h H locs ls hl w
    unfold hm_J6_numberOfTrailingZeros_0f7a4_62 at h
    refine lv_iload_n hx hb dJ6_numberOfTrailingZeros_0f7a4_62 rfl (lv_at hl 0 rfl) ?_
    refine lv_iconst (v := (4 : Int32)) hx hb dJ6_numberOfTrailingZeros_0f7a4_63 (by decide) ?_
    refine lv_icmp_le (tgt := 74) hx hb dJ6_numberOfTrailingZeros_0f7a4_64 (by decide) (fun q => ?_) (fun q => ?_)
    · replace h := br_p q h
      exact J74  x0 x1 P h _ _ _ (lv_sub hl [0, 1] rfl) w
    · replace h := br_n q h
      replace h := lt_e h
      obtain ⟨x1_201, ex1_201, h⟩ := h
      refine lv_iinc (v := x1_201) (lv' := [(1, .int x1_201), (0, .int x0)]) hx hb dJ6_numberOfTrailingZeros_0f7a4_67 hl (k := 1) rfl (by rw [ex1_201]; rfl) (by decide) (rfl) (fun ls hl => ?_)
      refine lv_iload_n hx hb dJ6_numberOfTrailingZeros_0f7a4_70 rfl (lv_at hl 1 rfl) ?_
      refine lv_iconst (v := (2 : Int32)) hx hb dJ6_numberOfTrailingZeros_0f7a4_71 (by decide) ?_
      refine lv_iushr hx hb dJ6_numberOfTrailingZeros_0f7a4_72 rfl ?_
      replace h := lt_e h
      obtain ⟨x0_202, ex0_202, h⟩ := h
      refine top_i ex0_202 ?_
      refine lv_istore_n (lv' := [(0, .int x0_202), (1, .int x1_201)]) hx hb dJ6_numberOfTrailingZeros_0f7a4_73 rfl hl (by decide) (rfl) (fun ls hl => ?_)
      exact J74  x0_202 x1_201 P h _ _ _ (lv_sub hl [0, 1] rfl) w
  have J49 : ∀ (x0 : Int32) (x1 : Int32) (P : PS), hm_J6_numberOfTrailingZeros_0f7a4_49  x0 x1 P = some (r0, T) → cGo p l e rmc_J6_numberOfTrailingZeros_0f7a4 s m args below meth c 2 D cs t0 (pA P0) (cQI below D cs P0 args s 0 0 r0 T) 0 0 49 [(0, .int x0), (1, .int x1)] [] P := by
    intro x0 x1 P h H locs ls hl w
    unfold hm_J6_numberOfTrailingZeros_0f7a4_49 at h
    refine lv_iload_n hx hb dJ6_numberOfTrailingZeros_0f7a4_49 rfl (lv_at hl 0 rfl) ?_
    refine lv_bipush (v := (16 : Int32)) hx hb dJ6_numberOfTrailingZeros_0f7a4_50 (by decide) ?_
    refine lv_icmp_le (tgt := 62) hx hb dJ6_numberOfTrailingZeros_0f7a4_52 (by decide) (fun q => ?_) (fun q => ?_)
    · replace h := br_p q h
      exact J62  x0 x1 P h _ _ _ (lv_sub hl [0, 1] rfl) w
    · replace h := br_n q h
      replace h := lt_e h
      obtain ⟨x1_303, ex1_303, h⟩ := h
      refine lv_iinc (v := x1_303) (lv' := [(1, .int x1_303), (0, .int x0)]) hx hb dJ6_numberOfTrailingZeros_0f7a4_55 hl (k := 1) rfl (by rw [ex1_303]; rfl) (by decide) (rfl) (fun ls hl => ?_)
      refine lv_iload_n hx hb dJ6_numberOfTrailingZeros_0f7a4_58 rfl (lv_at hl 1 rfl) ?_
      refine lv_iconst (v := (4 : Int32)) hx hb dJ6_numberOfTrailingZeros_0f7a4_59 (by decide) ?_
      refine lv_iushr hx hb dJ6_numberOfTrailingZeros_0f7a4_60 rfl ?_
      replace h := lt_e h
      obtain ⟨x0_304, ex0_304, h⟩ := h
      refine top_i ex0_304 ?_
      refine lv_istore_n (lv' := [(0, .int x0_304), (1, .int x1_303)]) hx hb dJ6_numberOfTrailingZeros_0f7a4_61 rfl hl (by decide) (rfl) (fun ls hl => ?_)
      exact J62  x0_304 x1_303 P h _ _ _ (lv_sub hl [0, 1] rfl) w
  have J34 : ∀ (x0 : Int32) (x1 : Int32) (P : PS), hm_J6_numberOfTrailingZeros_0f7a4_34  x0 x1 P = some (r0, T) → cGo p l e rmc_J6_numberOfTrailingZeros_0f7a4 s m args below meth c 2 D cs t0 (pA P0) (cQI below D cs P0 args s 0 0 r0 T) 0 0 34 [(0, .int x0), (1, .int x1)] [] P := by
    intro x0 x1 P h H locs ls hl w
    unfold hm_J6_numberOfTrailingZeros_0f7a4_34 at h
    refine lv_iload_n hx hb dJ6_numberOfTrailingZeros_0f7a4_34 rfl (lv_at hl 0 rfl) ?_
    refine lv_sipush (v := (256 : Int32)) hx hb dJ6_numberOfTrailingZeros_0f7a4_35 (by decide) ?_
    refine lv_icmp_le (tgt := 49) hx hb dJ6_numberOfTrailingZeros_0f7a4_38 (by decide) (fun q => ?_) (fun q => ?_)
    · replace h := br_p q h
      exact J49  x0 x1 P h _ _ _ (lv_sub hl [0, 1] rfl) w
    · replace h := br_n q h
      replace h := lt_e h
      obtain ⟨x1_405, ex1_405, h⟩ := h
      refine lv_iinc (v := x1_405) (lv' := [(1, .int x1_405), (0, .int x0)]) hx hb dJ6_numberOfTrailingZeros_0f7a4_41 hl (k := 1) rfl (by rw [ex1_405]; rfl) (by decide) (rfl) (fun ls hl => ?_)
      refine lv_iload_n hx hb dJ6_numberOfTrailingZeros_0f7a4_44 rfl (lv_at hl 1 rfl) ?_
      refine lv_bipush (v := (8 : Int32)) hx hb dJ6_numberOfTrailingZeros_0f7a4_45 (by decide) ?_
      refine lv_iushr hx hb dJ6_numberOfTrailingZeros_0f7a4_47 rfl ?_
      replace h := lt_e h
      obtain ⟨x0_406, ex0_406, h⟩ := h
      refine top_i ex0_406 ?_
      refine lv_istore_n (lv' := [(0, .int x0_406), (1, .int x1_405)]) hx hb dJ6_numberOfTrailingZeros_0f7a4_48 rfl hl (by decide) (rfl) (fun ls hl => ?_)
      exact J49  x0_406 x1_405 P h _ _ _ (lv_sub hl [0, 1] rfl) w
  have hP0 : P0 = P0 := rfl
  unfold hm_J6_numberOfTrailingZeros_0f7a4 at h
  refine lv_iload_n hx hb dJ6_numberOfTrailingZeros_0f7a4_0 rfl (lv_at hl 0 rfl) ?_
  refine lv_iconst (v := (-1 : Int32)) hx hb dJ6_numberOfTrailingZeros_0f7a4_1 (by decide) ?_
  refine lv_ixor hx hb dJ6_numberOfTrailingZeros_0f7a4_2 ?_
  refine lv_iload_n hx hb dJ6_numberOfTrailingZeros_0f7a4_3 rfl (lv_at hl 0 rfl) ?_
  refine lv_iconst (v := (1 : Int32)) hx hb dJ6_numberOfTrailingZeros_0f7a4_4 (by decide) ?_
  refine lv_isub hx hb dJ6_numberOfTrailingZeros_0f7a4_5 ?_
  refine lv_iand hx hb dJ6_numberOfTrailingZeros_0f7a4_6 ?_
  replace h := lt_e h
  obtain ⟨x0_507, ex0_507, h⟩ := h
  refine top_i ex0_507 ?_
  refine lv_istore_n (lv' := [(0, .int x0_507)]) hx hb dJ6_numberOfTrailingZeros_0f7a4_7 rfl hl (by decide) (rfl) (fun ls hl => ?_)
  refine lv_iload_n hx hb dJ6_numberOfTrailingZeros_0f7a4_8 rfl (lv_at hl 0 rfl) ?_
  refine lv_if_gt (tgt := 17) hx hb dJ6_numberOfTrailingZeros_0f7a4_9 (by decide) (fun q => ?_) (fun q => ?_)
  · replace h := br_p q h
    refine lv_iconst (v := (1 : Int32)) hx hb dJ6_numberOfTrailingZeros_0f7a4_17 (by decide) ?_
    replace h := lt_e h
    obtain ⟨x1_508, ex1_508, h⟩ := h
    refine top_i ex1_508 ?_
    refine lv_istore_n (lv' := [(1, .int x1_508), (0, .int x0_507)]) hx hb dJ6_numberOfTrailingZeros_0f7a4_18 rfl hl (by decide) (rfl) (fun ls hl => ?_)
    refine lv_iload_n hx hb dJ6_numberOfTrailingZeros_0f7a4_19 rfl (lv_at hl 1 rfl) ?_
    refine lv_ldcw (v := (65536 : Int32)) hx hb hown (hts _ (hsub _ uc_RJ6_264)) dJ6_numberOfTrailingZeros_0f7a4_20 ?_
    refine lv_icmp_le (tgt := 34) hx hb dJ6_numberOfTrailingZeros_0f7a4_23 (by decide) (fun q => ?_) (fun q => ?_)
    · replace h := br_p q h
      exact J34  x0_507 x1_508 P0 h _ _ _ (lv_sub hl [1, 0] rfl) w
    · replace h := br_n q h
      replace h := lt_e h
      obtain ⟨x1_509, ex1_509, h⟩ := h
      refine lv_iinc (v := x1_509) (lv' := [(1, .int x1_509), (0, .int x0_507)]) hx hb dJ6_numberOfTrailingZeros_0f7a4_26 hl (k := 0) rfl (by rw [ex1_509]; rfl) (by decide) (rfl) (fun ls hl => ?_)
      refine lv_iload_n hx hb dJ6_numberOfTrailingZeros_0f7a4_29 rfl (lv_at hl 1 rfl) ?_
      refine lv_bipush (v := (16 : Int32)) hx hb dJ6_numberOfTrailingZeros_0f7a4_30 (by decide) ?_
      refine lv_iushr hx hb dJ6_numberOfTrailingZeros_0f7a4_32 rfl ?_
      replace h := lt_e h
      obtain ⟨x0_510, ex0_510, h⟩ := h
      refine top_i ex0_510 ?_
      refine lv_istore_n (lv' := [(0, .int x0_510), (1, .int x1_509)]) hx hb dJ6_numberOfTrailingZeros_0f7a4_33 rfl hl (by decide) (rfl) (fun ls hl => ?_)
      exact J34  x0_510 x1_509 P0 h _ _ _ (lv_sub hl [0, 1] rfl) w
  · replace h := br_n q h
    refine lv_iload_n hx hb dJ6_numberOfTrailingZeros_0f7a4_12 rfl (lv_at hl 0 rfl) ?_
    refine lv_bipush (v := (32 : Int32)) hx hb dJ6_numberOfTrailingZeros_0f7a4_13 (by decide) ?_
    refine lv_iand hx hb dJ6_numberOfTrailingZeros_0f7a4_15 ?_
    exact cw_iret cx (rt_e h) w dJ6_numberOfTrailingZeros_0f7a4_16
def hm_X4_clauseOfWay_18  (P : PS) : Option (Int32 × PS) := some ((-1 : Int32), P)
def hm_X4_clauseOfWay (P : PS) (th : Nat) (a1 : Int32) : Option (Int32 × PS) := ck (kk P th 5) (if (a1 &&& (pI P th 3)) = (0 : Int32) then (hm_X4_clauseOfWay_18   P) else (if (a1 &&& (pI P th 4)) = (0 : Int32) then (hm_X4_clauseOfWay_18   P) else (bd (hm_J6_numberOfTrailingZeros_0f7a4  P (a1 &&& (pI P th 4))) (fun r_203 P_202 => some (r_203, P_202)))))
abbrev wu_X4_clauseOfWay : List Cond := .code yX4_clauseOfWay cX4_clauseOfWay 2 (some .int) :: wsL_law
theorem ud_X4_clauseOfWay : yX4_clauseOfWay.cls = RX4 ∧ yX4_clauseOfWay.cls ≠ "java/lang/invoke/MethodHandle" ∧ yX4_clauseOfWay.cls ≠ "java/lang/invoke/VarHandle" ∧ (parseMethodDescriptor yX4_clauseOfWay.desc).map (fun d => d.parameters.length) = some 1 := by decide +kernel
abbrev rmc_X4_clauseOfWay : Room := { frames := 1, cells := 0, slots := 0, locals := 21 }
set_option maxHeartbeats 4000000 in
set_option maxRecDepth 100000 in
theorem hcc_X4_clauseOfWay (l : Launch) (D : va_G) (cs : Nat → ClassId) (t0 : TS) (P0 T : PS) (th : Nat) (a1 : Int32) (r0 : Int32) (h : hm_X4_clauseOfWay P0 th a1 = some (r0, T)) : MetCI l yX4_clauseOfWay wu_X4_clauseOfWay rmc_X4_clauseOfWay D cs t0 [.ref th, .int a1] P0 T r0 0 0 := by
  refine co_start (own := RX4) (ty := (some .int)) (cc := cX4_clauseOfWay) (maxL := 2) ⟨by decide, rfl⟩ rfl (Nat.le_of_ble_eq_true rfl) ?_
  intro p e s m args below meth c ls cx hnm hl w
  have hx := cx.1
  have hb := cx.2.1
  have hts := cx.2.2.2.1
  have hown := cx.2.2.2.2.1
  have hml := cx.2.2.2.2.2.2
  have hsub : ∀ w ∈ wsL_law, w ∈ wu_X4_clauseOfWay := fun _ hq => List.mem_cons_of_mem _ hq
  have hl : lv_has ls 2 [(0, .ref th), (1, .int a1)] := hl
  have J18 : ∀  (P : PS), hm_X4_clauseOfWay_18   P = some (r0, T) → cGo p l e rmc_X4_clauseOfWay s m args below meth c 2 D cs t0 (pA P0) (cQI below D cs P0 args s 0 0 r0 T) 0 0 18 [] [] P := by
    intro  P h H locs ls hl w
    unfold hm_X4_clauseOfWay_18 at h
    refine lv_iconst (v := (-1 : Int32)) hx hb dX4_clauseOfWay_18 (by decide) ?_
    exact cw_iret cx (rt_e h) w dX4_clauseOfWay_19
  have hP0 : P0 = P0 := rfl
  unfold hm_X4_clauseOfWay at h
  refine lv_iload_n hx hb dX4_clauseOfWay_0 rfl (lv_at hl 1 rfl) ?_
  refine lv_aload_n hx hb dX4_clauseOfWay_1 rfl (lv_at hl 0 rfl) ?_
  replace h := ck_e h
  obtain ⟨hk_201, h⟩ := h
  refine cw_getI cx hsub w kT5 hk_201 3 (by decide) ⟨hsub _ uf_RX4_38, Or.inl rfl⟩ dX4_clauseOfWay_2 ?_
  refine lv_iand hx hb dX4_clauseOfWay_5 ?_
  refine lv_if_eq (tgt := 18) hx hb dX4_clauseOfWay_6 (by decide) (fun q => ?_) (fun q => ?_)
  · replace h := br_p q h
    exact J18   P0 h _ _ _ (lv_sub hl [] rfl) w
  · replace h := br_n q h
    refine lv_iload_n hx hb dX4_clauseOfWay_9 rfl (lv_at hl 1 rfl) ?_
    refine lv_aload_n hx hb dX4_clauseOfWay_10 rfl (lv_at hl 0 rfl) ?_
    refine cw_getI cx hsub w kT5 hk_201 4 (by decide) ⟨hsub _ uf_RX4_41, Or.inl rfl⟩ dX4_clauseOfWay_11 ?_
    refine lv_iand hx hb dX4_clauseOfWay_14 ?_
    refine lv_if_ne (tgt := 20) hx hb dX4_clauseOfWay_15 (by decide) (fun q => ?_) (fun q => ?_)
    · replace h := br_n q h
      refine lv_iload_n hx hb dX4_clauseOfWay_20 rfl (lv_at hl 1 rfl) ?_
      refine lv_aload_n hx hb dX4_clauseOfWay_21 rfl (lv_at hl 0 rfl) ?_
      refine cw_getI cx hsub w kT5 hk_201 4 (by decide) ⟨hsub _ uf_RX4_41, Or.inl rfl⟩ dX4_clauseOfWay_22 ?_
      refine lv_iand hx hb dX4_clauseOfWay_25 ?_
      replace h := bd_e h
      obtain ⟨r_203, P_202, hc_204, h⟩ := h
      refine cc_i (cr_S (As := [.int (a1 &&& (pI P0 th 4))]) (rest := []) cx (hcc_J6_numberOfTrailingZeros_0f7a4 l D cs t0  P0 P_202 (a1 &&& (pI P0 th 4)) r_203 hc_204) (va_cwS 1 hts (uGS uw_J6_numberOfTrailingZeros_0f7a4 ul_RX4_94 ut_J6_numberOfTrailingZeros_0f7a4 un_RJ6) rfl rfl rfl ud_J6_numberOfTrailingZeros_0f7a4.2 ⟨Nat.le_of_ble_eq_true rfl, Nat.le_of_ble_eq_true rfl⟩) w rfl hl.1 rfl (Nat.le_of_ble_eq_true rfl) dX4_clauseOfWay_26 ⟨(Nat.le_of_ble_eq_true rfl), (Nat.le_of_ble_eq_true rfl)⟩) (fun H locs w => ?_)
      exact cw_iret cx (rt_e h) w dX4_clauseOfWay_29
    · replace h := br_p q h
      exact J18   P0 h _ _ _ (lv_sub hl [] rfl) w
