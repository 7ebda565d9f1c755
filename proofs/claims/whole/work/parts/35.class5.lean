def hm_Jxc12de_init_da8c8 (P : PS) (th : Nat) : Option (Int32 × PS) := bd (hm_Jxa1e45_init_da8c8  P th) (fun _ P_101 => ck (kk P_101 th 0) (lt_ (pIu P_101 th 0 (0 : Int32)) (fun P_105 => some ((0 : Int32), P_105))))
abbrev wu_Jxc12de_init_da8c8 : List Cond := .code yJxc12de_init_da8c8 cJxc12de_init_da8c8 1 none :: wsL_law
theorem ud_Jxc12de_init_da8c8 : yJxc12de_init_da8c8.cls = RJxc12de ∧ yJxc12de_init_da8c8.cls ≠ "java/lang/invoke/MethodHandle" ∧ yJxc12de_init_da8c8.cls ≠ "java/lang/invoke/VarHandle" ∧ (parseMethodDescriptor yJxc12de_init_da8c8.desc).map (fun d => d.parameters.length) = some 0 := by decide +kernel
abbrev rmc_Jxc12de_init_da8c8 : Room := { frames := 2, cells := 0, slots := 0, locals := 60 }
set_option maxHeartbeats 4000000 in
set_option maxRecDepth 100000 in
theorem hcc_Jxc12de_init_da8c8 (l : Launch) (D : va_G) (cs : Nat → ClassId) (t0 : TS) (P0 T : PS) (th : Nat) (r0 : Int32) (h : hm_Jxc12de_init_da8c8 P0 th = some (r0, T)) : MetCV l yJxc12de_init_da8c8 wu_Jxc12de_init_da8c8 rmc_Jxc12de_init_da8c8 D cs t0 [.ref th] P0 T r0 0 0 := by
  refine co_start (own := RJxc12de) (ty := none) (cc := cJxc12de_init_da8c8) (maxL := 1) ⟨by decide, rfl⟩ rfl (Nat.le_of_ble_eq_true rfl) ?_
  intro p e s m args below meth c ls cx hnm hl w
  have hx := cx.1
  have hb := cx.2.1
  have hts := cx.2.2.2.1
  have hown := cx.2.2.2.2.1
  have hml := cx.2.2.2.2.2.2
  have hsub : ∀ w ∈ wsL_law, w ∈ wu_Jxc12de_init_da8c8 := fun _ hq => List.mem_cons_of_mem _ hq
  have hl : lv_has ls 1 [(0, .ref th)] := hl
  have hP0 : P0 = P0 := rfl
  unfold hm_Jxc12de_init_da8c8 at h
  refine lv_aload_n hx hb dJxc12de_init_da8c8_0 rfl (lv_at hl 0 rfl) ?_
  replace h := bd_e h
  obtain ⟨r_102, P_101, hc_103, h⟩ := h
  refine cc_v (cr_I (As := []) (rest := []) cx (hcc_Jxa1e45_init_da8c8 l D cs t0  P0 P_101 th r_102 hc_103) (cwI 0 hts (uGB uw_Jxa1e45_init_da8c8) rfl rfl rfl (hts _ (hsub _ un_RJxa1e45)) (hts _ (hsub _ ul_RJxc12de_1)) (hts _ (hsub _ ui_Jxa1e45_init_da8c8)) rfl ud_Jxa1e45_init_da8c8.2 ⟨Nat.le_of_ble_eq_true rfl, Nat.le_of_ble_eq_true rfl⟩) w rfl hl.1 rfl (Nat.le_of_ble_eq_true rfl) dJxc12de_init_da8c8_1 ⟨(Nat.le_of_ble_eq_true rfl), (Nat.le_of_ble_eq_true rfl)⟩) (fun H locs w => ?_)
  refine lv_aload_n hx hb dJxc12de_init_da8c8_4 rfl (lv_at hl 0 rfl) ?_
  refine lv_iconst (v := (0 : Int32)) hx hb dJxc12de_init_da8c8_5 (by decide) ?_
  replace h := ck_e h
  obtain ⟨hk_104, h⟩ := h
  replace h := lt_e h
  obtain ⟨P_105, eP_105, h⟩ := h
  refine cw_putI cx hsub w kT0 hk_104 0 eP_105 ⟨by decide, by decide, rfl⟩ (Or.inl rfl) ⟨hsub _ uf_RJxc12de_7, Or.inl rfl⟩ dJxc12de_init_da8c8_6 (fun H locs w => ?_)
  exact cw_vret cx (rt_e h) w dJxc12de_init_da8c8_9
def hm_Jx4a65c_init_da8c8 (t0 : TS) (P : PS) (th : Nat) : Option (Int32 × PS) := bd (hm_Jxc12de_init_da8c8  P th) (fun _ P_101 => ck (kk P_101 th 0) (lt_ (pRu P_101 th 1 (some t0.1)) (fun P_105 => some ((0 : Int32), P_105))))
abbrev wu_Jx4a65c_init_da8c8 : List Cond := .code yJx4a65c_init_da8c8 cJx4a65c_init_da8c8 1 none :: wsL_law
theorem ud_Jx4a65c_init_da8c8 : yJx4a65c_init_da8c8.cls = RJx4a65c ∧ yJx4a65c_init_da8c8.cls ≠ "java/lang/invoke/MethodHandle" ∧ yJx4a65c_init_da8c8.cls ≠ "java/lang/invoke/VarHandle" ∧ (parseMethodDescriptor yJx4a65c_init_da8c8.desc).map (fun d => d.parameters.length) = some 0 := by decide +kernel
abbrev rmc_Jx4a65c_init_da8c8 : Room := { frames := 3, cells := 0, slots := 0, locals := 80 }
set_option maxHeartbeats 4000000 in
set_option maxRecDepth 100000 in
theorem hcc_Jx4a65c_init_da8c8 (l : Launch) (D : va_G) (cs : Nat → ClassId) (t0 : TS) (P0 T : PS) (th : Nat) (r0 : Int32) (h : hm_Jx4a65c_init_da8c8 t0 P0 th = some (r0, T)) : MetCV l yJx4a65c_init_da8c8 wu_Jx4a65c_init_da8c8 rmc_Jx4a65c_init_da8c8 D cs t0 [.ref th] P0 T r0 0 0 := by
  refine co_start (own := RJx4a65c) (ty := none) (cc := cJx4a65c_init_da8c8) (maxL := 1) ⟨by decide, rfl⟩ rfl (Nat.le_of_ble_eq_true rfl) ?_
  intro p e s m args below meth c ls cx hnm hl w
  have hx := cx.1
  have hb := cx.2.1
  have hts := cx.2.2.2.1
  have hown := cx.2.2.2.2.1
  have hml := cx.2.2.2.2.2.2
  have hsub : ∀ w ∈ wsL_law, w ∈ wu_Jx4a65c_init_da8c8 := fun _ hq => List.mem_cons_of_mem _ hq
  have hl : lv_has ls 1 [(0, .ref th)] := hl
  have hP0 : P0 = P0 := rfl
  unfold hm_Jx4a65c_init_da8c8 at h
  refine lv_aload_n hx hb dJx4a65c_init_da8c8_0 rfl (lv_at hl 0 rfl) ?_
  replace h := bd_e h
  obtain ⟨r_102, P_101, hc_103, h⟩ := h
  refine cc_v (cr_I (As := []) (rest := []) cx (hcc_Jxc12de_init_da8c8 l D cs t0  P0 P_101 th r_102 hc_103) (cwI 0 hts (uGB uw_Jxc12de_init_da8c8) rfl rfl rfl (hts _ (hsub _ un_RJxc12de)) (hts _ (hsub _ ul_RJx4a65c_1)) (hts _ (hsub _ ui_Jxc12de_init_da8c8)) rfl ud_Jxc12de_init_da8c8.2 ⟨Nat.le_of_ble_eq_true rfl, Nat.le_of_ble_eq_true rfl⟩) w rfl hl.1 rfl (Nat.le_of_ble_eq_true rfl) dJx4a65c_init_da8c8_1 ⟨(Nat.le_of_ble_eq_true rfl), (Nat.le_of_ble_eq_true rfl)⟩) (fun H locs w => ?_)
  refine lv_aload_n hx hb dJx4a65c_init_da8c8_4 rfl (lv_at hl 0 rfl) ?_
  refine cw_dflt cx hsub w uf_RJx4a65c_39 dJx4a65c_init_da8c8_5 ?_
  replace h := ck_e h
  obtain ⟨hk_104, h⟩ := h
  replace h := lt_e h
  obtain ⟨P_105, eP_105, h⟩ := h
  refine cw_putR cx hsub w kT0 hk_104 1 (v := (some t0.1)) eP_105 (by decide) (by first | exact Or.inl ⟨_, rfl⟩ | exact Or.inr ⟨_, rfl⟩) (Or.inl rfl) ⟨hsub _ uf_RJx4a65c_9, Or.inl rfl⟩ dJx4a65c_init_da8c8_8 (fun H locs w => ?_)
  exact cw_vret cx (rt_e h) w dJx4a65c_init_da8c8_11
def hm_X4_init (t0 : TS) (P : PS) (th : Nat) (a1 : Int32) (a2 : Int32) : Option (Int32 × PS) := lt_ (pZ P) (fun z_101 => lt_ (pNew P 0 0) (fun P_102 => bd (hm_Jx4a65c_init_da8c8 t0  P_102 z_101) (fun _ P_103 => ck (kk P_103 th 5) (lt_ (pRu P_103 th 2 (some z_101)) (fun P_107 => lt_ (pIu P_107 th 0 a1) (fun P_109 => lt_ (pIu P_109 th 1 a2) (fun P_111 => some ((0 : Int32), P_111))))))))
abbrev wu_X4_init : List Cond := .code yX4_init cX4_init 3 none :: wsL_law
theorem ud_X4_init : yX4_init.cls = RX4 ∧ yX4_init.cls ≠ "java/lang/invoke/MethodHandle" ∧ yX4_init.cls ≠ "java/lang/invoke/VarHandle" ∧ (parseMethodDescriptor yX4_init.desc).map (fun d => d.parameters.length) = some 2 := by decide +kernel
abbrev rmc_X4_init : Room := { frames := 4, cells := 1, slots := 3, locals := 100 }
set_option maxHeartbeats 4000000 in
set_option maxRecDepth 100000 in
theorem hcc_X4_init (l : Launch) (D : va_G) (cs : Nat → ClassId) (t0 : TS) (P0 T : PS) (th : Nat) (a1 : Int32) (a2 : Int32) (r0 : Int32) (h : hm_X4_init t0 P0 th a1 a2 = some (r0, T)) : MetCV l yX4_init wu_X4_init rmc_X4_init D cs t0 [.ref th, .int a1, .int a2] P0 T r0 1 3 := by
  refine co_start (own := RX4) (ty := none) (cc := cX4_init) (maxL := 3) ⟨by decide, rfl⟩ rfl (Nat.le_of_ble_eq_true rfl) ?_
  intro p e s m args below meth c ls cx hnm hl w
  have hx := cx.1
  have hb := cx.2.1
  have hts := cx.2.2.2.1
  have hown := cx.2.2.2.2.1
  have hml := cx.2.2.2.2.2.2
  have hsub : ∀ w ∈ wsL_law, w ∈ wu_X4_init := fun _ hq => List.mem_cons_of_mem _ hq
  have hl : lv_has ls 3 [(0, .ref th), (1, .int a1), (2, .int a2)] := hl
  have hP0 : P0 = P0 := rfl
  unfold hm_X4_init at h
  refine lv_aload_n hx hb dX4_init_0 rfl (lv_at hl 0 rfl) ?_
  refine W.objInit hx hb hown (hts _ (hsub _ ul_RX4_3)) (hts _ (hsub _ uoi_i)) (hts _ (hsub _ uoi_c)) rfl (by rw [hml]; exact hl.1) rfl dX4_init_1 (Nat.le_of_ble_eq_true rfl) (Nat.le_of_ble_eq_true rfl) ?_
  refine W.eq (g2 := F0 m _ ls []) rfl ?_
  refine lv_aload_n hx hb dX4_init_4 rfl (lv_at hl 0 rfl) ?_
  replace h := lt_e h
  obtain ⟨z_101, ez_101, h⟩ := h
  replace h := lt_e h
  obtain ⟨P_102, eP_102, h⟩ := h
  refine cw_new cx hsub w kT0 eP_102 (by decide +kernel) (hsub _ ucl_RX4_9) (hsub _ uin_RJx4a65c) (hsub _ un_RJx4a65c) (Nat.le_of_ble_eq_true rfl) (Nat.le_of_ble_eq_true rfl) dX4_init_5 (fun H w => ?_)
  have hkz_101 : kk P_102 z_101 0 = true := by rw [ez_101]; exact kk_new eP_102
  rw [← ez_101]
  refine lv_dup hx hb dX4_init_8 rfl ?_
  replace h := bd_e h
  obtain ⟨r_104, P_103, hc_105, h⟩ := h
  refine cc_v (cr_I (As := []) (rest := [.ref z_101, .ref th]) cx (hcc_Jx4a65c_init_da8c8 l D cs t0  P_102 P_103 z_101 r_104 hc_105) (cwI 0 hts (uGB uw_Jx4a65c_init_da8c8) rfl rfl rfl (hts _ (hsub _ un_RJx4a65c)) (hts _ (hsub _ ul_RX4_11)) (hts _ (hsub _ ui_Jx4a65c_init_da8c8)) rfl ud_Jx4a65c_init_da8c8.2 ⟨Nat.le_of_ble_eq_true rfl, Nat.le_of_ble_eq_true rfl⟩) w rfl hl.1 rfl (Nat.le_of_ble_eq_true rfl) dX4_init_9 ⟨(Nat.le_of_ble_eq_true rfl), (Nat.le_of_ble_eq_true rfl)⟩) (fun H locs w => ?_)
  replace h := ck_e h
  obtain ⟨hk_106, h⟩ := h
  replace h := lt_e h
  obtain ⟨P_107, eP_107, h⟩ := h
  refine cw_putR cx hsub w kT5 hk_106 2 (v := (some z_101)) eP_107 (by decide) (by first | exact Or.inl ⟨_, rfl⟩ | exact Or.inr ⟨_, rfl⟩) (Or.inr ⟨rfl, hnm, rfl⟩) ⟨hsub _ uf_RX4_12, Or.inl rfl⟩ dX4_init_12 (fun H locs w => ?_)
  refine lv_aload_n hx hb dX4_init_15 rfl (lv_at hl 0 rfl) ?_
  refine lv_iload_n hx hb dX4_init_16 rfl (lv_at hl 1 rfl) ?_
  have hk_108 : kk P_107 th 5 = true := by rw [eP_107]; exact hk_106
  replace h := lt_e h
  obtain ⟨P_109, eP_109, h⟩ := h
  refine cw_putI cx hsub w kT5 hk_108 0 eP_109 ⟨by decide, by decide, rfl⟩ (Or.inr ⟨rfl, hnm, rfl⟩) ⟨hsub _ uf_RX4_18, Or.inl rfl⟩ dX4_init_17 (fun H locs w => ?_)
  refine lv_aload_n hx hb dX4_init_20 rfl (lv_at hl 0 rfl) ?_
  refine lv_iload_n hx hb dX4_init_21 rfl (lv_at hl 2 rfl) ?_
  have hk_110 : kk P_109 th 5 = true := by rw [eP_109]; exact hk_108
  replace h := lt_e h
  obtain ⟨P_111, eP_111, h⟩ := h
  refine cw_putI cx hsub w kT5 hk_110 1 eP_111 ⟨by decide, by decide, rfl⟩ (Or.inr ⟨rfl, hnm, rfl⟩) ⟨hsub _ uf_RX4_22, Or.inl rfl⟩ dX4_init_22 (fun H locs w => ?_)
  refine W.widen (k := 1) (n := 3) (Nat.le_of_ble_eq_true rfl) (Nat.le_of_ble_eq_true rfl) ?_
  exact cw_vret cx (rt_e h) w dX4_init_25
def hm_J7_copyOf_59c91 (P : PS) (a1 : Nat) (a2 : Int32) : Option (Option Nat × PS) := ck (kk P a1 12) (if a2 = (nI (pN P a1)) then (none) else (lt_ (pZ P) (fun z_102 => ck (vle a2 100) (lt_ (pNew P 12 (a2).toNatClampNeg) (fun P_104 => ck (kk P_104 a1 12) (ck (cpk (pN P_104 a1) (pN P_104 z_102) (0 : Int32) (0 : Int32) (if a2 < (nI (pN P_104 a1)) then a2 else (nI (pN P_104 a1)))) (lt_ (pCi P_104 a1 z_102 ((0 : Int32)).toNatClampNeg ((0 : Int32)).toNatClampNeg ((if a2 < (nI (pN P_104 a1)) then a2 else (nI (pN P_104 a1)))).toNatClampNeg) (fun P_107 => some ((some z_102), P_107)))))))))
abbrev wu_J7_copyOf_59c91 : List Cond := .code yJ7_copyOf_59c91 cJ7_copyOf_59c91 3 (some (.array .int)) :: wsL_law
theorem ud_J7_copyOf_59c91 : yJ7_copyOf_59c91.cls = RJ7 ∧ yJ7_copyOf_59c91.cls ≠ "java/lang/invoke/MethodHandle" ∧ yJ7_copyOf_59c91.cls ≠ "java/lang/invoke/VarHandle" ∧ (parseMethodDescriptor yJ7_copyOf_59c91.desc).map (fun d => d.parameters.length) = some 2 := by decide +kernel
abbrev rmc_J7_copyOf_59c91 : Room := { frames := 1, cells := 1, slots := 100, locals := 40 }
set_option maxHeartbeats 4000000 in
set_option maxRecDepth 100000 in
theorem hcc_J7_copyOf_59c91 (l : Launch) (D : va_G) (cs : Nat → ClassId) (t0 : TS) (P0 T : PS) (a1 : Nat) (a2 : Int32) (r0 : Option Nat) (h : hm_J7_copyOf_59c91 P0 a1 a2 = some (r0, T)) : MetCQ l yJ7_copyOf_59c91 wu_J7_copyOf_59c91 rmc_J7_copyOf_59c91 D cs t0 [.ref a1, .int a2] P0 T r0 1 100 := by
  refine co_start (own := RJ7) (ty := (some (.array .int))) (cc := cJ7_copyOf_59c91) (maxL := 3) ⟨by decide, rfl⟩ rfl (Nat.le_of_ble_eq_true rfl) ?_
  intro p e s m args below meth c ls cx hnm hl w
  have hx := cx.1
  have hb := cx.2.1
  have hts := cx.2.2.2.1
  have hown := cx.2.2.2.2.1
  have hml := cx.2.2.2.2.2.2
  have hsub : ∀ w ∈ wsL_law, w ∈ wu_J7_copyOf_59c91 := fun _ hq => List.mem_cons_of_mem _ hq
  have hl : lv_has ls 3 [(0, .ref a1), (1, .int a2)] := hl
  have hP0 : P0 = P0 := rfl
  unfold hm_J7_copyOf_59c91 at h
  refine lv_iload_n hx hb dJ7_copyOf_59c91_0 rfl (lv_at hl 1 rfl) ?_
  refine lv_aload_n hx hb dJ7_copyOf_59c91_1 rfl (lv_at hl 0 rfl) ?_
  replace h := ck_e h
  obtain ⟨hk_101, h⟩ := h
  refine cw_alen cx w hk_101 rfl dJ7_copyOf_59c91_2 ?_
  refine lv_icmp_ne (tgt := 14) hx hb dJ7_copyOf_59c91_3 (by decide) (fun q => ?_) (fun q => ?_)
  · replace h := br_n q h
    refine lv_iload_n hx hb dJ7_copyOf_59c91_14 rfl (lv_at hl 1 rfl) ?_
    replace h := lt_e h
    obtain ⟨z_102, ez_102, h⟩ := h
    replace h := ck_e h
    obtain ⟨hq_103, h⟩ := h
    replace h := lt_e h
    obtain ⟨P_104, eP_104, h⟩ := h
    refine cw_newi cx w (vle_n hq_103) (Nat.le_trans (vle_b hq_103) (by decide)) eP_104 (hsub _ uar_int) (Nat.le_of_ble_eq_true rfl) (Nat.le_trans (Nat.add_le_add_left (vle_b hq_103) _) (Nat.le_of_ble_eq_true rfl)) dJ7_copyOf_59c91_15 (fun H w => ?_)
    refine W.widen (k := 1) (n := 100) (Nat.le_of_ble_eq_true rfl) (Nat.add_le_add_left (vle_b hq_103) _) ?_
    have hkz_102 : kk P_104 z_102 12 = true := by rw [ez_102]; exact kk_new eP_104
    rw [← ez_102]
    refine lv_astore_n (lv' := [(2, .ref z_102), (0, .ref a1), (1, .int a2)]) hx hb dJ7_copyOf_59c91_17 rfl hl (by decide) (rfl) (fun ls hl => ?_)
    refine lv_aload_n hx hb dJ7_copyOf_59c91_18 rfl (lv_at hl 1 rfl) ?_
    refine lv_iconst (v := (0 : Int32)) hx hb dJ7_copyOf_59c91_19 (by decide) ?_
    refine lv_aload_n hx hb dJ7_copyOf_59c91_20 rfl (lv_at hl 0 rfl) ?_
    refine lv_iconst (v := (0 : Int32)) hx hb dJ7_copyOf_59c91_21 (by decide) ?_
    refine lv_aload_n hx hb dJ7_copyOf_59c91_22 rfl (lv_at hl 1 rfl) ?_
    replace h := ck_e h
    obtain ⟨hk_105, h⟩ := h
    refine cw_alen cx w hk_105 rfl dJ7_copyOf_59c91_23 ?_
    refine lv_iload_n hx hb dJ7_copyOf_59c91_24 rfl (lv_at hl 2 rfl) ?_
    refine cw_min cx hsub hl.1 ul_RJ7_304 (Nat.le_of_ble_eq_true rfl) (Nat.le_of_ble_eq_true rfl) (Nat.le_of_ble_eq_true rfl) (Nat.le_of_ble_eq_true rfl) dJ7_copyOf_59c91_25 ?_
    replace h := ck_e h
    obtain ⟨hq_106, h⟩ := h
    replace h := lt_e h
    obtain ⟨P_107, eP_107, h⟩ := h
    refine cw_copyi cx hsub w hl.1 ul_RJ7_150 hk_105 hkz_102 hq_106 eP_107 (Nat.le_of_ble_eq_true rfl) (Nat.le_of_ble_eq_true rfl) dJ7_copyOf_59c91_28 (fun H locs w => ?_)
    refine lv_aload_n hx hb dJ7_copyOf_59c91_31 rfl (lv_at hl 0 rfl) ?_
    refine W.widen (k := 1) (n := 100) (Nat.le_of_ble_eq_true rfl) (Nat.le_of_ble_eq_true rfl) ?_
    exact cw_aret cx (by first | exact Or.inl ⟨_, rfl⟩ | exact Or.inr ⟨_, rfl⟩) (v := (some z_102)) (rt_e h) w dJ7_copyOf_59c91_32
  · replace h := br_p q h
    cases h
def hm_J8_newLength_cabcc (P : PS) (a1 : Int32) (a2 : Int32) (a3 : Int32) : Option (Int32 × PS) := lt_ ((a1 + (if a2 < a3 then a3 else a2))) (fun x3_101 => if x3_101 ≤ (0 : Int32) then (none) else (if (2147483639 : Int32) < x3_101 then (none) else (some (x3_101, P))))
abbrev wu_J8_newLength_cabcc : List Cond := .code yJ8_newLength_cabcc cJ8_newLength_cabcc 4 (some .int) :: wsL_law
theorem ud_J8_newLength_cabcc : yJ8_newLength_cabcc.cls = RJ8 ∧ yJ8_newLength_cabcc.cls ≠ "java/lang/invoke/MethodHandle" ∧ yJ8_newLength_cabcc.cls ≠ "java/lang/invoke/VarHandle" ∧ (parseMethodDescriptor yJ8_newLength_cabcc.desc).map (fun d => d.parameters.length) = some 3 := by decide +kernel
abbrev rmc_J8_newLength_cabcc : Room := { frames := 1, cells := 0, slots := 0, locals := 40 }
set_option maxHeartbeats 4000000 in
set_option maxRecDepth 100000 in
theorem hcc_J8_newLength_cabcc (l : Launch) (D : va_G) (cs : Nat → ClassId) (t0 : TS) (P0 T : PS) (a1 : Int32) (a2 : Int32) (a3 : Int32) (r0 : Int32) (h : hm_J8_newLength_cabcc P0 a1 a2 a3 = some (r0, T)) : MetCI l yJ8_newLength_cabcc wu_J8_newLength_cabcc rmc_J8_newLength_cabcc D cs t0 [.int a1, .int a2, .int a3] P0 T r0 0 0 := by
  refine co_start (own := RJ8) (ty := (some .int)) (cc := cJ8_newLength_cabcc) (maxL := 4) ⟨by decide, rfl⟩ rfl (Nat.le_of_ble_eq_true rfl) ?_
  intro p e s m args below meth c ls cx hnm hl w
  have hx := cx.1
  have hb := cx.2.1
  have hts := cx.2.2.2.1
  have hown := cx.2.2.2.2.1
  have hml := cx.2.2.2.2.2.2
  have hsub : ∀ w ∈ wsL_law, w ∈ wu_J8_newLength_cabcc := fun _ hq => List.mem_cons_of_mem _ hq
  have hl : lv_has ls 4 [(0, .int a1), (1, .int a2), (2, .int a3)] := hl
  have hP0 : P0 = P0 := rfl
  unfold hm_J8_newLength_cabcc at h
  refine lv_iload_n hx hb dJ8_newLength_cabcc_0 rfl (lv_at hl 0 rfl) ?_
  refine lv_iload_n hx hb dJ8_newLength_cabcc_1 rfl (lv_at hl 1 rfl) ?_
  refine lv_iload_n hx hb dJ8_newLength_cabcc_2 rfl (lv_at hl 2 rfl) ?_
  refine cw_max cx hsub hl.1 ul_RJ8_194 (Nat.le_of_ble_eq_true rfl) (Nat.le_of_ble_eq_true rfl) (Nat.le_of_ble_eq_true rfl) (Nat.le_of_ble_eq_true rfl) dJ8_newLength_cabcc_3 ?_
  refine lv_iadd hx hb dJ8_newLength_cabcc_6 ?_
  replace h := lt_e h
  obtain ⟨x3_101, ex3_101, h⟩ := h
  refine top_i ex3_101 ?_
  refine lv_istore_n (lv' := [(3, .int x3_101), (0, .int a1), (1, .int a2), (2, .int a3)]) hx hb dJ8_newLength_cabcc_7 rfl hl (by decide) (rfl) (fun ls hl => ?_)
  refine lv_iconst (v := (0 : Int32)) hx hb dJ8_newLength_cabcc_8 (by decide) ?_
  refine lv_iload_n hx hb dJ8_newLength_cabcc_9 rfl (lv_at hl 0 rfl) ?_
  refine lv_icmp_ge (tgt := 21) hx hb dJ8_newLength_cabcc_10 (by decide) (fun q => ?_) (fun q => ?_)
  · replace h := br_p q h
    cases h
  · replace h := br_n q h
    refine lv_iload_n hx hb dJ8_newLength_cabcc_13 rfl (lv_at hl 0 rfl) ?_
    refine lv_ldc (v := (2147483639 : Int32)) hx hb hown (hts _ (hsub _ uc_RJ8_200)) dJ8_newLength_cabcc_14 ?_
    refine lv_icmp_gt (tgt := 21) hx hb dJ8_newLength_cabcc_16 (by decide) (fun q => ?_) (fun q => ?_)
    · replace h := br_p q h
      cases h
    · replace h := br_n q h
      refine lv_iload_n hx hb dJ8_newLength_cabcc_19 rfl (lv_at hl 0 rfl) ?_
      exact cw_iret cx (rt_e h) w dJ8_newLength_cabcc_20
def hm_J7_copyOf_6403c (t0 : TS) (P : PS) (a1 : Nat) (a2 : Int32) (a3 : Nat) : Option (Option Nat × PS) := if some a3 = some t0.2.1 then (lt_ (pZ P) (fun z_101 => ck (vle a2 64) (lt_ (pNew P 17 (a2).toNatClampNeg) (fun P_103 => ck (kkO t0 P_103 a1) (ck (kk P_103 a1 17) (ck (cpk (pN P_103 a1) (pN P_103 z_101) (0 : Int32) (0 : Int32) (if a2 < (nI (lenO t0 P_103 a1)) then a2 else (nI (lenO t0 P_103 a1)))) (ck (isOs P_103 a1 ((0 : Int32)).toNatClampNeg ((if a2 < (nI (lenO t0 P_103 a1)) then a2 else (nI (lenO t0 P_103 a1)))).toNatClampNeg) (lt_ (pCq P_103 a1 z_101 ((0 : Int32)).toNatClampNeg ((0 : Int32)).toNatClampNeg ((if a2 < (nI (lenO t0 P_103 a1)) then a2 else (nI (lenO t0 P_103 a1)))).toNatClampNeg) (fun P_108 => some ((some z_101), P_108)))))))))) else (none)
abbrev wu_J7_copyOf_6403c : List Cond := .code yJ7_copyOf_6403c cJ7_copyOf_6403c 4 (some (.array (.object "java/lang/Object"))) :: wsL_law
theorem ud_J7_copyOf_6403c : yJ7_copyOf_6403c.cls = RJ7 ∧ yJ7_copyOf_6403c.cls ≠ "java/lang/invoke/MethodHandle" ∧ yJ7_copyOf_6403c.cls ≠ "java/lang/invoke/VarHandle" ∧ (parseMethodDescriptor yJ7_copyOf_6403c.desc).map (fun d => d.parameters.length) = some 3 := by decide +kernel
abbrev rmc_J7_copyOf_6403c : Room := { frames := 1, cells := 1, slots := 64, locals := 40 }
set_option maxHeartbeats 4000000 in
set_option maxRecDepth 100000 in
theorem hcc_J7_copyOf_6403c (l : Launch) (D : va_G) (cs : Nat → ClassId) (t0 : TS) (P0 T : PS) (a1 : Nat) (a2 : Int32) (a3 : Nat) (r0 : Option Nat) (h : hm_J7_copyOf_6403c t0 P0 a1 a2 a3 = some (r0, T)) : MetCQ l yJ7_copyOf_6403c wu_J7_copyOf_6403c rmc_J7_copyOf_6403c D cs t0 [.ref a1, .int a2, .ref a3] P0 T r0 1 64 := by
  refine co_start (own := RJ7) (ty := (some (.array (.object "java/lang/Object")))) (cc := cJ7_copyOf_6403c) (maxL := 4) ⟨by decide, rfl⟩ rfl (Nat.le_of_ble_eq_true rfl) ?_
  intro p e s m args below meth c ls cx hnm hl w
  have hx := cx.1
  have hb := cx.2.1
  have hts := cx.2.2.2.1
  have hown := cx.2.2.2.2.1
  have hml := cx.2.2.2.2.2.2
  have hsub : ∀ w ∈ wsL_law, w ∈ wu_J7_copyOf_6403c := fun _ hq => List.mem_cons_of_mem _ hq
  have hl : lv_has ls 4 [(0, .ref a1), (1, .int a2), (2, .ref a3)] := hl
  have hP0 : P0 = P0 := rfl
  unfold hm_J7_copyOf_6403c at h
  refine lv_aload_n hx hb dJ7_copyOf_6403c_0 rfl (lv_at hl 2 rfl) ?_
  refine cw_ldcM cx hsub w ucl_RJ7_110 dJ7_copyOf_6403c_1 ?_
  refine lv_acmp_ne (rx := some a3) (ry := some t0.2.1) (tgt := 13) hx hb dJ7_copyOf_6403c_3 (by decide) (fun q => ?_) (fun q => ?_)
  · replace h := br_n q h
    cases h
  · replace h := br_p q h
    refine lv_iload_n hx hb dJ7_copyOf_6403c_6 rfl (lv_at hl 1 rfl) ?_
    replace h := lt_e h
    obtain ⟨z_101, ez_101, h⟩ := h
    replace h := ck_e h
    obtain ⟨hq_102, h⟩ := h
    replace h := lt_e h
    obtain ⟨P_103, eP_103, h⟩ := h
    refine cw_newq cx hsub w (d := 17) (j := 6) rfl (fun _ _ h => pE_o h) (by decide) (vle_n hq_102) (Nat.le_trans (vle_b hq_102) (by decide)) eP_103 (hsub _ ucl_RJ7_2) (Nat.le_of_ble_eq_true rfl) (Nat.le_trans (Nat.add_le_add_left (vle_b hq_102) _) (Nat.le_of_ble_eq_true rfl)) dJ7_copyOf_6403c_7 (fun H w => ?_)
    refine W.widen (k := 1) (n := 64) (Nat.le_of_ble_eq_true rfl) (Nat.add_le_add_left (vle_b hq_102) _) ?_
    have hkz_101 : kk P_103 z_101 17 = true := by rw [ez_101]; exact kk_new eP_103
    rw [← ez_101]
    refine lv_goto (tgt := 24) hx hb dJ7_copyOf_6403c_10 (by decide) ?_
    refine lv_astore_n (lv' := [(3, .ref z_101), (0, .ref a1), (1, .int a2), (2, .ref a3)]) hx hb dJ7_copyOf_6403c_24 rfl hl (by decide) (rfl) (fun ls hl => ?_)
    refine lv_aload_n hx hb dJ7_copyOf_6403c_25 rfl (lv_at hl 1 rfl) ?_
    refine lv_iconst (v := (0 : Int32)) hx hb dJ7_copyOf_6403c_26 (by decide) ?_
    refine lv_aload_n hx hb dJ7_copyOf_6403c_27 rfl (lv_at hl 0 rfl) ?_
    refine lv_iconst (v := (0 : Int32)) hx hb dJ7_copyOf_6403c_28 (by decide) ?_
    refine lv_aload_n hx hb dJ7_copyOf_6403c_29 rfl (lv_at hl 1 rfl) ?_
    replace h := ck_e h
    obtain ⟨hq_104, h⟩ := h
    refine cw_alenO cx w hq_104 dJ7_copyOf_6403c_30 ?_
    refine lv_iload_n hx hb dJ7_copyOf_6403c_31 rfl (lv_at hl 2 rfl) ?_
    refine cw_min cx hsub hl.1 ul_RJ7_304 (Nat.le_of_ble_eq_true rfl) (Nat.le_of_ble_eq_true rfl) (Nat.le_of_ble_eq_true rfl) (Nat.le_of_ble_eq_true rfl) dJ7_copyOf_6403c_32 ?_
    replace h := ck_e h
    obtain ⟨hk_105, h⟩ := h
    replace h := ck_e h
    obtain ⟨hq_106, h⟩ := h
    replace h := ck_e h
    obtain ⟨hq_107, h⟩ := h
    replace h := lt_e h
    obtain ⟨P_108, eP_108, h⟩ := h
    refine cw_copyq cx hsub w hl.1 ul_RJ7_150 hk_105 hkz_101 hq_106 hq_107 eP_108 (Nat.le_of_ble_eq_true rfl) (Nat.le_of_ble_eq_true rfl) dJ7_copyOf_6403c_35 (fun H locs w => ?_)
    refine lv_aload_n hx hb dJ7_copyOf_6403c_38 rfl (lv_at hl 0 rfl) ?_
    refine W.widen (k := 1) (n := 64) (Nat.le_of_ble_eq_true rfl) (Nat.le_of_ble_eq_true rfl) ?_
    exact cw_aret cx (by first | exact Or.inl ⟨_, rfl⟩ | exact Or.inr ⟨_, rfl⟩) (v := (some z_101)) (rt_e h) w dJ7_copyOf_6403c_39
def hm_J7_copyOf_1904c (t0 : TS) (P : PS) (a1 : Nat) (a2 : Int32) : Option (Option Nat × PS) := ck (kk P a1 17) (bd (hm_J7_copyOf_6403c t0  P a1 a2 t0.2.1) (fun o_103 P_102 => some (o_103, P_102)))
abbrev wu_J7_copyOf_1904c : List Cond := .code yJ7_copyOf_1904c cJ7_copyOf_1904c 2 (some (.array (.object "java/lang/Object"))) :: wsL_law
theorem ud_J7_copyOf_1904c : yJ7_copyOf_1904c.cls = RJ7 ∧ yJ7_copyOf_1904c.cls ≠ "java/lang/invoke/MethodHandle" ∧ yJ7_copyOf_1904c.cls ≠ "java/lang/invoke/VarHandle" ∧ (parseMethodDescriptor yJ7_copyOf_1904c.desc).map (fun d => d.parameters.length) = some 2 := by decide +kernel
abbrev rmc_J7_copyOf_1904c : Room := { frames := 2, cells := 1, slots := 64, locals := 63 }
set_option maxHeartbeats 4000000 in
set_option maxRecDepth 100000 in
theorem hcc_J7_copyOf_1904c (l : Launch) (D : va_G) (cs : Nat → ClassId) (t0 : TS) (P0 T : PS) (a1 : Nat) (a2 : Int32) (r0 : Option Nat) (h : hm_J7_copyOf_1904c t0 P0 a1 a2 = some (r0, T)) : MetCQ l yJ7_copyOf_1904c wu_J7_copyOf_1904c rmc_J7_copyOf_1904c D cs t0 [.ref a1, .int a2] P0 T r0 1 64 := by
  refine co_start (own := RJ7) (ty := (some (.array (.object "java/lang/Object")))) (cc := cJ7_copyOf_1904c) (maxL := 2) ⟨by decide, rfl⟩ rfl (Nat.le_of_ble_eq_true rfl) ?_
  intro p e s m args below meth c ls cx hnm hl w
  have hx := cx.1
  have hb := cx.2.1
  have hts := cx.2.2.2.1
  have hown := cx.2.2.2.2.1
  have hml := cx.2.2.2.2.2.2
  have hsub : ∀ w ∈ wsL_law, w ∈ wu_J7_copyOf_1904c := fun _ hq => List.mem_cons_of_mem _ hq
  have hl : lv_has ls 2 [(0, .ref a1), (1, .int a2)] := hl
  have hP0 : P0 = P0 := rfl
  unfold hm_J7_copyOf_1904c at h
  refine lv_aload_n hx hb dJ7_copyOf_1904c_0 rfl (lv_at hl 0 rfl) ?_
  refine lv_iload_n hx hb dJ7_copyOf_1904c_1 rfl (lv_at hl 1 rfl) ?_
  refine lv_aload_n hx hb dJ7_copyOf_1904c_2 rfl (lv_at hl 0 rfl) ?_
  replace h := ck_e h
  obtain ⟨hk_101, h⟩ := h
  refine cw_getC cx hsub w hl.1 ul_RJ7_86 hk_101 (Nat.le_of_ble_eq_true rfl) (Nat.le_of_ble_eq_true rfl) dJ7_copyOf_1904c_3 ?_
  replace h := bd_e h
  obtain ⟨o_103, P_102, hc_104, h⟩ := h
  refine cc_q (cr_S (As := [.ref a1, .int a2, .ref t0.2.1]) (rest := []) cx (hcc_J7_copyOf_6403c l D cs t0  P0 P_102 a1 a2 t0.2.1 o_103 hc_104) (va_cwS 3 hts (uGS uw_J7_copyOf_6403c ul_RJ7_300 ut_J7_copyOf_6403c un_RJ7) rfl rfl rfl ud_J7_copyOf_6403c.2 ⟨Nat.le_of_ble_eq_true rfl, Nat.le_of_ble_eq_true rfl⟩) w rfl hl.1 rfl (Nat.le_of_ble_eq_true rfl) dJ7_copyOf_1904c_6 ⟨(Nat.le_of_ble_eq_true rfl), (Nat.le_of_ble_eq_true rfl)⟩) (fun H locs w => ?_)
  refine W.widen (k := 1) (n := 64) (Nat.le_of_ble_eq_true rfl) (Nat.le_of_ble_eq_true rfl) ?_
  exact cw_aret cx (by first | exact Or.inl ⟨_, rfl⟩ | exact Or.inr ⟨_, rfl⟩) (v := o_103) (rt_e h) w dJ7_copyOf_1904c_9
def hm_Jx4a65c_grow_92f84_20 (t0 : TS) (o0 : Nat) (x1 : Int32) (x2 : Int32) (P : PS) : Option (Option Nat × PS) := bd (hm_J8_newLength_cabcc  P x2 (x1 - x2) (x2 >>> ((1 : Int32) &&& 31))) (fun r_102 P_101 => ck (kk P_101 o0 0) (nn (pR P_101 o0 1) (fun b_105 => bd (hm_J7_copyOf_1904c t0  P_101 b_105 r_102) (fun o_107 P_106 => ck (kk P_106 o0 0) (lt_ (pRu P_106 o0 1 o_107) (fun P_110 => some (o_107, P_110)))))))
def hm_Jx4a65c_grow_92f84 (t0 : TS) (P : PS) (th : Nat) (a1 : Int32) : Option (Option Nat × PS) := ck (kk P th 0) (nn (pR P th 1) (fun b_212 => ck (kkO t0 P b_212) (lt_ ((nI (lenO t0 P b_212))) (fun x2_214 => if (0 : Int32) < x2_214 then (hm_Jx4a65c_grow_92f84_20 t0  th a1 x2_214 P) else (nn (pR P th 1) (fun b_215 => if some b_215 = some t0.1 then (lt_ (pZ P) (fun z_216 => ck (vle (if (10 : Int32) < a1 then a1 else (10 : Int32)) 64) (lt_ (pNew P 17 ((if (10 : Int32) < a1 then a1 else (10 : Int32))).toNatClampNeg) (fun P_218 => ck (kk P_218 th 0) (lt_ (pRu P_218 th 1 (some z_216)) (fun P_220 => some ((some z_216), P_220))))))) else (hm_Jx4a65c_grow_92f84_20 t0  th a1 x2_214 P)))))))
abbrev wu_Jx4a65c_grow_92f84 : List Cond := .code yJx4a65c_grow_92f84 cJx4a65c_grow_92f84 4 (some (.array (.object "java/lang/Object"))) :: wsL_law
theorem ud_Jx4a65c_grow_92f84 : yJx4a65c_grow_92f84.cls = RJx4a65c ∧ yJx4a65c_grow_92f84.cls ≠ "java/lang/invoke/MethodHandle" ∧ yJx4a65c_grow_92f84.cls ≠ "java/lang/invoke/VarHandle" ∧ (parseMethodDescriptor yJx4a65c_grow_92f84.desc).map (fun d => d.parameters.length) = some 1 := by decide +kernel
abbrev rmc_Jx4a65c_grow_92f84 : Room := { frames := 3, cells := 1, slots := 64, locals := 84 }
set_option maxHeartbeats 4000000 in
set_option maxRecDepth 100000 in
theorem hcc_Jx4a65c_grow_92f84 (l : Launch) (D : va_G) (cs : Nat → ClassId) (t0 : TS) (P0 T : PS) (th : Nat) (a1 : Int32) (r0 : Option Nat) (h : hm_Jx4a65c_grow_92f84 t0 P0 th a1 = some (r0, T)) : MetCQ l yJx4a65c_grow_92f84 wu_Jx4a65c_grow_92f84 rmc_Jx4a65c_grow_92f84 D cs t0 [.ref th, .int a1] P0 T r0 1 64 := by
  refine co_start (own := RJx4a65c) (ty := (some (.array (.object "java/lang/Object")))) (cc := cJx4a65c_grow_92f84) (maxL := 4) ⟨by decide, rfl⟩ rfl (Nat.le_of_ble_eq_true rfl) ?_
  intro p e s m args below meth c ls cx hnm hl w
  have hx := cx.1
  have hb := cx.2.1
  have hts := cx.2.2.2.1
  have hown := cx.2.2.2.2.1
  have hml := cx.2.2.2.2.2.2
  have hsub : ∀ w ∈ wsL_law, w ∈ wu_Jx4a65c_grow_92f84 := fun _ hq => List.mem_cons_of_mem _ hq
  have hl : lv_has ls 4 [(0, .ref th), (1, .int a1)] := hl
  have J20 : ∀ (o0 : Nat) (x1 : Int32) (x2 : Int32) (P : PS), hm_Jx4a65c_grow_92f84_20 t0  o0 x1 x2 P = some (r0, T) → cGo p l e rmc_Jx4a65c_grow_92f84 s m args below meth c 4 D cs t0 (pA P0) (cQQ below D cs P0 args s 1 64 r0 T) 0 0 20 [(0, .ref o0), (1, .int x1), (2, .int x2)] [] P := by
    intro o0 x1 x2 P h H locs ls hl w
    unfold hm_Jx4a65c_grow_92f84_20 at h
    refine lv_iload_n hx hb dJx4a65c_grow_92f84_20 rfl (lv_at hl 2 rfl) ?_
    refine lv_iload_n hx hb dJx4a65c_grow_92f84_21 rfl (lv_at hl 1 rfl) ?_
    refine lv_iload_n hx hb dJx4a65c_grow_92f84_22 rfl (lv_at hl 2 rfl) ?_
    refine lv_isub hx hb dJx4a65c_grow_92f84_23 ?_
    refine lv_iload_n hx hb dJx4a65c_grow_92f84_24 rfl (lv_at hl 2 rfl) ?_
    refine lv_iconst (v := (1 : Int32)) hx hb dJx4a65c_grow_92f84_25 (by decide) ?_
    refine lv_ishr hx hb dJx4a65c_grow_92f84_26 ?_
    replace h := bd_e h
    obtain ⟨r_102, P_101, hc_103, h⟩ := h
    refine cc_i (cr_S (As := [.int x2, .int (x1 - x2), .int (x2 >>> ((1 : Int32) &&& 31))]) (rest := []) cx (hcc_J8_newLength_cabcc l D cs t0  P P_101 x2 (x1 - x2) (x2 >>> ((1 : Int32) &&& 31)) r_102 hc_103) (va_cwS 3 hts (uGS uw_J8_newLength_cabcc ul_RJx4a65c_73 ut_J8_newLength_cabcc un_RJ8) rfl rfl rfl ud_J8_newLength_cabcc.2 ⟨Nat.le_of_ble_eq_true rfl, Nat.le_of_ble_eq_true rfl⟩) w rfl hl.1 rfl (Nat.le_of_ble_eq_true rfl) dJx4a65c_grow_92f84_27 ⟨(Nat.le_of_ble_eq_true rfl), (Nat.le_of_ble_eq_true rfl)⟩) (fun H locs w => ?_)
    refine lv_istore_n (lv' := [(3, .int r_102), (0, .ref o0), (1, .int x1), (2, .int x2)]) hx hb dJx4a65c_grow_92f84_30 rfl hl (by decide) (rfl) (fun ls hl => ?_)
    refine lv_aload_n hx hb dJx4a65c_grow_92f84_31 rfl (lv_at hl 1 rfl) ?_
    refine lv_aload_n hx hb dJx4a65c_grow_92f84_32 rfl (lv_at hl 1 rfl) ?_
    replace h := ck_e h
    obtain ⟨hk_104, h⟩ := h
    replace h := nn_e h
    obtain ⟨b_105, hbb_105, h⟩ := h
    refine cw_getS cx hsub w kT0 hk_104 1 (by decide) hbb_105 ⟨hsub _ uf_RJx4a65c_9, Or.inl rfl⟩ dJx4a65c_grow_92f84_33 ?_
    refine lv_iload_n hx hb dJx4a65c_grow_92f84_36 rfl (lv_at hl 0 rfl) ?_
    replace h := bd_e h
    obtain ⟨o_107, P_106, hc_108, h⟩ := h
    refine cc_q (cr_S (As := [.ref b_105, .int r_102]) (rest := [.ref o0]) cx (hcc_J7_copyOf_1904c l D cs t0  P_101 P_106 b_105 r_102 o_107 hc_108) (va_cwS 2 hts (uGS uw_J7_copyOf_1904c ul_RJx4a65c_66 ut_J7_copyOf_1904c un_RJ7) rfl rfl rfl ud_J7_copyOf_1904c.2 ⟨Nat.le_of_ble_eq_true rfl, Nat.le_of_ble_eq_true rfl⟩) w rfl hl.1 rfl (Nat.le_of_ble_eq_true rfl) dJx4a65c_grow_92f84_37 ⟨(Nat.le_of_ble_eq_true rfl), (Nat.le_of_ble_eq_true rfl)⟩) (fun H locs w => ?_)
    refine lv_dup_x1 hx hb dJx4a65c_grow_92f84_40 (va_rf_cat _) rfl ?_
    replace h := ck_e h
    obtain ⟨hk_109, h⟩ := h
    replace h := lt_e h
    obtain ⟨P_110, eP_110, h⟩ := h
    refine cw_putR cx hsub w kT0 hk_109 1 (v := o_107) eP_110 (by decide) (by first | exact Or.inl ⟨_, rfl⟩ | exact Or.inr ⟨_, rfl⟩) (Or.inl rfl) ⟨hsub _ uf_RJx4a65c_9, Or.inl rfl⟩ dJx4a65c_grow_92f84_41 (fun H locs w => ?_)
    refine W.widen (k := 1) (n := 64) (Nat.le_of_ble_eq_true rfl) (Nat.le_of_ble_eq_true rfl) ?_
    exact cw_aret cx (by first | exact Or.inl ⟨_, rfl⟩ | exact Or.inr ⟨_, rfl⟩) (v := o_107) (rt_e h) w dJx4a65c_grow_92f84_44
  have hP0 : P0 = P0 := rfl
  unfold hm_Jx4a65c_grow_92f84 at h
  refine lv_aload_n hx hb dJx4a65c_grow_92f84_0 rfl (lv_at hl 0 rfl) ?_
  replace h := ck_e h
  obtain ⟨hk_211, h⟩ := h
  replace h := nn_e h
  obtain ⟨b_212, hbb_212, h⟩ := h
  refine cw_getS cx hsub w kT0 hk_211 1 (by decide) hbb_212 ⟨hsub _ uf_RJx4a65c_9, Or.inl rfl⟩ dJx4a65c_grow_92f84_1 ?_
  replace h := ck_e h
  obtain ⟨hq_213, h⟩ := h
  refine cw_alenO cx w hq_213 dJx4a65c_grow_92f84_4 ?_
  replace h := lt_e h
  obtain ⟨x2_214, ex2_214, h⟩ := h
  refine top_i ex2_214 ?_
  refine lv_istore_n (lv' := [(2, .int x2_214), (0, .ref th), (1, .int a1)]) hx hb dJx4a65c_grow_92f84_5 rfl hl (by decide) (rfl) (fun ls hl => ?_)
  refine lv_iload_n hx hb dJx4a65c_grow_92f84_6 rfl (lv_at hl 0 rfl) ?_
  refine lv_if_gt (tgt := 20) hx hb dJx4a65c_grow_92f84_7 (by decide) (fun q => ?_) (fun q => ?_)
  · replace h := br_p q h
    refine W.widen (k := 0) (n := 0) (Nat.le_of_ble_eq_true rfl) (Nat.le_of_ble_eq_true rfl) ?_
    exact J20  th a1 x2_214 P0 h _ _ _ (lv_sub hl [1, 2, 0] rfl) w
  · replace h := br_n q h
    refine lv_aload_n hx hb dJx4a65c_grow_92f84_10 rfl (lv_at hl 1 rfl) ?_
    replace h := nn_e h
    obtain ⟨b_215, hbb_215, h⟩ := h
    refine cw_getS cx hsub w kT0 hk_211 1 (by decide) hbb_215 ⟨hsub _ uf_RJx4a65c_9, Or.inl rfl⟩ dJx4a65c_grow_92f84_11 ?_
    refine cw_dflt cx hsub w uf_RJx4a65c_39 dJx4a65c_grow_92f84_14 ?_
    refine lv_acmp_eq (rx := some b_215) (ry := some t0.1) (tgt := 45) hx hb dJx4a65c_grow_92f84_17 (by decide) (fun q => ?_) (fun q => ?_)
    · replace h := br_p q h
      refine lv_aload_n hx hb dJx4a65c_grow_92f84_45 rfl (lv_at hl 1 rfl) ?_
      refine lv_bipush (v := (10 : Int32)) hx hb dJx4a65c_grow_92f84_46 (by decide) ?_
      refine lv_iload_n hx hb dJx4a65c_grow_92f84_48 rfl (lv_at hl 2 rfl) ?_
      refine cw_max cx hsub hl.1 ul_RJx4a65c_79 (Nat.le_of_ble_eq_true rfl) (Nat.le_of_ble_eq_true rfl) (Nat.le_of_ble_eq_true rfl) (Nat.le_of_ble_eq_true rfl) dJx4a65c_grow_92f84_49 ?_
      replace h := lt_e h
      obtain ⟨z_216, ez_216, h⟩ := h
      replace h := ck_e h
      obtain ⟨hq_217, h⟩ := h
      replace h := lt_e h
      obtain ⟨P_218, eP_218, h⟩ := h
      refine cw_newq cx hsub w (d := 17) (j := 6) rfl (fun _ _ h => pE_o h) (by decide) (vle_n hq_217) (Nat.le_trans (vle_b hq_217) (by decide)) eP_218 (hsub _ ucl_RJx4a65c_7) (Nat.le_of_ble_eq_true rfl) (Nat.le_trans (Nat.add_le_add_left (vle_b hq_217) _) (Nat.le_of_ble_eq_true rfl)) dJx4a65c_grow_92f84_52 (fun H w => ?_)
      refine W.widen (k := 1) (n := 64) (Nat.le_of_ble_eq_true rfl) (Nat.add_le_add_left (vle_b hq_217) _) ?_
      have hkz_216 : kk P_218 z_216 17 = true := by rw [ez_216]; exact kk_new eP_218
      rw [← ez_216]
      refine lv_dup_x1 hx hb dJx4a65c_grow_92f84_55 rfl rfl ?_
      replace h := ck_e h
      obtain ⟨hk_219, h⟩ := h
      replace h := lt_e h
      obtain ⟨P_220, eP_220, h⟩ := h
      refine cw_putR cx hsub w kT0 hk_219 1 (v := (some z_216)) eP_220 (by decide) (by first | exact Or.inl ⟨_, rfl⟩ | exact Or.inr ⟨_, rfl⟩) (Or.inl rfl) ⟨hsub _ uf_RJx4a65c_9, Or.inl rfl⟩ dJx4a65c_grow_92f84_56 (fun H locs w => ?_)
      refine W.widen (k := 1) (n := 64) (Nat.le_of_ble_eq_true rfl) (Nat.le_of_ble_eq_true rfl) ?_
      exact cw_aret cx (by first | exact Or.inl ⟨_, rfl⟩ | exact Or.inr ⟨_, rfl⟩) (v := (some z_216)) (rt_e h) w dJx4a65c_grow_92f84_59
    · replace h := br_n q h
      refine W.widen (k := 0) (n := 0) (Nat.le_of_ble_eq_true rfl) (Nat.le_of_ble_eq_true rfl) ?_
      exact J20  th a1 x2_214 P0 h _ _ _ (lv_sub hl [1, 2, 0] rfl) w
def hm_Jx4a65c_grow_d5877 (t0 : TS) (P : PS) (th : Nat) : Option (Option Nat × PS) := ck (kk P th 0) (bd (hm_Jx4a65c_grow_92f84 t0  P th ((pI P th 2) + (1 : Int32))) (fun o_103 P_102 => some (o_103, P_102)))
abbrev wu_Jx4a65c_grow_d5877 : List Cond := .code yJx4a65c_grow_d5877 cJx4a65c_grow_d5877 1 (some (.array (.object "java/lang/Object"))) :: wsL_law
theorem ud_Jx4a65c_grow_d5877 : yJx4a65c_grow_d5877.cls = RJx4a65c ∧ yJx4a65c_grow_d5877.cls ≠ "java/lang/invoke/MethodHandle" ∧ yJx4a65c_grow_d5877.cls ≠ "java/lang/invoke/VarHandle" ∧ (parseMethodDescriptor yJx4a65c_grow_d5877.desc).map (fun d => d.parameters.length) = some 0 := by decide +kernel
abbrev rmc_Jx4a65c_grow_d5877 : Room := { frames := 4, cells := 1, slots := 64, locals := 107 }
set_option maxHeartbeats 4000000 in
set_option maxRecDepth 100000 in
theorem hcc_Jx4a65c_grow_d5877 (l : Launch) (D : va_G) (cs : Nat → ClassId) (t0 : TS) (P0 T : PS) (th : Nat) (r0 : Option Nat) (h : hm_Jx4a65c_grow_d5877 t0 P0 th = some (r0, T)) : MetCQ l yJx4a65c_grow_d5877 wu_Jx4a65c_grow_d5877 rmc_Jx4a65c_grow_d5877 D cs t0 [.ref th] P0 T r0 1 64 := by
  refine co_start (own := RJx4a65c) (ty := (some (.array (.object "java/lang/Object")))) (cc := cJx4a65c_grow_d5877) (maxL := 1) ⟨by decide, rfl⟩ rfl (Nat.le_of_ble_eq_true rfl) ?_
  intro p e s m args below meth c ls cx hnm hl w
  have hx := cx.1
  have hb := cx.2.1
  have hts := cx.2.2.2.1
  have hown := cx.2.2.2.2.1
  have hml := cx.2.2.2.2.2.2
  have hsub : ∀ w ∈ wsL_law, w ∈ wu_Jx4a65c_grow_d5877 := fun _ hq => List.mem_cons_of_mem _ hq
  have hl : lv_has ls 1 [(0, .ref th)] := hl
  have hP0 : P0 = P0 := rfl
  unfold hm_Jx4a65c_grow_d5877 at h
  refine lv_aload_n hx hb dJx4a65c_grow_d5877_0 rfl (lv_at hl 0 rfl) ?_
  refine lv_aload_n hx hb dJx4a65c_grow_d5877_1 rfl (lv_at hl 0 rfl) ?_
  replace h := ck_e h
  obtain ⟨hk_101, h⟩ := h
  refine cw_getI cx hsub w kT0 hk_101 2 (by decide) ⟨hsub _ uf_RJx4a65c_48, Or.inl rfl⟩ dJx4a65c_grow_d5877_2 ?_
  refine lv_iconst (v := (1 : Int32)) hx hb dJx4a65c_grow_d5877_5 (by decide) ?_
  refine lv_iadd hx hb dJx4a65c_grow_d5877_6 ?_
  replace h := bd_e h
  obtain ⟨o_103, P_102, hc_104, h⟩ := h
  refine cc_q (cr_V (As := [.int ((pI P0 th 2) + (1 : Int32))]) (rest := []) cx (hcc_Jx4a65c_grow_92f84 l D cs t0  P0 P_102 th ((pI P0 th 2) + (1 : Int32)) o_103 hc_104) kT0 hk_101 (cwV 1 hts (uG uw_Jx4a65c_grow_92f84 ul_RJx4a65c_69 ui_Jx4a65c_grow_92f84 us_RJx4a65c_Jx4a65c_grow_92f84 un_RJx4a65c) rfl rfl rfl ud_Jx4a65c_grow_92f84 ⟨Nat.le_of_ble_eq_true rfl, Nat.le_of_ble_eq_true rfl⟩) w rfl hl.1 rfl (Nat.le_of_ble_eq_true rfl) dJx4a65c_grow_d5877_7 ⟨(Nat.le_of_ble_eq_true rfl), (Nat.le_of_ble_eq_true rfl)⟩) (fun H locs w => ?_)
  refine W.widen (k := 1) (n := 64) (Nat.le_of_ble_eq_true rfl) (Nat.le_of_ble_eq_true rfl) ?_
  exact cw_aret cx (by first | exact Or.inl ⟨_, rfl⟩ | exact Or.inr ⟨_, rfl⟩) (v := o_103) (rt_e h) w dJx4a65c_grow_d5877_10
def hm_Jx4a65c_add_72be8_11 (t0 : TS) (o0 : Nat) (o1 : Nat) (o2 : Option Nat) (x3 : Int32) (P : PS) : Option (Int32 × PS) := nn o2 (fun b_101 => ck (kk P b_101 17) (ck (vin x3 (pN P b_101)) (ck (isO P o1) (lt_ (pRu P b_101 (x3).toNatClampNeg (some o1)) (fun P_105 => ck (kk P_105 o0 0) (lt_ (pIu P_105 o0 2 (x3 + (1 : Int32))) (fun P_107 => some ((0 : Int32), P_107))))))))
def hm_Jx4a65c_add_72be8 (t0 : TS) (P : PS) (th : Nat) (a1 : Nat) (a2 : Nat) (a3 : Int32) : Option (Int32 × PS) := ck (kkO t0 P a2) (if a3 = (nI (lenO t0 P a2)) then (bd (hm_Jx4a65c_grow_d5877 t0  P th) (fun o_210 P_209 => ck (kk P th 0) (hm_Jx4a65c_add_72be8_11 t0  th a1 o_210 a3 P_209))) else (hm_Jx4a65c_add_72be8_11 t0  th a1 (some a2) a3 P))
abbrev wu_Jx4a65c_add_72be8 : List Cond := .code yJx4a65c_add_72be8 cJx4a65c_add_72be8 4 none :: wsL_law
theorem ud_Jx4a65c_add_72be8 : yJx4a65c_add_72be8.cls = RJx4a65c ∧ yJx4a65c_add_72be8.cls ≠ "java/lang/invoke/MethodHandle" ∧ yJx4a65c_add_72be8.cls ≠ "java/lang/invoke/VarHandle" ∧ (parseMethodDescriptor yJx4a65c_add_72be8.desc).map (fun d => d.parameters.length) = some 3 := by decide +kernel
abbrev rmc_Jx4a65c_add_72be8 : Room := { frames := 5, cells := 1, slots := 64, locals := 127 }
set_option maxHeartbeats 4000000 in
set_option maxRecDepth 100000 in
theorem hcc_Jx4a65c_add_72be8 (l : Launch) (D : va_G) (cs : Nat → ClassId) (t0 : TS) (P0 T : PS) (th : Nat) (a1 : Nat) (a2 : Nat) (a3 : Int32) (r0 : Int32) (h : hm_Jx4a65c_add_72be8 t0 P0 th a1 a2 a3 = some (r0, T)) : MetCV l yJx4a65c_add_72be8 wu_Jx4a65c_add_72be8 rmc_Jx4a65c_add_72be8 D cs t0 [.ref th, .ref a1, .ref a2, .int a3] P0 T r0 1 64 := by
  refine co_start (own := RJx4a65c) (ty := none) (cc := cJx4a65c_add_72be8) (maxL := 4) ⟨by decide, rfl⟩ rfl (Nat.le_of_ble_eq_true rfl) ?_
  intro p e s m args below meth c ls cx hnm hl w
  have hx := cx.1
  have hb := cx.2.1
  have hts := cx.2.2.2.1
  have hown := cx.2.2.2.2.1
  have hml := cx.2.2.2.2.2.2
  have hsub : ∀ w ∈ wsL_law, w ∈ wu_Jx4a65c_add_72be8 := fun _ hq => List.mem_cons_of_mem _ hq
  have hl : lv_has ls 4 [(0, .ref th), (1, .ref a1), (2, .ref a2), (3, .int a3)] := hl
  have J11 : ∀ (o0 : Nat) (o1 : Nat) (o2 : Option Nat) (x3 : Int32) (P : PS), hm_Jx4a65c_add_72be8_11 t0  o0 o1 o2 x3 P = some (r0, T) → cGo p l e rmc_Jx4a65c_add_72be8 s m args below meth c 4 D cs t0 (pA P0) (cQV below D cs P0 args s 1 64 r0 T) 1 64 11 [(0, .ref o0), (1, .ref o1), (2, va_rf o2), (3, .int x3)] [] P := by
    intro o0 o1 o2 x3 P h H locs ls hl w
    unfold hm_Jx4a65c_add_72be8_11 at h
    refine lq_aload_n hx hb dJx4a65c_add_72be8_11 rfl (lv_at hl 2 rfl) ?_
    refine lv_iload_n hx hb dJx4a65c_add_72be8_12 rfl (lv_at hl 3 rfl) ?_
    refine lv_aload_n hx hb dJx4a65c_add_72be8_13 rfl (lv_at hl 1 rfl) ?_
    replace h := nn_e h
    obtain ⟨b_101, hbb_101, h⟩ := h
    subst hbb_101
    have hl : lv_has ls 4 [(0, .ref o0), (1, .ref o1), (2, .ref b_101), (3, .int x3)] := hl
    refine W.eq (g2 := F0 m _ ls [.ref o1, .int x3, .ref b_101]) rfl ?_
    replace h := ck_e h
    obtain ⟨hk_102, h⟩ := h
    replace h := ck_e h
    obtain ⟨hq_103, h⟩ := h
    replace h := ck_e h
    obtain ⟨hq_104, h⟩ := h
    replace h := lt_e h
    obtain ⟨P_105, eP_105, h⟩ := h
    refine cw_oast cx w hk_102 hq_103 hq_104 eP_105 dJx4a65c_add_72be8_14 (fun H locs w => ?_)
    refine lv_aload_n hx hb dJx4a65c_add_72be8_15 rfl (lv_at hl 0 rfl) ?_
    refine lv_iload_n hx hb dJx4a65c_add_72be8_16 rfl (lv_at hl 3 rfl) ?_
    refine lv_iconst (v := (1 : Int32)) hx hb dJx4a65c_add_72be8_17 (by decide) ?_
    refine lv_iadd hx hb dJx4a65c_add_72be8_18 ?_
    replace h := ck_e h
    obtain ⟨hk_106, h⟩ := h
    replace h := lt_e h
    obtain ⟨P_107, eP_107, h⟩ := h
    refine cw_putI cx hsub w kT0 hk_106 2 eP_107 ⟨by decide, by decide, rfl⟩ (Or.inl rfl) ⟨hsub _ uf_RJx4a65c_48, Or.inl rfl⟩ dJx4a65c_add_72be8_19 (fun H locs w => ?_)
    refine W.widen (k := 1) (n := 64) (Nat.le_of_ble_eq_true rfl) (Nat.le_of_ble_eq_true rfl) ?_
    exact cw_vret cx (rt_e h) w dJx4a65c_add_72be8_22
  have hP0 : P0 = P0 := rfl
  unfold hm_Jx4a65c_add_72be8 at h
  refine lv_iload_n hx hb dJx4a65c_add_72be8_0 rfl (lv_at hl 3 rfl) ?_
  refine lv_aload_n hx hb dJx4a65c_add_72be8_1 rfl (lv_at hl 2 rfl) ?_
  replace h := ck_e h
  obtain ⟨hq_208, h⟩ := h
  refine cw_alenO cx w hq_208 dJx4a65c_add_72be8_2 ?_
  refine lv_icmp_ne (tgt := 11) hx hb dJx4a65c_add_72be8_3 (by decide) (fun q => ?_) (fun q => ?_)
  · replace h := br_n q h
    refine W.widen (k := 1) (n := 64) (Nat.le_of_ble_eq_true rfl) (Nat.le_of_ble_eq_true rfl) ?_
    exact J11  th a1 (some a2) a3 P0 h _ _ _ (lv_sub hl [0, 1, 2, 3] rfl) w
  · replace h := br_p q h
    refine lv_aload_n hx hb dJx4a65c_add_72be8_6 rfl (lv_at hl 0 rfl) ?_
    replace h := bd_e h
    obtain ⟨o_210, P_209, hc_211, h⟩ := h
    replace h := ck_e h
    obtain ⟨hk_212, h⟩ := h
    refine cc_q (cr_V (As := []) (rest := []) cx (hcc_Jx4a65c_grow_d5877 l D cs t0  P0 P_209 th o_210 hc_211) kT0 hk_212 (cwV 0 hts (uG uw_Jx4a65c_grow_d5877 ul_RJx4a65c_129 ui_Jx4a65c_grow_d5877 us_RJx4a65c_Jx4a65c_grow_d5877 un_RJx4a65c) rfl rfl rfl ud_Jx4a65c_grow_d5877 ⟨Nat.le_of_ble_eq_true rfl, Nat.le_of_ble_eq_true rfl⟩) w rfl hl.1 rfl (Nat.le_of_ble_eq_true rfl) dJx4a65c_add_72be8_7 ⟨(Nat.le_of_ble_eq_true rfl), (Nat.le_of_ble_eq_true rfl)⟩) (fun H locs w => ?_)
    refine lq_astore_n (lv' := [(2, va_rf o_210), (0, .ref th), (1, .ref a1), (3, .int a3)]) hx hb dJx4a65c_add_72be8_10 rfl hl (by decide) (fun v hv => by subst hv; exact (rfl)) (fun ls hl => ?_)
    refine W.widen (k := 1) (n := 64) (Nat.le_of_ble_eq_true rfl) (Nat.le_of_ble_eq_true rfl) ?_
    exact J11  th a1 o_210 a3 P_209 h _ _ _ (lv_sub hl [1, 2, 0, 3] rfl) w
def hm_Jx4a65c_add_9ea2d (t0 : TS) (P : PS) (th : Nat) (a1 : Nat) : Option (Int32 × PS) := ck (kk P th 0) (lt_ (pIu P th 0 ((pI P th 0) + (1 : Int32))) (fun P_102 => nn (pR P_102 th 1) (fun b_104 => bd (hm_Jx4a65c_add_72be8 t0  P_102 th a1 b_104 (pI P_102 th 2)) (fun _ P_105 => some ((1 : Int32), P_105)))))
abbrev wu_Jx4a65c_add_9ea2d : List Cond := .code yJx4a65c_add_9ea2d cJx4a65c_add_9ea2d 2 (some .boolean) :: wsL_law
theorem ud_Jx4a65c_add_9ea2d : yJx4a65c_add_9ea2d.cls = RJx4a65c ∧ yJx4a65c_add_9ea2d.cls ≠ "java/lang/invoke/MethodHandle" ∧ yJx4a65c_add_9ea2d.cls ≠ "java/lang/invoke/VarHandle" ∧ (parseMethodDescriptor yJx4a65c_add_9ea2d.desc).map (fun d => d.parameters.length) = some 1 := by decide +kernel
abbrev rmc_Jx4a65c_add_9ea2d : Room := { frames := 6, cells := 1, slots := 64, locals := 150 }
set_option maxHeartbeats 4000000 in
set_option maxRecDepth 100000 in
theorem hcc_Jx4a65c_add_9ea2d (l : Launch) (D : va_G) (cs : Nat → ClassId) (t0 : TS) (P0 T : PS) (th : Nat) (a1 : Nat) (r0 : Int32) (h : hm_Jx4a65c_add_9ea2d t0 P0 th a1 = some (r0, T)) : MetCI l yJx4a65c_add_9ea2d wu_Jx4a65c_add_9ea2d rmc_Jx4a65c_add_9ea2d D cs t0 [.ref th, .ref a1] P0 T r0 1 64 := by
  refine co_start (own := RJx4a65c) (ty := (some .boolean)) (cc := cJx4a65c_add_9ea2d) (maxL := 2) ⟨by decide, rfl⟩ rfl (Nat.le_of_ble_eq_true rfl) ?_
  intro p e s m args below meth c ls cx hnm hl w
  have hx := cx.1
  have hb := cx.2.1
  have hts := cx.2.2.2.1
  have hown := cx.2.2.2.2.1
  have hml := cx.2.2.2.2.2.2
  have hsub : ∀ w ∈ wsL_law, w ∈ wu_Jx4a65c_add_9ea2d := fun _ hq => List.mem_cons_of_mem _ hq
  have hl : lv_has ls 2 [(0, .ref th), (1, .ref a1)] := hl
  have hP0 : P0 = P0 := rfl
  unfold hm_Jx4a65c_add_9ea2d at h
  refine lv_aload_n hx hb dJx4a65c_add_9ea2d_0 rfl (lv_at hl 0 rfl) ?_
  refine lv_dup hx hb dJx4a65c_add_9ea2d_1 rfl ?_
  replace h := ck_e h
  obtain ⟨hk_101, h⟩ := h
  refine cw_getI cx hsub w kT0 hk_101 0 (by decide) ⟨hsub _ uf_RJx4a65c_63, Or.inr (hsub _ usf_mod)⟩ dJx4a65c_add_9ea2d_2 ?_
  refine lv_iconst (v := (1 : Int32)) hx hb dJx4a65c_add_9ea2d_5 (by decide) ?_
  refine lv_iadd hx hb dJx4a65c_add_9ea2d_6 ?_
  replace h := lt_e h
  obtain ⟨P_102, eP_102, h⟩ := h
  refine cw_putI cx hsub w kT0 hk_101 0 eP_102 ⟨by decide, by decide, rfl⟩ (Or.inl rfl) ⟨hsub _ uf_RJx4a65c_63, Or.inr (hsub _ usf_mod)⟩ dJx4a65c_add_9ea2d_7 (fun H locs w => ?_)
  refine lv_aload_n hx hb dJx4a65c_add_9ea2d_10 rfl (lv_at hl 0 rfl) ?_
  refine lv_aload_n hx hb dJx4a65c_add_9ea2d_11 rfl (lv_at hl 1 rfl) ?_
  refine lv_aload_n hx hb dJx4a65c_add_9ea2d_12 rfl (lv_at hl 0 rfl) ?_
  have hk_103 : kk P_102 th 0 = true := by rw [eP_102]; exact hk_101
  replace h := nn_e h
  obtain ⟨b_104, hbb_104, h⟩ := h
  refine cw_getS cx hsub w kT0 hk_103 1 (by decide) hbb_104 ⟨hsub _ uf_RJx4a65c_9, Or.inl rfl⟩ dJx4a65c_add_9ea2d_13 ?_
  refine lv_aload_n hx hb dJx4a65c_add_9ea2d_16 rfl (lv_at hl 0 rfl) ?_
  refine cw_getI cx hsub w kT0 hk_103 2 (by decide) ⟨hsub _ uf_RJx4a65c_48, Or.inl rfl⟩ dJx4a65c_add_9ea2d_17 ?_
  replace h := bd_e h
  obtain ⟨r_106, P_105, hc_107, h⟩ := h
  refine cc_v (cr_V (As := [.ref a1, .ref b_104, .int (pI P_102 th 2)]) (rest := []) cx (hcc_Jx4a65c_add_72be8 l D cs t0  P_102 P_105 th a1 b_104 (pI P_102 th 2) r_106 hc_107) kT0 hk_103 (cwV 3 hts (uG uw_Jx4a65c_add_72be8 ul_RJx4a65c_131 ui_Jx4a65c_add_72be8 us_RJx4a65c_Jx4a65c_add_72be8 un_RJx4a65c) rfl rfl rfl ud_Jx4a65c_add_72be8 ⟨Nat.le_of_ble_eq_true rfl, Nat.le_of_ble_eq_true rfl⟩) w rfl hl.1 rfl (Nat.le_of_ble_eq_true rfl) dJx4a65c_add_9ea2d_20 ⟨(Nat.le_of_ble_eq_true rfl), (Nat.le_of_ble_eq_true rfl)⟩) (fun H locs w => ?_)
  refine lv_iconst (v := (1 : Int32)) hx hb dJx4a65c_add_9ea2d_23 (by decide) ?_
  refine W.widen (k := 1) (n := 64) (Nat.le_of_ble_eq_true rfl) (Nat.le_of_ble_eq_true rfl) ?_
  exact cw_zret cx (Or.inr rfl) (rt_e h) w dJx4a65c_add_9ea2d_24
def hm_X4_add (t0 : TS) (P : PS) (th : Nat) (a1 : Nat) : Option (Int32 × PS) := ck (kk P th 5) (nn (pR P th 2) (fun b_102 => bd (hm_Jx4a65c_size_8abf5  P b_102) (fun r_104 P_103 => ck (kk P b_102 0) (lt_ (((1 : Int32) <<< (r_104 &&& 31))) (fun x2_107 => ck (kk P_103 th 5) (nn (pR P_103 th 2) (fun b_109 => bd (hm_Jx4a65c_add_9ea2d t0  P_103 b_109 a1) (fun r_111 P_110 => ck (kk P_103 b_109 0) (ck (kk P_110 a1 2) (if (pI P_110 a1 0) = (0 : Int32) then (ck (kk P_110 th 5) (lt_ (pIu P_110 th 3 ((pI P_110 th 3) ||| x2_107)) (fun P_120 => some ((0 : Int32), P_120)))) else (if (pI P_110 a1 0) = (1 : Int32) then (ck (kk P_110 th 5) (lt_ (pIu P_110 th 4 ((pI P_110 th 4) ||| x2_107)) (fun P_118 => some ((0 : Int32), P_118)))) else (if (pI P_110 a1 0) = (3 : Int32) then (ck (kk P_110 th 5) (lt_ (pIu P_110 th 5 ((pI P_110 th 5) ||| x2_107)) (fun P_116 => some ((0 : Int32), P_116)))) else (some ((0 : Int32), P_110))))))))))))))
abbrev wu_X4_add : List Cond := .code yX4_add cX4_add 3 none :: wsL_law
theorem ud_X4_add : yX4_add.cls = RX4 ∧ yX4_add.cls ≠ "java/lang/invoke/MethodHandle" ∧ yX4_add.cls ≠ "java/lang/invoke/VarHandle" ∧ (parseMethodDescriptor yX4_add.desc).map (fun d => d.parameters.length) = some 1 := by decide +kernel
abbrev rmc_X4_add : Room := { frames := 7, cells := 1, slots := 64, locals := 171 }
set_option maxHeartbeats 4000000 in
set_option maxRecDepth 100000 in
theorem hcc_X4_add (l : Launch) (D : va_G) (cs : Nat → ClassId) (t0 : TS) (P0 T : PS) (th : Nat) (a1 : Nat) (r0 : Int32) (h : hm_X4_add t0 P0 th a1 = some (r0, T)) : MetCV l yX4_add wu_X4_add rmc_X4_add D cs t0 [.ref th, .ref a1] P0 T r0 1 64 := by
  refine co_start (own := RX4) (ty := none) (cc := cX4_add) (maxL := 3) ⟨by decide, rfl⟩ rfl (Nat.le_of_ble_eq_true rfl) ?_
  intro p e s m args below meth c ls cx hnm hl w
  have hx := cx.1
  have hb := cx.2.1
  have hts := cx.2.2.2.1
  have hown := cx.2.2.2.2.1
  have hml := cx.2.2.2.2.2.2
  have hsub : ∀ w ∈ wsL_law, w ∈ wu_X4_add := fun _ hq => List.mem_cons_of_mem _ hq
  have hl : lv_has ls 3 [(0, .ref th), (1, .ref a1)] := hl
  have hP0 : P0 = P0 := rfl
  unfold hm_X4_add at h
  refine lv_iconst (v := (1 : Int32)) hx hb dX4_add_0 (by decide) ?_
  refine lv_aload_n hx hb dX4_add_1 rfl (lv_at hl 0 rfl) ?_
  replace h := ck_e h
  obtain ⟨hk_101, h⟩ := h
  replace h := nn_e h
  obtain ⟨b_102, hbb_102, h⟩ := h
  refine cw_getS cx hsub w kT5 hk_101 2 (by decide) hbb_102 ⟨hsub _ uf_RX4_12, Or.inl rfl⟩ dX4_add_2 ?_
  replace h := bd_e h
  obtain ⟨r_104, P_103, hc_105, h⟩ := h
  replace h := ck_e h
  obtain ⟨hk_106, h⟩ := h
  refine cc_i (cr_V (As := []) (rest := [.int (1 : Int32)]) cx (hcc_Jx4a65c_size_8abf5 l D cs t0  P0 P_103 b_102 r_104 hc_105) kT0 hk_106 (cwV 0 hts (uG uw_Jx4a65c_size_8abf5 ul_RX4_25 ui_Jx4a65c_size_8abf5 us_RJx4a65c_Jx4a65c_size_8abf5 un_RJx4a65c) rfl rfl rfl ud_Jx4a65c_size_8abf5 ⟨Nat.le_of_ble_eq_true rfl, Nat.le_of_ble_eq_true rfl⟩) w rfl hl.1 rfl (Nat.le_of_ble_eq_true rfl) dX4_add_5 ⟨(Nat.le_of_ble_eq_true rfl), (Nat.le_of_ble_eq_true rfl)⟩) (fun H locs w => ?_)
  refine lv_ishl hx hb dX4_add_8 ?_
  replace h := lt_e h
  obtain ⟨x2_107, ex2_107, h⟩ := h
  refine top_i ex2_107 ?_
  refine lv_istore_n (lv' := [(2, .int x2_107), (0, .ref th), (1, .ref a1)]) hx hb dX4_add_9 rfl hl (by decide) (rfl) (fun ls hl => ?_)
  refine lv_aload_n hx hb dX4_add_10 rfl (lv_at hl 1 rfl) ?_
  replace h := ck_e h
  obtain ⟨hk_108, h⟩ := h
  replace h := nn_e h
  obtain ⟨b_109, hbb_109, h⟩ := h
  refine cw_getS cx hsub w kT5 hk_108 2 (by decide) hbb_109 ⟨hsub _ uf_RX4_12, Or.inl rfl⟩ dX4_add_11 ?_
  refine lv_aload_n hx hb dX4_add_14 rfl (lv_at hl 2 rfl) ?_
  replace h := bd_e h
  obtain ⟨r_111, P_110, hc_112, h⟩ := h
  replace h := ck_e h
  obtain ⟨hk_113, h⟩ := h
  refine cc_i (cr_V (As := [.ref a1]) (rest := []) cx (hcc_Jx4a65c_add_9ea2d l D cs t0  P_103 P_110 b_109 a1 r_111 hc_112) kT0 hk_113 (cwV 1 hts (uG uw_Jx4a65c_add_9ea2d ul_RX4_29 ui_Jx4a65c_add_9ea2d us_RJx4a65c_Jx4a65c_add_9ea2d un_RJx4a65c) rfl rfl rfl ud_Jx4a65c_add_9ea2d ⟨Nat.le_of_ble_eq_true rfl, Nat.le_of_ble_eq_true rfl⟩) w rfl hl.1 rfl (Nat.le_of_ble_eq_true rfl) dX4_add_15 ⟨(Nat.le_of_ble_eq_true rfl), (Nat.le_of_ble_eq_true rfl)⟩) (fun H locs w => ?_)
  refine lv_pop hx hb dX4_add_18 rfl ?_
  refine lv_aload_n hx hb dX4_add_19 rfl (lv_at hl 2 rfl) ?_
  replace h := ck_e h
  obtain ⟨hk_114, h⟩ := h
  refine cw_getI cx hsub w kT2 hk_114 0 (by decide) ⟨hsub _ uf_RX4_33, Or.inl rfl⟩ dX4_add_20 ?_
  refine lv_if_ne (tgt := 39) hx hb dX4_add_23 (by decide) (fun q => ?_) (fun q => ?_)
  · replace h := br_n q h
    refine lv_aload_n hx hb dX4_add_39 rfl (lv_at hl 2 rfl) ?_
    refine cw_getI cx hsub w kT2 hk_114 0 (by decide) ⟨hsub _ uf_RX4_33, Or.inl rfl⟩ dX4_add_40 ?_
    refine lv_iconst (v := (1 : Int32)) hx hb dX4_add_43 (by decide) ?_
    refine lv_icmp_ne (tgt := 60) hx hb dX4_add_44 (by decide) (fun q => ?_) (fun q => ?_)
    · replace h := br_n q h
      refine lv_aload_n hx hb dX4_add_60 rfl (lv_at hl 2 rfl) ?_
      refine cw_getI cx hsub w kT2 hk_114 0 (by decide) ⟨hsub _ uf_RX4_33, Or.inl rfl⟩ dX4_add_61 ?_
      refine lv_iconst (v := (3 : Int32)) hx hb dX4_add_64 (by decide) ?_
      refine lv_icmp_ne (tgt := 78) hx hb dX4_add_65 (by decide) (fun q => ?_) (fun q => ?_)
      · replace h := br_n q h
        refine W.widen (k := 1) (n := 64) (Nat.le_of_ble_eq_true rfl) (Nat.le_of_ble_eq_true rfl) ?_
        exact cw_vret cx (rt_e h) w dX4_add_78
      · replace h := br_p q h
        refine lv_aload_n hx hb dX4_add_68 rfl (lv_at hl 1 rfl) ?_
        refine lv_dup hx hb dX4_add_69 rfl ?_
        replace h := ck_e h
        obtain ⟨hk_115, h⟩ := h
        refine cw_getI cx hsub w kT5 hk_115 5 (by decide) ⟨hsub _ uf_RX4_44, Or.inl rfl⟩ dX4_add_70 ?_
        refine lv_iload_n hx hb dX4_add_73 rfl (lv_at hl 0 rfl) ?_
        refine lv_ior hx hb dX4_add_74 ?_
        replace h := lt_e h
        obtain ⟨P_116, eP_116, h⟩ := h
        refine cw_putI cx hsub w kT5 hk_115 5 eP_116 ⟨by decide, by decide, rfl⟩ (Or.inl rfl) ⟨hsub _ uf_RX4_44, Or.inl rfl⟩ dX4_add_75 (fun H locs w => ?_)
        refine W.widen (k := 1) (n := 64) (Nat.le_of_ble_eq_true rfl) (Nat.le_of_ble_eq_true rfl) ?_
        exact cw_vret cx (rt_e h) w dX4_add_78
    · replace h := br_p q h
      refine lv_aload_n hx hb dX4_add_47 rfl (lv_at hl 1 rfl) ?_
      refine lv_dup hx hb dX4_add_48 rfl ?_
      replace h := ck_e h
      obtain ⟨hk_117, h⟩ := h
      refine cw_getI cx hsub w kT5 hk_117 4 (by decide) ⟨hsub _ uf_RX4_41, Or.inl rfl⟩ dX4_add_49 ?_
      refine lv_iload_n hx hb dX4_add_52 rfl (lv_at hl 0 rfl) ?_
      refine lv_ior hx hb dX4_add_53 ?_
      replace h := lt_e h
      obtain ⟨P_118, eP_118, h⟩ := h
      refine cw_putI cx hsub w kT5 hk_117 4 eP_118 ⟨by decide, by decide, rfl⟩ (Or.inl rfl) ⟨hsub _ uf_RX4_41, Or.inl rfl⟩ dX4_add_54 (fun H locs w => ?_)
      refine lv_goto (tgt := 78) hx hb dX4_add_57 (by decide) ?_
      refine W.widen (k := 1) (n := 64) (Nat.le_of_ble_eq_true rfl) (Nat.le_of_ble_eq_true rfl) ?_
      exact cw_vret cx (rt_e h) w dX4_add_78
  · replace h := br_p q h
    refine lv_aload_n hx hb dX4_add_26 rfl (lv_at hl 1 rfl) ?_
    refine lv_dup hx hb dX4_add_27 rfl ?_
    replace h := ck_e h
    obtain ⟨hk_119, h⟩ := h
    refine cw_getI cx hsub w kT5 hk_119 3 (by decide) ⟨hsub _ uf_RX4_38, Or.inl rfl⟩ dX4_add_28 ?_
    refine lv_iload_n hx hb dX4_add_31 rfl (lv_at hl 0 rfl) ?_
    refine lv_ior hx hb dX4_add_32 ?_
    replace h := lt_e h
    obtain ⟨P_120, eP_120, h⟩ := h
    refine cw_putI cx hsub w kT5 hk_119 3 eP_120 ⟨by decide, by decide, rfl⟩ (Or.inl rfl) ⟨hsub _ uf_RX4_38, Or.inl rfl⟩ dX4_add_33 (fun H locs w => ?_)
    refine lv_goto (tgt := 78) hx hb dX4_add_36 (by decide) ?_
    refine W.widen (k := 1) (n := 64) (Nat.le_of_ble_eq_true rfl) (Nat.le_of_ble_eq_true rfl) ?_
    exact cw_vret cx (rt_e h) w dX4_add_78
def hm_X7_init (t0 : TS) (P : PS) (th : Nat) (a1 : Int32) (a2 : Int32) (a3 : Nat) (a4 : Int32) : Option (Int32 × PS) := lt_ (pZ P) (fun z_101 => lt_ (pNew P 0 0) (fun P_102 => bd (hm_Jx4a65c_init_da8c8 t0  P_102 z_101) (fun _ P_103 => ck (kk P_103 th 8) (lt_ (pRu P_103 th 5 (some z_101)) (fun P_107 => lt_ (pIu P_107 th 0 a1) (fun P_109 => lt_ (pIu P_109 th 1 a2) (fun P_111 => lt_ (pRu P_111 th 3 (some a3)) (fun P_113 => lt_ (pIu P_113 th 4 a4) (fun P_115 => bd (hm_X8_kindAbove  P_115 a2) (fun r_117 P_116 => bd (hm_X8_kindAbove  P_116 a2) (fun r_120 P_119 => bd (hm_X8_kindAbove  P_119 r_120) (fun r_123 P_122 => ck (kk P_122 th 8) (lt_ (pIu P_122 th 2 (((((1 : Int32) <<< (a2 &&& 31)) ||| ((1 : Int32) <<< (r_117 &&& 31))) ||| ((1 : Int32) <<< (r_123 &&& 31))) ||| (1 : Int32))) (fun P_126 => some ((0 : Int32), P_126)))))))))))))))
abbrev wu_X7_init : List Cond := .code yX7_init cX7_init 5 none :: wsL_law
theorem ud_X7_init : yX7_init.cls = RX7 ∧ yX7_init.cls ≠ "java/lang/invoke/MethodHandle" ∧ yX7_init.cls ≠ "java/lang/invoke/VarHandle" ∧ (parseMethodDescriptor yX7_init.desc).map (fun d => d.parameters.length) = some 4 := by decide +kernel
abbrev rmc_X7_init : Room := { frames := 4, cells := 1, slots := 3, locals := 100 }
set_option maxHeartbeats 4000000 in
set_option maxRecDepth 100000 in
theorem hcc_X7_init (l : Launch) (D : va_G) (cs : Nat → ClassId) (t0 : TS) (P0 T : PS) (th : Nat) (a1 : Int32) (a2 : Int32) (a3 : Nat) (a4 : Int32) (r0 : Int32) (h : hm_X7_init t0 P0 th a1 a2 a3 a4 = some (r0, T)) : MetCV l yX7_init wu_X7_init rmc_X7_init D cs t0 [.ref th, .int a1, .int a2, .ref a3, .int a4] P0 T r0 1 3 := by
  refine co_start (own := RX7) (ty := none) (cc := cX7_init) (maxL := 5) ⟨by decide, rfl⟩ rfl (Nat.le_of_ble_eq_true rfl) ?_
  intro p e s m args below meth c ls cx hnm hl w
  have hx := cx.1
  have hb := cx.2.1
  have hts := cx.2.2.2.1
  have hown := cx.2.2.2.2.1
  have hml := cx.2.2.2.2.2.2
  have hsub : ∀ w ∈ wsL_law, w ∈ wu_X7_init := fun _ hq => List.mem_cons_of_mem _ hq
  have hl : lv_has ls 5 [(0, .ref th), (1, .int a1), (2, .int a2), (3, .ref a3), (4, .int a4)] := hl
  have hP0 : P0 = P0 := rfl
  unfold hm_X7_init at h
  refine lv_aload_n hx hb dX7_init_0 rfl (lv_at hl 0 rfl) ?_
  refine W.objInit hx hb hown (hts _ (hsub _ ul_RX7_3)) (hts _ (hsub _ uoi_i)) (hts _ (hsub _ uoi_c)) rfl (by rw [hml]; exact hl.1) rfl dX7_init_1 (Nat.le_of_ble_eq_true rfl) (Nat.le_of_ble_eq_true rfl) ?_
  refine W.eq (g2 := F0 m _ ls []) rfl ?_
  refine lv_aload_n hx hb dX7_init_4 rfl (lv_at hl 0 rfl) ?_
  replace h := lt_e h
  obtain ⟨z_101, ez_101, h⟩ := h
  replace h := lt_e h
  obtain ⟨P_102, eP_102, h⟩ := h
  refine cw_new cx hsub w kT0 eP_102 (by decide +kernel) (hsub _ ucl_RX7_9) (hsub _ uin_RJx4a65c) (hsub _ un_RJx4a65c) (Nat.le_of_ble_eq_true rfl) (Nat.le_of_ble_eq_true rfl) dX7_init_5 (fun H w => ?_)
  have hkz_101 : kk P_102 z_101 0 = true := by rw [ez_101]; exact kk_new eP_102
  rw [← ez_101]
  refine lv_dup hx hb dX7_init_8 rfl ?_
  replace h := bd_e h
  obtain ⟨r_104, P_103, hc_105, h⟩ := h
  refine cc_v (cr_I (As := []) (rest := [.ref z_101, .ref th]) cx (hcc_Jx4a65c_init_da8c8 l D cs t0  P_102 P_103 z_101 r_104 hc_105) (cwI 0 hts (uGB uw_Jx4a65c_init_da8c8) rfl rfl rfl (hts _ (hsub _ un_RJx4a65c)) (hts _ (hsub _ ul_RX7_11)) (hts _ (hsub _ ui_Jx4a65c_init_da8c8)) rfl ud_Jx4a65c_init_da8c8.2 ⟨Nat.le_of_ble_eq_true rfl, Nat.le_of_ble_eq_true rfl⟩) w rfl hl.1 rfl (Nat.le_of_ble_eq_true rfl) dX7_init_9 ⟨(Nat.le_of_ble_eq_true rfl), (Nat.le_of_ble_eq_true rfl)⟩) (fun H locs w => ?_)
  replace h := ck_e h
  obtain ⟨hk_106, h⟩ := h
  replace h := lt_e h
  obtain ⟨P_107, eP_107, h⟩ := h
  refine cw_putR cx hsub w kT8 hk_106 5 (v := (some z_101)) eP_107 (by decide) (by first | exact Or.inl ⟨_, rfl⟩ | exact Or.inr ⟨_, rfl⟩) (Or.inr ⟨rfl, hnm, rfl⟩) ⟨hsub _ uf_RX7_12, Or.inl rfl⟩ dX7_init_12 (fun H locs w => ?_)
  refine lv_aload_n hx hb dX7_init_15 rfl (lv_at hl 0 rfl) ?_
  refine lv_iload_n hx hb dX7_init_16 rfl (lv_at hl 1 rfl) ?_
  have hk_108 : kk P_107 th 8 = true := by rw [eP_107]; exact hk_106
  replace h := lt_e h
  obtain ⟨P_109, eP_109, h⟩ := h
  refine cw_putI cx hsub w kT8 hk_108 0 eP_109 ⟨by decide, by decide, rfl⟩ (Or.inr ⟨rfl, hnm, rfl⟩) ⟨hsub _ uf_RX7_18, Or.inl rfl⟩ dX7_init_17 (fun H locs w => ?_)
  refine lv_aload_n hx hb dX7_init_20 rfl (lv_at hl 0 rfl) ?_
  refine lv_iload_n hx hb dX7_init_21 rfl (lv_at hl 2 rfl) ?_
  have hk_110 : kk P_109 th 8 = true := by rw [eP_109]; exact hk_108
  replace h := lt_e h
  obtain ⟨P_111, eP_111, h⟩ := h
  refine cw_putI cx hsub w kT8 hk_110 1 eP_111 ⟨by decide, by decide, rfl⟩ (Or.inr ⟨rfl, hnm, rfl⟩) ⟨hsub _ uf_RX7_22, Or.inl rfl⟩ dX7_init_22 (fun H locs w => ?_)
  refine lv_aload_n hx hb dX7_init_25 rfl (lv_at hl 0 rfl) ?_
  refine lv_aload_n hx hb dX7_init_26 rfl (lv_at hl 3 rfl) ?_
  have hk_112 : kk P_111 th 8 = true := by rw [eP_111]; exact hk_110
  replace h := lt_e h
  obtain ⟨P_113, eP_113, h⟩ := h
  refine cw_putR cx hsub w kT8 hk_112 3 (v := (some a3)) eP_113 (by decide) (by first | exact Or.inl ⟨_, rfl⟩ | exact Or.inr ⟨_, rfl⟩) (Or.inr ⟨rfl, hnm, rfl⟩) ⟨hsub _ uf_RX7_25, Or.inl rfl⟩ dX7_init_27 (fun H locs w => ?_)
  refine lv_aload_n hx hb dX7_init_30 rfl (lv_at hl 0 rfl) ?_
  refine lv_iload hx hb dX7_init_31 (lv_at hl 4 rfl) ?_
  have hk_114 : kk P_113 th 8 = true := by rw [eP_113]; exact hk_112
  replace h := lt_e h
  obtain ⟨P_115, eP_115, h⟩ := h
  refine cw_putI cx hsub w kT8 hk_114 4 eP_115 ⟨by decide, by decide, rfl⟩ (Or.inr ⟨rfl, hnm, rfl⟩) ⟨hsub _ uf_RX7_29, Or.inl rfl⟩ dX7_init_33 (fun H locs w => ?_)
  refine lv_aload_n hx hb dX7_init_36 rfl (lv_at hl 0 rfl) ?_
  refine lv_iconst (v := (1 : Int32)) hx hb dX7_init_37 (by decide) ?_
  refine lv_iload_n hx hb dX7_init_38 rfl (lv_at hl 2 rfl) ?_
  refine lv_ishl hx hb dX7_init_39 ?_
  refine lv_iconst (v := (1 : Int32)) hx hb dX7_init_40 (by decide) ?_
  refine lv_iload_n hx hb dX7_init_41 rfl (lv_at hl 2 rfl) ?_
  replace h := bd_e h
  obtain ⟨r_117, P_116, hc_118, h⟩ := h
  refine cc_i (cr_SN (As := [.int a2]) (rest := [.int (1 : Int32), .int ((1 : Int32) <<< (a2 &&& 31)), .ref th]) cx (hcc_X8_kindAbove l D cs t0  P_115 P_116 a2 r_117 hc_118) ⟨va_cnB (host := "HeardWords") 1 hts (uGB uw_X8_kindAbove) rfl rfl rfl (w.2.2.2.2.2.2.1.2.1 ("HeardWords$Word", 32, yX8_kindAbove, "HeardWords") (by decide +kernel)) (hts _ (hsub _ un_RX8)) ud_X8_kindAbove.2 ⟨Nat.le_of_ble_eq_true rfl, Nat.le_of_ble_eq_true rfl⟩, hts _ (hsub _ ut_X8_kindAbove), trivial⟩ w rfl hl.1 rfl (Nat.le_of_ble_eq_true rfl) dX7_init_42 ⟨(Nat.le_of_ble_eq_true rfl), (Nat.le_of_ble_eq_true rfl)⟩) (fun H locs w => ?_)
  refine lv_ishl hx hb dX7_init_45 ?_
  refine lv_ior hx hb dX7_init_46 ?_
  refine lv_iconst (v := (1 : Int32)) hx hb dX7_init_47 (by decide) ?_
  refine lv_iload_n hx hb dX7_init_48 rfl (lv_at hl 2 rfl) ?_
  replace h := bd_e h
  obtain ⟨r_120, P_119, hc_121, h⟩ := h
  refine cc_i (cr_SN (As := [.int a2]) (rest := [.int (1 : Int32), .int (((1 : Int32) <<< (a2 &&& 31)) ||| ((1 : Int32) <<< (r_117 &&& 31))), .ref th]) cx (hcc_X8_kindAbove l D cs t0  P_116 P_119 a2 r_120 hc_121) ⟨va_cnB (host := "HeardWords") 1 hts (uGB uw_X8_kindAbove) rfl rfl rfl (w.2.2.2.2.2.2.1.2.1 ("HeardWords$Word", 32, yX8_kindAbove, "HeardWords") (by decide +kernel)) (hts _ (hsub _ un_RX8)) ud_X8_kindAbove.2 ⟨Nat.le_of_ble_eq_true rfl, Nat.le_of_ble_eq_true rfl⟩, hts _ (hsub _ ut_X8_kindAbove), trivial⟩ w rfl hl.1 rfl (Nat.le_of_ble_eq_true rfl) dX7_init_49 ⟨(Nat.le_of_ble_eq_true rfl), (Nat.le_of_ble_eq_true rfl)⟩) (fun H locs w => ?_)
  replace h := bd_e h
  obtain ⟨r_123, P_122, hc_124, h⟩ := h
  refine cc_i (cr_SN (As := [.int r_120]) (rest := [.int (1 : Int32), .int (((1 : Int32) <<< (a2 &&& 31)) ||| ((1 : Int32) <<< (r_117 &&& 31))), .ref th]) cx (hcc_X8_kindAbove l D cs t0  P_119 P_122 r_120 r_123 hc_124) ⟨va_cnB (host := "HeardWords") 1 hts (uGB uw_X8_kindAbove) rfl rfl rfl (w.2.2.2.2.2.2.1.2.1 ("HeardWords$Word", 32, yX8_kindAbove, "HeardWords") (by decide +kernel)) (hts _ (hsub _ un_RX8)) ud_X8_kindAbove.2 ⟨Nat.le_of_ble_eq_true rfl, Nat.le_of_ble_eq_true rfl⟩, hts _ (hsub _ ut_X8_kindAbove), trivial⟩ w rfl hl.1 rfl (Nat.le_of_ble_eq_true rfl) dX7_init_52 ⟨(Nat.le_of_ble_eq_true rfl), (Nat.le_of_ble_eq_true rfl)⟩) (fun H locs w => ?_)
  refine lv_ishl hx hb dX7_init_55 ?_
  refine lv_ior hx hb dX7_init_56 ?_
  refine lv_iconst (v := (1 : Int32)) hx hb dX7_init_57 (by decide) ?_
  refine lv_ior hx hb dX7_init_58 ?_
  replace h := ck_e h
  obtain ⟨hk_125, h⟩ := h
  replace h := lt_e h
  obtain ⟨P_126, eP_126, h⟩ := h
  refine cw_putI cx hsub w kT8 hk_125 2 eP_126 ⟨by decide, by decide, rfl⟩ (Or.inr ⟨rfl, hnm, rfl⟩) ⟨hsub _ uf_RX7_36, Or.inl rfl⟩ dX7_init_59 (fun H locs w => ?_)
  refine W.widen (k := 1) (n := 3) (Nat.le_of_ble_eq_true rfl) (Nat.le_of_ble_eq_true rfl) ?_
  exact cw_vret cx (rt_e h) w dX7_init_62
def hm_X8_init_140 (t0 : TS) (k140 : Nat → Int32 → PS → Option (Int32 × PS)) (o0 : Nat) (x1 : Int32) (P : PS) : Option (Int32 × PS) := ck (kk P o0 9) (nn (pR P o0 6) (fun b_102 => ck (kk P b_102 16) (if (nI (pN P b_102)) ≤ x1 then (some ((0 : Int32), P)) else (nn (pR P o0 6) (fun b_104 => lt_ (pZ P) (fun z_105 => lt_ (pNew P 7 0) (fun P_106 => bd (hm_X6_init  P_106 z_105) (fun _ P_107 => ck (kk P_107 b_104 16) (ck (vin x1 (pN P_107 b_104)) (ck (kk P_107 z_105 7) (lt_ (pRu P_107 b_104 (x1).toNatClampNeg (some z_105)) (fun P_113 => lt_ (x1 + (1 : Int32)) (fun x1_114 => k140 o0 x1_114 P_113)))))))))))))
def hm_X8_init_140L (t0 : TS) : Nat → Nat → Int32 → PS → Option (Int32 × PS)
  | 0, _, _, _ => none
  | n + 1, o0, x1, P => hm_X8_init_140 t0  (hm_X8_init_140L t0  n) o0 x1 P
def hm_X8_init_109 (t0 : TS) (k109 : Nat → Int32 → PS → Option (Int32 × PS)) (o0 : Nat) (x1 : Int32) (P : PS) : Option (Int32 × PS) := ck (kk P o0 9) (nn (pR P o0 0) (fun b_216 => ck (kk P b_216 15) (if (nI (pN P b_216)) ≤ x1 then (lt_ ((0 : Int32)) (fun x1_218 => hm_X8_init_140L t0  10 o0 x1_218 P)) else (nn (pR P o0 0) (fun b_219 => lt_ (pZ P) (fun z_220 => lt_ (pNew P 3 0) (fun P_221 => bd (hm_X2_init  P_221 z_220 x1) (fun _ P_222 => ck (kk P_222 b_219 15) (ck (vin x1 (pN P_222 b_219)) (ck (kk P_222 z_220 3) (lt_ (pRu P_222 b_219 (x1).toNatClampNeg (some z_220)) (fun P_228 => lt_ (x1 + (1 : Int32)) (fun x1_229 => k109 o0 x1_229 P_228)))))))))))))
def hm_X8_init_109L (t0 : TS) : Nat → Nat → Int32 → PS → Option (Int32 × PS)
  | 0, _, _, _ => none
  | n + 1, o0, x1, P => hm_X8_init_109 t0  (hm_X8_init_109L t0  n) o0 x1 P
def hm_X8_init (t0 : TS) (P : PS) (th : Nat) : Option (Int32 × PS) := lt_ (pZ P) (fun z_330 => lt_ (pNew P 15 ((8 : Int32)).toNatClampNeg) (fun P_331 => ck (kk P_331 th 9) (lt_ (pRu P_331 th 0 (some z_330)) (fun P_333 => lt_ (pZ P_333) (fun z_334 => lt_ (pNew P_333 0 0) (fun P_335 => bd (hm_Jx4a65c_init_da8c8 t0  P_335 z_334) (fun _ P_336 => ck (kk P_336 th 9) (lt_ (pRu P_336 th 1 (some z_334)) (fun P_340 => lt_ (pZ P_340) (fun z_341 => lt_ (pNew P_340 0 0) (fun P_342 => bd (hm_Jx4a65c_init_da8c8 t0  P_342 z_341) (fun _ P_343 => ck (kk P_343 th 9) (lt_ (pRu P_343 th 2 (some z_341)) (fun P_347 => lt_ (pZ P_347) (fun z_348 => lt_ (pNew P_347 4 0) (fun P_349 => bd (hm_X3_init  P_349 z_348) (fun _ P_350 => ck (kk P_350 th 9) (lt_ (pRu P_350 th 3 (some z_348)) (fun P_354 => lt_ (pZ P_354) (fun z_355 => lt_ (pNew P_354 6 0) (fun P_356 => bd (hm_X5_init  P_356 z_355) (fun _ P_357 => ck (kk P_357 th 9) (lt_ (pRu P_357 th 4 (some z_355)) (fun P_361 => lt_ (pZ P_361) (fun z_362 => lt_ (pNew P_361 6 0) (fun P_363 => bd (hm_X5_init  P_363 z_362) (fun _ P_364 => ck (kk P_364 th 9) (lt_ (pRu P_364 th 5 (some z_362)) (fun P_368 => lt_ (pZ P_368) (fun z_369 => lt_ (pNew P_368 16 ((6 : Int32)).toNatClampNeg) (fun P_370 => ck (kk P_370 th 9) (lt_ (pRu P_370 th 6 (some z_369)) (fun P_372 => lt_ (pZ P_372) (fun z_373 => lt_ (pNew P_372 1 0) (fun P_374 => bd (hm_X0_init  P_374 z_373) (fun _ P_375 => ck (kk P_375 th 9) (lt_ (pRu P_375 th 7 (some z_373)) (fun P_379 => lt_ (pZ P_379) (fun z_380 => lt_ (pNew P_379 0 0) (fun P_381 => bd (hm_Jx4a65c_init_da8c8 t0  P_381 z_380) (fun _ P_382 => ck (kk P_382 th 9) (lt_ (pRu P_382 th 8 (some z_380)) (fun P_386 => lt_ (pZ P_386) (fun z_387 => lt_ (pNew P_386 12 ((32 : Int32)).toNatClampNeg) (fun P_388 => ck (kk P_388 th 9) (lt_ (pRu P_388 th 9 (some z_387)) (fun P_390 => lt_ ((0 : Int32)) (fun x1_391 => hm_X8_init_109L t0  10 th x1_391 P_390))))))))))))))))))))))))))))))))))))))))))))))))
abbrev wu_X8_init : List Cond := .code yX8_init cX8_init 2 none :: wsL_law
theorem ud_X8_init : yX8_init.cls = RX8 ∧ yX8_init.cls ≠ "java/lang/invoke/MethodHandle" ∧ yX8_init.cls ≠ "java/lang/invoke/VarHandle" ∧ (parseMethodDescriptor yX8_init.desc).map (fun d => d.parameters.length) = some 0 := by decide +kernel
abbrev rmc_X8_init : Room := { frames := 4, cells := 73, slots := 1610, locals := 100 }
set_option maxHeartbeats 4000000 in
set_option maxRecDepth 100000 in
theorem hcc_X8_init (l : Launch) (D : va_G) (cs : Nat → ClassId) (t0 : TS) (P0 T : PS) (th : Nat) (r0 : Int32) (h : hm_X8_init t0 P0 th = some (r0, T)) : MetCV l yX8_init wu_X8_init rmc_X8_init D cs t0 [.ref th] P0 T r0 73 1610 := by
  refine co_start (own := RX8) (ty := none) (cc := cX8_init) (maxL := 2) ⟨by decide, rfl⟩ rfl (Nat.le_of_ble_eq_true rfl) ?_
  intro p e s m args below meth c ls cx hnm hl w
  have hx := cx.1
  have hb := cx.2.1
  have hts := cx.2.2.2.1
  have hown := cx.2.2.2.2.1
  have hml := cx.2.2.2.2.2.2
  have hsub : ∀ w ∈ wsL_law, w ∈ wu_X8_init := fun _ hq => List.mem_cons_of_mem _ hq
  have hl : lv_has ls 2 [(0, .ref th)] := hl
  have L140 : ∀ (n : Nat) (hle : n ≤ 10) (o0 : Nat) (x1 : Int32) (P : PS), hm_X8_init_140L t0  n o0 x1 P = some (r0, T) → cGo p l e rmc_X8_init s m args below meth c 2 D cs t0 (pA P0) (cQV below D cs P0 args s 73 1610 r0 T) (23 + (10 - n) * 2) (320 + (10 - n) * 63) 140 [(0, .ref o0), (1, .int x1)] [] P := by
    intro n
    induction n with
    | zero =>
      intro hle o0 x1 P h
      have h : none = some (r0, T) := h
      cases h
    | succ n hk140 =>
      intro hle
      have hnA := hle
      replace hk140 := hk140 (by omega)
      have hnA : n + 1 ≤ 10 := hle
      intro o0 x1 P h H locs ls hl w
      have h : hm_X8_init_140 t0  (hm_X8_init_140L t0  n) o0 x1 P = some (r0, T) := h
      generalize hm_X8_init_140L t0  n = k140 at h hk140
      unfold hm_X8_init_140 at h
      refine lv_iload_n hx hb dX8_init_140 rfl (lv_at hl 1 rfl) ?_
      refine lv_aload_n hx hb dX8_init_141 rfl (lv_at hl 0 rfl) ?_
      replace h := ck_e h
      obtain ⟨hk_101, h⟩ := h
      replace h := nn_e h
      obtain ⟨b_102, hbb_102, h⟩ := h
      refine cw_getS cx hsub w kT9 hk_101 6 (by decide) hbb_102 ⟨hsub _ uf_RX8_46, Or.inl rfl⟩ dX8_init_142 ?_
      replace h := ck_e h
      obtain ⟨hk_103, h⟩ := h
      refine cw_alen cx w hk_103 rfl dX8_init_145 ?_
      refine lv_icmp_ge (tgt := 168) hx hb dX8_init_146 (by decide) (fun q => ?_) (fun q => ?_)
      · replace h := br_p q h
        refine W.widen (k := 73) (n := 1610) (by omega) (by omega) ?_
        exact cw_vret cx (rt_e h) w dX8_init_168
      · replace h := br_n q h
        refine lv_aload_n hx hb dX8_init_149 rfl (lv_at hl 0 rfl) ?_
        replace h := nn_e h
        obtain ⟨b_104, hbb_104, h⟩ := h
        refine cw_getS cx hsub w kT9 hk_101 6 (by decide) hbb_104 ⟨hsub _ uf_RX8_46, Or.inl rfl⟩ dX8_init_150 ?_
        refine lv_iload_n hx hb dX8_init_153 rfl (lv_at hl 1 rfl) ?_
        replace h := lt_e h
        obtain ⟨z_105, ez_105, h⟩ := h
        replace h := lt_e h
        obtain ⟨P_106, eP_106, h⟩ := h
        refine cw_new cx hsub w kT7 eP_106 (by decide +kernel) (hsub _ ucl_RX8_44) (hsub _ uin_RX6) (hsub _ un_RX6) (by show _ ≤ (73 : Nat); omega) (by show _ ≤ (1610 : Nat); omega) dX8_init_154 (fun H w => ?_)
        have hkz_105 : kk P_106 z_105 7 = true := by rw [ez_105]; exact kk_new eP_106
        rw [← ez_105]
        refine lv_dup hx hb dX8_init_157 rfl ?_
        replace h := bd_e h
        obtain ⟨r_108, P_107, hc_109, h⟩ := h
        refine cc_v (cr_IN (As := []) (rest := [.ref z_105, .int x1, .ref b_104]) cx (hcc_X6_init l D cs t0  P_106 P_107 z_105 r_108 hc_109) ⟨va_cnB (host := "HeardWords") 0 hts (uGB uw_X6_init) rfl rfl rfl (w.2.2.2.2.2.2.1.2.1 ("HeardWords", 67, yX6_init, "HeardWords") (by decide +kernel)) (hts _ (hsub _ un_RX6)) ud_X6_init.2 ⟨Nat.le_of_ble_eq_true rfl, Nat.le_of_ble_eq_true rfl⟩, rfl, hts _ (hsub _ ui_X6_init)⟩ w rfl hl.1 rfl (Nat.le_of_ble_eq_true rfl) dX8_init_158 ⟨(by show _ ≤ (73 : Nat); omega), (by show _ ≤ (1610 : Nat); omega)⟩) (fun H locs w => ?_)
        replace h := ck_e h
        obtain ⟨hk_110, h⟩ := h
        replace h := ck_e h
        obtain ⟨hq_111, h⟩ := h
        replace h := ck_e h
        obtain ⟨hk_112, h⟩ := h
        replace h := lt_e h
        obtain ⟨P_113, eP_113, h⟩ := h
        refine cw_tast cx w hk_110 hq_111 hk_112 eP_113 dX8_init_161 (fun H locs w => ?_)
        replace h := lt_e h
        obtain ⟨x1_114, ex1_114, h⟩ := h
        refine lv_iinc (v := x1_114) (lv' := [(1, .int x1_114), (0, .ref o0)]) hx hb dX8_init_162 hl (k := 1) rfl (by rw [ex1_114]; rfl) (by decide) (rfl) (fun ls hl => ?_)
        refine lv_goto (tgt := 140) hx hb dX8_init_165 (by decide) ?_
        refine W.widen (k := (23 + (10 - n) * 2)) (n := (320 + (10 - n) * 63)) (by omega) (by omega) ?_
        exact hk140 o0 x1_114 P_113 h _ _ _ (lv_sub hl [1, 0] rfl) w
  have L109 : ∀ (n : Nat) (hle : n ≤ 10) (o0 : Nat) (x1 : Int32) (P : PS), hm_X8_init_109L t0  n o0 x1 P = some (r0, T) → cGo p l e rmc_X8_init s m args below meth c 2 D cs t0 (pA P0) (cQV below D cs P0 args s 73 1610 r0 T) (13 + (10 - n) * 1) (290 + (10 - n) * 3) 109 [(0, .ref o0), (1, .int x1)] [] P := by
    intro n
    induction n with
    | zero =>
      intro hle o0 x1 P h
      have h : none = some (r0, T) := h
      cases h
    | succ n hk109 =>
      intro hle
      have hnA := hle
      replace hk109 := hk109 (by omega)
      have hnA : n + 1 ≤ 10 := hle
      intro o0 x1 P h H locs ls hl w
      have h : hm_X8_init_109 t0  (hm_X8_init_109L t0  n) o0 x1 P = some (r0, T) := h
      generalize hm_X8_init_109L t0  n = k109 at h hk109
      unfold hm_X8_init_109 at h
      refine lv_iload_n hx hb dX8_init_109 rfl (lv_at hl 1 rfl) ?_
      refine lv_aload_n hx hb dX8_init_110 rfl (lv_at hl 0 rfl) ?_
      replace h := ck_e h
      obtain ⟨hk_215, h⟩ := h
      replace h := nn_e h
      obtain ⟨b_216, hbb_216, h⟩ := h
      refine cw_getS cx hsub w kT9 hk_215 0 (by decide) hbb_216 ⟨hsub _ uf_RX8_13, Or.inl rfl⟩ dX8_init_111 ?_
      replace h := ck_e h
      obtain ⟨hk_217, h⟩ := h
      refine cw_alen cx w hk_217 rfl dX8_init_114 ?_
      refine lv_icmp_ge (tgt := 138) hx hb dX8_init_115 (by decide) (fun q => ?_) (fun q => ?_)
      · replace h := br_p q h
        refine lv_iconst (v := (0 : Int32)) hx hb dX8_init_138 (by decide) ?_
        replace h := lt_e h
        obtain ⟨x1_218, ex1_218, h⟩ := h
        refine top_i ex1_218 ?_
        refine lv_istore_n (lv' := [(1, .int x1_218), (0, .ref o0)]) hx hb dX8_init_139 rfl hl (by decide) (rfl) (fun ls hl => ?_)
        refine W.widen (k := (23 + (10 - 10) * 2)) (n := (320 + (10 - 10) * 63)) (by omega) (by omega) ?_
        exact L140  10 (Nat.le_refl _) o0 x1_218 P h _ _ _ (lv_sub hl [1, 0] rfl) w
      · replace h := br_n q h
        refine lv_aload_n hx hb dX8_init_118 rfl (lv_at hl 0 rfl) ?_
        replace h := nn_e h
        obtain ⟨b_219, hbb_219, h⟩ := h
        refine cw_getS cx hsub w kT9 hk_215 0 (by decide) hbb_219 ⟨hsub _ uf_RX8_13, Or.inl rfl⟩ dX8_init_119 ?_
        refine lv_iload_n hx hb dX8_init_122 rfl (lv_at hl 1 rfl) ?_
        replace h := lt_e h
        obtain ⟨z_220, ez_220, h⟩ := h
        replace h := lt_e h
        obtain ⟨P_221, eP_221, h⟩ := h
        refine cw_new cx hsub w kT3 eP_221 (by decide +kernel) (hsub _ ucl_RX8_11) (hsub _ uin_RX2) (hsub _ un_RX2) (by show _ ≤ (73 : Nat); omega) (by show _ ≤ (1610 : Nat); omega) dX8_init_123 (fun H w => ?_)
        have hkz_220 : kk P_221 z_220 3 = true := by rw [ez_220]; exact kk_new eP_221
        rw [← ez_220]
        refine lv_dup hx hb dX8_init_126 rfl ?_
        refine lv_iload_n hx hb dX8_init_127 rfl (lv_at hl 1 rfl) ?_
        replace h := bd_e h
        obtain ⟨r_223, P_222, hc_224, h⟩ := h
        refine cc_v (cr_I (As := [.int x1]) (rest := [.ref z_220, .int x1, .ref b_219]) cx (hcc_X2_init l D cs t0  P_221 P_222 z_220 x1 r_223 hc_224) (cwI 1 hts (uGB uw_X2_init) rfl rfl rfl (hts _ (hsub _ un_RX2)) (hts _ (hsub _ ul_RX8_64)) (hts _ (hsub _ ui_X2_init)) rfl ud_X2_init.2 ⟨Nat.le_of_ble_eq_true rfl, Nat.le_of_ble_eq_true rfl⟩) w rfl hl.1 rfl (Nat.le_of_ble_eq_true rfl) dX8_init_128 ⟨(by show _ ≤ (73 : Nat); omega), (by show _ ≤ (1610 : Nat); omega)⟩) (fun H locs w => ?_)
        replace h := ck_e h
        obtain ⟨hk_225, h⟩ := h
        replace h := ck_e h
        obtain ⟨hq_226, h⟩ := h
        replace h := ck_e h
        obtain ⟨hk_227, h⟩ := h
        replace h := lt_e h
        obtain ⟨P_228, eP_228, h⟩ := h
        refine cw_past cx w hk_225 hq_226 hk_227 eP_228 dX8_init_131 (fun H locs w => ?_)
        replace h := lt_e h
        obtain ⟨x1_229, ex1_229, h⟩ := h
        refine lv_iinc (v := x1_229) (lv' := [(1, .int x1_229), (0, .ref o0)]) hx hb dX8_init_132 hl (k := 1) rfl (by rw [ex1_229]; rfl) (by decide) (rfl) (fun ls hl => ?_)
        refine lv_goto (tgt := 109) hx hb dX8_init_135 (by decide) ?_
        refine W.widen (k := (13 + (10 - n) * 1)) (n := (290 + (10 - n) * 3)) (by omega) (by omega) ?_
        exact hk109 o0 x1_229 P_228 h _ _ _ (lv_sub hl [1, 0] rfl) w
  have hP0 : P0 = P0 := rfl
  unfold hm_X8_init at h
  refine lv_aload_n hx hb dX8_init_0 rfl (lv_at hl 0 rfl) ?_
  refine W.objInit hx hb hown (hts _ (hsub _ ul_RX8_3)) (hts _ (hsub _ uoi_i)) (hts _ (hsub _ uoi_c)) rfl (by rw [hml]; exact hl.1) rfl dX8_init_1 (Nat.le_of_ble_eq_true rfl) (Nat.le_of_ble_eq_true rfl) ?_
  refine W.eq (g2 := F0 m _ ls []) rfl ?_
  refine lv_aload_n hx hb dX8_init_4 rfl (lv_at hl 0 rfl) ?_
  refine lv_bipush (v := (8 : Int32)) hx hb dX8_init_5 (by decide) ?_
  replace h := lt_e h
  obtain ⟨z_330, ez_330, h⟩ := h
  replace h := lt_e h
  obtain ⟨P_331, eP_331, h⟩ := h
  refine cw_newq cx hsub w (d := 15) (j := 4) rfl (fun _ _ h => pE_p h) (by decide) (by decide) (by decide) eP_331 (hsub _ ucl_RX8_11) (Nat.le_of_ble_eq_true rfl) (Nat.le_of_ble_eq_true rfl) dX8_init_7 (fun H w => ?_)
  refine W.widen (k := 1) (n := 8) (Nat.le_of_ble_eq_true rfl) (Nat.le_of_ble_eq_true rfl) ?_
  have hkz_330 : kk P_331 z_330 15 = true := by rw [ez_330]; exact kk_new eP_331
  rw [← ez_330]
  replace h := ck_e h
  obtain ⟨hk_332, h⟩ := h
  replace h := lt_e h
  obtain ⟨P_333, eP_333, h⟩ := h
  refine cw_putR cx hsub w kT9 hk_332 0 (v := (some z_330)) eP_333 (by decide) (by first | exact Or.inl ⟨_, rfl⟩ | exact Or.inr ⟨_, rfl⟩) (Or.inr ⟨rfl, hnm, rfl⟩) ⟨hsub _ uf_RX8_13, Or.inl rfl⟩ dX8_init_10 (fun H locs w => ?_)
  refine lv_aload_n hx hb dX8_init_13 rfl (lv_at hl 0 rfl) ?_
  replace h := lt_e h
  obtain ⟨z_334, ez_334, h⟩ := h
  replace h := lt_e h
  obtain ⟨P_335, eP_335, h⟩ := h
  refine cw_new cx hsub w kT0 eP_335 (by decide +kernel) (hsub _ ucl_RX8_17) (hsub _ uin_RJx4a65c) (hsub _ un_RJx4a65c) (by show _ ≤ (73 : Nat); omega) (by show _ ≤ (1610 : Nat); omega) dX8_init_14 (fun H w => ?_)
  have hkz_334 : kk P_335 z_334 0 = true := by rw [ez_334]; exact kk_new eP_335
  rw [← ez_334]
  refine lv_dup hx hb dX8_init_17 rfl ?_
  replace h := bd_e h
  obtain ⟨r_337, P_336, hc_338, h⟩ := h
  refine cc_v (cr_I (As := []) (rest := [.ref z_334, .ref th]) cx (hcc_Jx4a65c_init_da8c8 l D cs t0  P_335 P_336 z_334 r_337 hc_338) (cwI 0 hts (uGB uw_Jx4a65c_init_da8c8) rfl rfl rfl (hts _ (hsub _ un_RJx4a65c)) (hts _ (hsub _ ul_RX8_19)) (hts _ (hsub _ ui_Jx4a65c_init_da8c8)) rfl ud_Jx4a65c_init_da8c8.2 ⟨Nat.le_of_ble_eq_true rfl, Nat.le_of_ble_eq_true rfl⟩) w rfl hl.1 rfl (Nat.le_of_ble_eq_true rfl) dX8_init_18 ⟨(by show _ ≤ (73 : Nat); omega), (by show _ ≤ (1610 : Nat); omega)⟩) (fun H locs w => ?_)
  replace h := ck_e h
  obtain ⟨hk_339, h⟩ := h
  replace h := lt_e h
  obtain ⟨P_340, eP_340, h⟩ := h
  refine cw_putR cx hsub w kT9 hk_339 1 (v := (some z_334)) eP_340 (by decide) (by first | exact Or.inl ⟨_, rfl⟩ | exact Or.inr ⟨_, rfl⟩) (Or.inr ⟨rfl, hnm, rfl⟩) ⟨hsub _ uf_RX8_20, Or.inl rfl⟩ dX8_init_21 (fun H locs w => ?_)
  refine lv_aload_n hx hb dX8_init_24 rfl (lv_at hl 0 rfl) ?_
  replace h := lt_e h
  obtain ⟨z_341, ez_341, h⟩ := h
  replace h := lt_e h
  obtain ⟨P_342, eP_342, h⟩ := h
  refine cw_new cx hsub w kT0 eP_342 (by decide +kernel) (hsub _ ucl_RX8_17) (hsub _ uin_RJx4a65c) (hsub _ un_RJx4a65c) (by show _ ≤ (73 : Nat); omega) (by show _ ≤ (1610 : Nat); omega) dX8_init_25 (fun H w => ?_)
  have hkz_341 : kk P_342 z_341 0 = true := by rw [ez_341]; exact kk_new eP_342
  rw [← ez_341]
  refine lv_dup hx hb dX8_init_28 rfl ?_
  replace h := bd_e h
  obtain ⟨r_344, P_343, hc_345, h⟩ := h
  refine cc_v (cr_I (As := []) (rest := [.ref z_341, .ref th]) cx (hcc_Jx4a65c_init_da8c8 l D cs t0  P_342 P_343 z_341 r_344 hc_345) (cwI 0 hts (uGB uw_Jx4a65c_init_da8c8) rfl rfl rfl (hts _ (hsub _ un_RJx4a65c)) (hts _ (hsub _ ul_RX8_19)) (hts _ (hsub _ ui_Jx4a65c_init_da8c8)) rfl ud_Jx4a65c_init_da8c8.2 ⟨Nat.le_of_ble_eq_true rfl, Nat.le_of_ble_eq_true rfl⟩) w rfl hl.1 rfl (Nat.le_of_ble_eq_true rfl) dX8_init_29 ⟨(by show _ ≤ (73 : Nat); omega), (by show _ ≤ (1610 : Nat); omega)⟩) (fun H locs w => ?_)
  replace h := ck_e h
  obtain ⟨hk_346, h⟩ := h
  replace h := lt_e h
  obtain ⟨P_347, eP_347, h⟩ := h
  refine cw_putR cx hsub w kT9 hk_346 2 (v := (some z_341)) eP_347 (by decide) (by first | exact Or.inl ⟨_, rfl⟩ | exact Or.inr ⟨_, rfl⟩) (Or.inr ⟨rfl, hnm, rfl⟩) ⟨hsub _ uf_RX8_24, Or.inl rfl⟩ dX8_init_32 (fun H locs w => ?_)
  refine lv_aload_n hx hb dX8_init_35 rfl (lv_at hl 0 rfl) ?_
  replace h := lt_e h
  obtain ⟨z_348, ez_348, h⟩ := h
  replace h := lt_e h
  obtain ⟨P_349, eP_349, h⟩ := h
  refine cw_new cx hsub w kT4 eP_349 (by decide +kernel) (hsub _ ucl_RX8_27) (hsub _ uin_RX3) (hsub _ un_RX3) (by show _ ≤ (73 : Nat); omega) (by show _ ≤ (1610 : Nat); omega) dX8_init_36 (fun H w => ?_)
  have hkz_348 : kk P_349 z_348 4 = true := by rw [ez_348]; exact kk_new eP_349
  rw [← ez_348]
  refine lv_dup hx hb dX8_init_39 rfl ?_
  replace h := bd_e h
  obtain ⟨r_351, P_350, hc_352, h⟩ := h
  refine cc_v (cr_IN (As := []) (rest := [.ref z_348, .ref th]) cx (hcc_X3_init l D cs t0  P_349 P_350 z_348 r_351 hc_352) ⟨va_cnB (host := "HeardWords") 0 hts (uGB uw_X3_init) rfl rfl rfl (w.2.2.2.2.2.2.1.2.1 ("HeardWords", 29, yX3_init, "HeardWords") (by decide +kernel)) (hts _ (hsub _ un_RX3)) ud_X3_init.2 ⟨Nat.le_of_ble_eq_true rfl, Nat.le_of_ble_eq_true rfl⟩, rfl, hts _ (hsub _ ui_X3_init)⟩ w rfl hl.1 rfl (Nat.le_of_ble_eq_true rfl) dX8_init_40 ⟨(by show _ ≤ (73 : Nat); omega), (by show _ ≤ (1610 : Nat); omega)⟩) (fun H locs w => ?_)
  replace h := ck_e h
  obtain ⟨hk_353, h⟩ := h
  replace h := lt_e h
  obtain ⟨P_354, eP_354, h⟩ := h
  refine cw_putR cx hsub w kT9 hk_353 3 (v := (some z_348)) eP_354 (by decide) (by first | exact Or.inl ⟨_, rfl⟩ | exact Or.inr ⟨_, rfl⟩) (Or.inr ⟨rfl, hnm, rfl⟩) ⟨hsub _ uf_RX8_30, Or.inl rfl⟩ dX8_init_43 (fun H locs w => ?_)
  refine lv_aload_n hx hb dX8_init_46 rfl (lv_at hl 0 rfl) ?_
  replace h := lt_e h
  obtain ⟨z_355, ez_355, h⟩ := h
  replace h := lt_e h
  obtain ⟨P_356, eP_356, h⟩ := h
  refine cw_new cx hsub w kT6 eP_356 (by decide +kernel) (hsub _ ucl_RX8_34) (hsub _ uin_RX5) (hsub _ un_RX5) (by show _ ≤ (73 : Nat); omega) (by show _ ≤ (1610 : Nat); omega) dX8_init_47 (fun H w => ?_)
  have hkz_355 : kk P_356 z_355 6 = true := by rw [ez_355]; exact kk_new eP_356
  rw [← ez_355]
  refine lv_dup hx hb dX8_init_50 rfl ?_
  replace h := bd_e h
  obtain ⟨r_358, P_357, hc_359, h⟩ := h
  refine cc_v (cr_IN (As := []) (rest := [.ref z_355, .ref th]) cx (hcc_X5_init l D cs t0  P_356 P_357 z_355 r_358 hc_359) ⟨va_cnB (host := "HeardWords") 0 hts (uGB uw_X5_init) rfl rfl rfl (w.2.2.2.2.2.2.1.2.1 ("HeardWords", 36, yX5_init, "HeardWords") (by decide +kernel)) (hts _ (hsub _ un_RX5)) ud_X5_init.2 ⟨Nat.le_of_ble_eq_true rfl, Nat.le_of_ble_eq_true rfl⟩, rfl, hts _ (hsub _ ui_X5_init)⟩ w rfl hl.1 rfl (Nat.le_of_ble_eq_true rfl) dX8_init_51 ⟨(by show _ ≤ (73 : Nat); omega), (by show _ ≤ (1610 : Nat); omega)⟩) (fun H locs w => ?_)
  replace h := ck_e h
  obtain ⟨hk_360, h⟩ := h
  replace h := lt_e h
  obtain ⟨P_361, eP_361, h⟩ := h
  refine cw_putR cx hsub w kT9 hk_360 4 (v := (some z_355)) eP_361 (by decide) (by first | exact Or.inl ⟨_, rfl⟩ | exact Or.inr ⟨_, rfl⟩) (Or.inr ⟨rfl, hnm, rfl⟩) ⟨hsub _ uf_RX8_37, Or.inl rfl⟩ dX8_init_54 (fun H locs w => ?_)
  refine lv_aload_n hx hb dX8_init_57 rfl (lv_at hl 0 rfl) ?_
  replace h := lt_e h
  obtain ⟨z_362, ez_362, h⟩ := h
  replace h := lt_e h
  obtain ⟨P_363, eP_363, h⟩ := h
  refine cw_new cx hsub w kT6 eP_363 (by decide +kernel) (hsub _ ucl_RX8_34) (hsub _ uin_RX5) (hsub _ un_RX5) (by show _ ≤ (73 : Nat); omega) (by show _ ≤ (1610 : Nat); omega) dX8_init_58 (fun H w => ?_)
  have hkz_362 : kk P_363 z_362 6 = true := by rw [ez_362]; exact kk_new eP_363
  rw [← ez_362]
  refine lv_dup hx hb dX8_init_61 rfl ?_
  replace h := bd_e h
  obtain ⟨r_365, P_364, hc_366, h⟩ := h
  refine cc_v (cr_IN (As := []) (rest := [.ref z_362, .ref th]) cx (hcc_X5_init l D cs t0  P_363 P_364 z_362 r_365 hc_366) ⟨va_cnB (host := "HeardWords") 0 hts (uGB uw_X5_init) rfl rfl rfl (w.2.2.2.2.2.2.1.2.1 ("HeardWords", 36, yX5_init, "HeardWords") (by decide +kernel)) (hts _ (hsub _ un_RX5)) ud_X5_init.2 ⟨Nat.le_of_ble_eq_true rfl, Nat.le_of_ble_eq_true rfl⟩, rfl, hts _ (hsub _ ui_X5_init)⟩ w rfl hl.1 rfl (Nat.le_of_ble_eq_true rfl) dX8_init_62 ⟨(by show _ ≤ (73 : Nat); omega), (by show _ ≤ (1610 : Nat); omega)⟩) (fun H locs w => ?_)
  replace h := ck_e h
  obtain ⟨hk_367, h⟩ := h
  replace h := lt_e h
  obtain ⟨P_368, eP_368, h⟩ := h
  refine cw_putR cx hsub w kT9 hk_367 5 (v := (some z_362)) eP_368 (by decide) (by first | exact Or.inl ⟨_, rfl⟩ | exact Or.inr ⟨_, rfl⟩) (Or.inr ⟨rfl, hnm, rfl⟩) ⟨hsub _ uf_RX8_41, Or.inl rfl⟩ dX8_init_65 (fun H locs w => ?_)
  refine lv_aload_n hx hb dX8_init_68 rfl (lv_at hl 0 rfl) ?_
  refine lv_bipush (v := (6 : Int32)) hx hb dX8_init_69 (by decide) ?_
  replace h := lt_e h
  obtain ⟨z_369, ez_369, h⟩ := h
  replace h := lt_e h
  obtain ⟨P_370, eP_370, h⟩ := h
  refine cw_newq cx hsub w (d := 16) (j := 5) rfl (fun _ _ h => pE_t h) (by decide) (by decide) (by decide) eP_370 (hsub _ ucl_RX8_44) (Nat.le_of_ble_eq_true rfl) (Nat.le_of_ble_eq_true rfl) dX8_init_71 (fun H w => ?_)
  refine W.widen (k := 9) (n := 233) (Nat.le_of_ble_eq_true rfl) (Nat.le_of_ble_eq_true rfl) ?_
  have hkz_369 : kk P_370 z_369 16 = true := by rw [ez_369]; exact kk_new eP_370
  rw [← ez_369]
  replace h := ck_e h
  obtain ⟨hk_371, h⟩ := h
  replace h := lt_e h
  obtain ⟨P_372, eP_372, h⟩ := h
  refine cw_putR cx hsub w kT9 hk_371 6 (v := (some z_369)) eP_372 (by decide) (by first | exact Or.inl ⟨_, rfl⟩ | exact Or.inr ⟨_, rfl⟩) (Or.inr ⟨rfl, hnm, rfl⟩) ⟨hsub _ uf_RX8_46, Or.inl rfl⟩ dX8_init_74 (fun H locs w => ?_)
  refine lv_aload_n hx hb dX8_init_77 rfl (lv_at hl 0 rfl) ?_
  replace h := lt_e h
  obtain ⟨z_373, ez_373, h⟩ := h
  replace h := lt_e h
  obtain ⟨P_374, eP_374, h⟩ := h
  refine cw_new cx hsub w kT1 eP_374 (by decide +kernel) (hsub _ ucl_RX8_50) (hsub _ uin_RX0) (hsub _ un_RX0) (by show _ ≤ (73 : Nat); omega) (by show _ ≤ (1610 : Nat); omega) dX8_init_78 (fun H w => ?_)
  have hkz_373 : kk P_374 z_373 1 = true := by rw [ez_373]; exact kk_new eP_374
  rw [← ez_373]
  refine lv_dup hx hb dX8_init_81 rfl ?_
  replace h := bd_e h
  obtain ⟨r_376, P_375, hc_377, h⟩ := h
  refine cc_v (cr_IN (As := []) (rest := [.ref z_373, .ref th]) cx (hcc_X0_init l D cs t0  P_374 P_375 z_373 r_376 hc_377) ⟨va_cnB (host := "HeardWords") 0 hts (uGB uw_X0_init) rfl rfl rfl (w.2.2.2.2.2.2.1.2.1 ("HeardWords", 52, yX0_init, "HeardWords") (by decide +kernel)) (hts _ (hsub _ un_RX0)) ud_X0_init.2 ⟨Nat.le_of_ble_eq_true rfl, Nat.le_of_ble_eq_true rfl⟩, rfl, hts _ (hsub _ ui_X0_init)⟩ w rfl hl.1 rfl (Nat.le_of_ble_eq_true rfl) dX8_init_82 ⟨(by show _ ≤ (73 : Nat); omega), (by show _ ≤ (1610 : Nat); omega)⟩) (fun H locs w => ?_)
  replace h := ck_e h
  obtain ⟨hk_378, h⟩ := h
  replace h := lt_e h
  obtain ⟨P_379, eP_379, h⟩ := h
  refine cw_putR cx hsub w kT9 hk_378 7 (v := (some z_373)) eP_379 (by decide) (by first | exact Or.inl ⟨_, rfl⟩ | exact Or.inr ⟨_, rfl⟩) (Or.inr ⟨rfl, hnm, rfl⟩) ⟨hsub _ uf_RX8_53, Or.inl rfl⟩ dX8_init_85 (fun H locs w => ?_)
  refine lv_aload_n hx hb dX8_init_88 rfl (lv_at hl 0 rfl) ?_
  replace h := lt_e h
  obtain ⟨z_380, ez_380, h⟩ := h
  replace h := lt_e h
  obtain ⟨P_381, eP_381, h⟩ := h
  refine cw_new cx hsub w kT0 eP_381 (by decide +kernel) (hsub _ ucl_RX8_17) (hsub _ uin_RJx4a65c) (hsub _ un_RJx4a65c) (by show _ ≤ (73 : Nat); omega) (by show _ ≤ (1610 : Nat); omega) dX8_init_89 (fun H w => ?_)
  have hkz_380 : kk P_381 z_380 0 = true := by rw [ez_380]; exact kk_new eP_381
  rw [← ez_380]
  refine lv_dup hx hb dX8_init_92 rfl ?_
  replace h := bd_e h
  obtain ⟨r_383, P_382, hc_384, h⟩ := h
  refine cc_v (cr_I (As := []) (rest := [.ref z_380, .ref th]) cx (hcc_Jx4a65c_init_da8c8 l D cs t0  P_381 P_382 z_380 r_383 hc_384) (cwI 0 hts (uGB uw_Jx4a65c_init_da8c8) rfl rfl rfl (hts _ (hsub _ un_RJx4a65c)) (hts _ (hsub _ ul_RX8_19)) (hts _ (hsub _ ui_Jx4a65c_init_da8c8)) rfl ud_Jx4a65c_init_da8c8.2 ⟨Nat.le_of_ble_eq_true rfl, Nat.le_of_ble_eq_true rfl⟩) w rfl hl.1 rfl (Nat.le_of_ble_eq_true rfl) dX8_init_93 ⟨(by show _ ≤ (73 : Nat); omega), (by show _ ≤ (1610 : Nat); omega)⟩) (fun H locs w => ?_)
  replace h := ck_e h
  obtain ⟨hk_385, h⟩ := h
  replace h := lt_e h
  obtain ⟨P_386, eP_386, h⟩ := h
  refine cw_putR cx hsub w kT9 hk_385 8 (v := (some z_380)) eP_386 (by decide) (by first | exact Or.inl ⟨_, rfl⟩ | exact Or.inr ⟨_, rfl⟩) (Or.inr ⟨rfl, hnm, rfl⟩) ⟨hsub _ uf_RX8_57, Or.inl rfl⟩ dX8_init_96 (fun H locs w => ?_)
  refine lv_aload_n hx hb dX8_init_99 rfl (lv_at hl 0 rfl) ?_
  refine lv_bipush (v := (32 : Int32)) hx hb dX8_init_100 (by decide) ?_
  replace h := lt_e h
  obtain ⟨z_387, ez_387, h⟩ := h
  replace h := lt_e h
  obtain ⟨P_388, eP_388, h⟩ := h
  refine cw_newi cx w (by decide) (by decide) eP_388 (hsub _ uar_int) (Nat.le_of_ble_eq_true rfl) (Nat.le_of_ble_eq_true rfl) dX8_init_102 (fun H w => ?_)
  refine W.widen (k := 13) (n := 290) (Nat.le_of_ble_eq_true rfl) (Nat.le_of_ble_eq_true rfl) ?_
  have hkz_387 : kk P_388 z_387 12 = true := by rw [ez_387]; exact kk_new eP_388
  rw [← ez_387]
  replace h := ck_e h
  obtain ⟨hk_389, h⟩ := h
  replace h := lt_e h
  obtain ⟨P_390, eP_390, h⟩ := h
  refine cw_putR cx hsub w kT9 hk_389 9 (v := (some z_387)) eP_390 (by decide) (by first | exact Or.inl ⟨_, rfl⟩ | exact Or.inr ⟨_, rfl⟩) (Or.inr ⟨rfl, hnm, rfl⟩) ⟨hsub _ uf_RX8_60, Or.inl rfl⟩ dX8_init_104 (fun H locs w => ?_)
  refine lv_iconst (v := (0 : Int32)) hx hb dX8_init_107 (by decide) ?_
  replace h := lt_e h
  obtain ⟨x1_391, ex1_391, h⟩ := h
  refine top_i ex1_391 ?_
  refine lv_istore_n (lv' := [(1, .int x1_391), (0, .ref th)]) hx hb dX8_init_108 rfl hl (by decide) (rfl) (fun ls hl => ?_)
  refine W.widen (k := (13 + (10 - 10) * 1)) (n := (290 + (10 - 10) * 3)) (by omega) (by omega) ?_
  exact L109  10 (Nat.le_refl _) th x1_391 P_390 h _ _ _ (lv_sub hl [1, 0] rfl) w
def hm_X8_word_21 (t0 : TS)  (P : PS) : Option (Int32 × PS) := some ((-1 : Int32), P)
def hm_X8_word (t0 : TS) (P : PS) (th : Nat) (a1 : Int32) (a2 : Int32) (a3 : Int32) : Option (Int32 × PS) := bd (hm_X8_personAt  P th a2) (fun o_202 P_201 => ck (kk P th 9) (nl o_202 (hm_X8_word_21 t0   P_201) (fun b_205 => bd (hm_X8_within  P_201 a1 (7 : Int32)) (fun r_207 P_206 => if r_207 = (0 : Int32) then (hm_X8_word_21 t0   P_206) else (bd (hm_X8_within  P_206 a3 (1024 : Int32)) (fun r_210 P_209 => if r_210 = (0 : Int32) then (some ((-2 : Int32), P_209)) else (ck (kk P_209 th 9) (nn (pR P_209 th 1) (fun b_213 => bd (hm_Jx4a65c_size_8abf5  P_209 b_213) (fun r_215 P_214 => ck (kk P_209 b_213 0) (if r_215 < (14 : Int32) then (ck (kk P_214 th 9) (nn (pR P_214 th 1) (fun b_219 => lt_ (pZ P_214) (fun z_220 => lt_ (pNew P_214 8 0) (fun P_221 => bd (hm_X7_init t0  P_221 z_220 r_215 a1 b_205 a3) (fun _ P_222 => bd (hm_Jx4a65c_add_9ea2d t0  P_222 b_219 z_220) (fun r_226 P_225 => ck (kk P_222 b_219 0) (ck (kk P_225 b_205 3) (lt_ (pIu P_225 b_205 2 ((pI P_225 b_205 2) ||| ((1 : Int32) <<< (r_215 &&& 31)))) (fun P_230 => some (r_215, P_230))))))))))) else (some ((-4 : Int32), P_214)))))))))))))
abbrev wu_X8_word : List Cond := .code yX8_word cX8_word 6 (some .int) :: wsL_law
theorem ud_X8_word : yX8_word.cls = RX8 ∧ yX8_word.cls ≠ "java/lang/invoke/MethodHandle" ∧ yX8_word.cls ≠ "java/lang/invoke/VarHandle" ∧ (parseMethodDescriptor yX8_word.desc).map (fun d => d.parameters.length) = some 3 := by decide +kernel
abbrev rmc_X8_word : Room := { frames := 7, cells := 3, slots := 74, locals := 171 }
set_option maxHeartbeats 4000000 in
set_option maxRecDepth 100000 in
theorem hcc_X8_word (l : Launch) (D : va_G) (cs : Nat → ClassId) (t0 : TS) (P0 T : PS) (th : Nat) (a1 : Int32) (a2 : Int32) (a3 : Int32) (r0 : Int32) (h : hm_X8_word t0 P0 th a1 a2 a3 = some (r0, T)) : MetCI l yX8_word wu_X8_word rmc_X8_word D cs t0 [.ref th, .int a1, .int a2, .int a3] P0 T r0 3 74 := by
  refine co_start (own := RX8) (ty := (some .int)) (cc := cX8_word) (maxL := 6) ⟨by decide, rfl⟩ rfl (Nat.le_of_ble_eq_true rfl) ?_
  intro p e s m args below meth c ls cx hnm hl w
  have hx := cx.1
  have hb := cx.2.1
  have hts := cx.2.2.2.1
  have hown := cx.2.2.2.2.1
  have hml := cx.2.2.2.2.2.2
  have hsub : ∀ w ∈ wsL_law, w ∈ wu_X8_word := fun _ hq => List.mem_cons_of_mem _ hq
  have hl : lv_has ls 6 [(0, .ref th), (1, .int a1), (2, .int a2), (3, .int a3)] := hl
  have J21 : ∀  (P : PS), hm_X8_word_21 t0   P = some (r0, T) → cGo p l e rmc_X8_word s m args below meth c 6 D cs t0 (pA P0) (cQI below D cs P0 args s 3 74 r0 T) 0 0 21 [] [] P := by
    intro  P h H locs ls hl w
    unfold hm_X8_word_21 at h
    refine lv_iconst (v := (-1 : Int32)) hx hb dX8_word_21 (by decide) ?_
    refine W.widen (k := 3) (n := 74) (Nat.le_of_ble_eq_true rfl) (Nat.le_of_ble_eq_true rfl) ?_
    exact cw_iret cx (rt_e h) w dX8_word_22
  have hP0 : P0 = P0 := rfl
  unfold hm_X8_word at h
  refine lv_aload_n hx hb dX8_word_0 rfl (lv_at hl 0 rfl) ?_
  refine lv_iload_n hx hb dX8_word_1 rfl (lv_at hl 2 rfl) ?_
  replace h := bd_e h
  obtain ⟨o_202, P_201, hc_203, h⟩ := h
  replace h := ck_e h
  obtain ⟨hk_204, h⟩ := h
  refine cc_q (cr_V (As := [.int a2]) (rest := []) cx (hcc_X8_personAt l D cs t0  P0 P_201 th a2 o_202 hc_203) kT9 hk_204 (cwV 1 hts (uG uw_X8_personAt ul_RX8_68 ui_X8_personAt us_RX8_X8_personAt un_RX8) rfl rfl rfl ud_X8_personAt ⟨Nat.le_of_ble_eq_true rfl, Nat.le_of_ble_eq_true rfl⟩) w rfl hl.1 rfl (Nat.le_of_ble_eq_true rfl) dX8_word_2 ⟨(Nat.le_of_ble_eq_true rfl), (Nat.le_of_ble_eq_true rfl)⟩) (fun H locs w => ?_)
  refine lq_astore (lv' := [(4, va_rf o_202), (0, .ref th), (1, .int a1), (2, .int a2), (3, .int a3)]) hx hb dX8_word_5 hl (by decide) (fun v hv => by subst hv; exact (rfl)) (fun ls hl => ?_)
  refine lq_aload hx hb dX8_word_7 (lv_at hl 0 rfl) ?_
  cases o_202 with
  | none =>
    replace h := nl_n h
    have hl : lv_has ls 6 [(4, .null), (0, .ref th), (1, .int a1), (2, .int a2), (3, .int a3)] := hl
    refine lv_ifnullN (tgt := 21) hx hb dX8_word_9 (by decide) ?_
    refine W.widen (k := 0) (n := 0) (Nat.le_of_ble_eq_true rfl) (Nat.le_of_ble_eq_true rfl) ?_
    exact J21   P_201 h _ _ _ (lv_sub hl [] rfl) w
  | some b_205 =>
    replace h := nl_s h
    have hl : lv_has ls 6 [(4, .ref b_205), (0, .ref th), (1, .int a1), (2, .int a2), (3, .int a3)] := hl
    refine lv_ifnull hx hb dX8_word_9 ?_
    refine lv_iload_n hx hb dX8_word_12 rfl (lv_at hl 2 rfl) ?_
    refine lv_bipush (v := (7 : Int32)) hx hb dX8_word_13 (by decide) ?_
    replace h := bd_e h
    obtain ⟨r_207, P_206, hc_208, h⟩ := h
    refine cc_i (cr_S (As := [.int a1, .int (7 : Int32)]) (rest := []) cx (hcc_X8_within l D cs t0  P_201 P_206 a1 (7 : Int32) r_207 hc_208) (va_cwS 2 hts (uGS uw_X8_within ul_RX8_72 ut_X8_within un_RX8) rfl rfl rfl ud_X8_within.2 ⟨Nat.le_of_ble_eq_true rfl, Nat.le_of_ble_eq_true rfl⟩) w rfl hl.1 rfl (Nat.le_of_ble_eq_true rfl) dX8_word_15 ⟨(Nat.le_of_ble_eq_true rfl), (Nat.le_of_ble_eq_true rfl)⟩) (fun H locs w => ?_)
    refine lv_if_ne (tgt := 23) hx hb dX8_word_18 (by decide) (fun q => ?_) (fun q => ?_)
    · replace h := br_n q h
      refine lv_iload_n hx hb dX8_word_23 rfl (lv_at hl 4 rfl) ?_
      refine lv_sipush (v := (1024 : Int32)) hx hb dX8_word_24 (by decide) ?_
      replace h := bd_e h
      obtain ⟨r_210, P_209, hc_211, h⟩ := h
      refine cc_i (cr_S (As := [.int a3, .int (1024 : Int32)]) (rest := []) cx (hcc_X8_within l D cs t0  P_206 P_209 a3 (1024 : Int32) r_210 hc_211) (va_cwS 2 hts (uGS uw_X8_within ul_RX8_72 ut_X8_within un_RX8) rfl rfl rfl ud_X8_within.2 ⟨Nat.le_of_ble_eq_true rfl, Nat.le_of_ble_eq_true rfl⟩) w rfl hl.1 rfl (Nat.le_of_ble_eq_true rfl) dX8_word_27 ⟨(Nat.le_of_ble_eq_true rfl), (Nat.le_of_ble_eq_true rfl)⟩) (fun H locs w => ?_)
      refine lv_if_ne (tgt := 36) hx hb dX8_word_30 (by decide) (fun q => ?_) (fun q => ?_)
      · replace h := br_n q h
        refine lv_aload_n hx hb dX8_word_36 rfl (lv_at hl 1 rfl) ?_
        replace h := ck_e h
        obtain ⟨hk_212, h⟩ := h
        replace h := nn_e h
        obtain ⟨b_213, hbb_213, h⟩ := h
        refine cw_getS cx hsub w kT9 hk_212 1 (by decide) hbb_213 ⟨hsub _ uf_RX8_20, Or.inl rfl⟩ dX8_word_37 ?_
        replace h := bd_e h
        obtain ⟨r_215, P_214, hc_216, h⟩ := h
        replace h := ck_e h
        obtain ⟨hk_217, h⟩ := h
        refine cc_i (cr_V (As := []) (rest := []) cx (hcc_Jx4a65c_size_8abf5 l D cs t0  P_209 P_214 b_213 r_215 hc_216) kT0 hk_217 (cwV 0 hts (uG uw_Jx4a65c_size_8abf5 ul_RX8_80 ui_Jx4a65c_size_8abf5 us_RJx4a65c_Jx4a65c_size_8abf5 un_RJx4a65c) rfl rfl rfl ud_Jx4a65c_size_8abf5 ⟨Nat.le_of_ble_eq_true rfl, Nat.le_of_ble_eq_true rfl⟩) w rfl hl.1 rfl (Nat.le_of_ble_eq_true rfl) dX8_word_40 ⟨(Nat.le_of_ble_eq_true rfl), (Nat.le_of_ble_eq_true rfl)⟩) (fun H locs w => ?_)
        refine lv_istore (lv' := [(5, .int r_215), (4, .ref b_205), (0, .ref th), (1, .int a1), (2, .int a2), (3, .int a3)]) hx hb dX8_word_43 hl (by decide) (rfl) (fun ls hl => ?_)
        refine lv_iload hx hb dX8_word_45 (lv_at hl 0 rfl) ?_
        refine lv_bipush (v := (14 : Int32)) hx hb dX8_word_47 (by decide) ?_
        refine lv_icmp_lt (tgt := 55) hx hb dX8_word_49 (by decide) (fun q => ?_) (fun q => ?_)
        · replace h := br_p q h
          refine lv_aload_n hx hb dX8_word_55 rfl (lv_at hl 2 rfl) ?_
          replace h := ck_e h
          obtain ⟨hk_218, h⟩ := h
          replace h := nn_e h
          obtain ⟨b_219, hbb_219, h⟩ := h
          refine cw_getS cx hsub w kT9 hk_218 1 (by decide) hbb_219 ⟨hsub _ uf_RX8_20, Or.inl rfl⟩ dX8_word_56 ?_
          replace h := lt_e h
          obtain ⟨z_220, ez_220, h⟩ := h
          replace h := lt_e h
          obtain ⟨P_221, eP_221, h⟩ := h
          refine cw_new cx hsub w kT8 eP_221 (by decide +kernel) (hsub _ ucl_RX8_84) (hsub _ uin_RX7) (hsub _ un_RX7) (Nat.le_of_ble_eq_true rfl) (Nat.le_of_ble_eq_true rfl) dX8_word_59 (fun H w => ?_)
          have hkz_220 : kk P_221 z_220 8 = true := by rw [ez_220]; exact kk_new eP_221
          rw [← ez_220]
          refine lv_dup hx hb dX8_word_62 rfl ?_
          refine lv_iload hx hb dX8_word_63 (lv_at hl 0 rfl) ?_
          refine lv_iload_n hx hb dX8_word_65 rfl (lv_at hl 3 rfl) ?_
          refine lv_aload hx hb dX8_word_66 (lv_at hl 1 rfl) ?_
          refine lv_iload_n hx hb dX8_word_68 rfl (lv_at hl 5 rfl) ?_
          replace h := bd_e h
          obtain ⟨r_223, P_222, hc_224, h⟩ := h
          refine cc_v (cr_I (As := [.int r_215, .int a1, .ref b_205, .int a3]) (rest := [.ref z_220, .ref b_219]) cx (hcc_X7_init l D cs t0  P_221 P_222 z_220 r_215 a1 b_205 a3 r_223 hc_224) (cwI 4 hts (uGB uw_X7_init) rfl rfl rfl (hts _ (hsub _ un_RX7)) (hts _ (hsub _ ul_RX8_86)) (hts _ (hsub _ ui_X7_init)) rfl ud_X7_init.2 ⟨Nat.le_of_ble_eq_true rfl, Nat.le_of_ble_eq_true rfl⟩) w rfl hl.1 rfl (Nat.le_of_ble_eq_true rfl) dX8_word_69 ⟨(Nat.le_of_ble_eq_true rfl), (Nat.le_of_ble_eq_true rfl)⟩) (fun H locs w => ?_)
          replace h := bd_e h
          obtain ⟨r_226, P_225, hc_227, h⟩ := h
          replace h := ck_e h
          obtain ⟨hk_228, h⟩ := h
          refine cc_i (cr_V (As := [.ref z_220]) (rest := []) cx (hcc_Jx4a65c_add_9ea2d l D cs t0  P_222 P_225 b_219 z_220 r_226 hc_227) kT0 hk_228 (cwV 1 hts (uG uw_Jx4a65c_add_9ea2d ul_RX8_89 ui_Jx4a65c_add_9ea2d us_RJx4a65c_Jx4a65c_add_9ea2d un_RJx4a65c) rfl rfl rfl ud_Jx4a65c_add_9ea2d ⟨Nat.le_of_ble_eq_true rfl, Nat.le_of_ble_eq_true rfl⟩) w rfl hl.1 rfl (Nat.le_of_ble_eq_true rfl) dX8_word_72 ⟨(Nat.le_of_ble_eq_true rfl), (Nat.le_of_ble_eq_true rfl)⟩) (fun H locs w => ?_)
          refine lv_pop hx hb dX8_word_75 rfl ?_
          refine lv_aload hx hb dX8_word_76 (lv_at hl 1 rfl) ?_
          refine lv_dup hx hb dX8_word_78 rfl ?_
          replace h := ck_e h
          obtain ⟨hk_229, h⟩ := h
          refine cw_getI cx hsub w kT3 hk_229 2 (by decide) ⟨hsub _ uf_RX8_93, Or.inl rfl⟩ dX8_word_79 ?_
          refine lv_iconst (v := (1 : Int32)) hx hb dX8_word_82 (by decide) ?_
          refine lv_iload hx hb dX8_word_83 (lv_at hl 0 rfl) ?_
          refine lv_ishl hx hb dX8_word_85 ?_
          refine lv_ior hx hb dX8_word_86 ?_
          replace h := lt_e h
          obtain ⟨P_230, eP_230, h⟩ := h
          refine cw_putI cx hsub w kT3 hk_229 2 eP_230 ⟨by decide, by decide, rfl⟩ (Or.inl rfl) ⟨hsub _ uf_RX8_93, Or.inl rfl⟩ dX8_word_87 (fun H locs w => ?_)
          refine lv_iload hx hb dX8_word_90 (lv_at hl 0 rfl) ?_
          refine W.widen (k := 3) (n := 74) (Nat.le_of_ble_eq_true rfl) (Nat.le_of_ble_eq_true rfl) ?_
          exact cw_iret cx (rt_e h) w dX8_word_92
        · replace h := br_n q h
          refine lv_bipush (v := (-4 : Int32)) hx hb dX8_word_52 (by decide) ?_
          refine W.widen (k := 3) (n := 74) (Nat.le_of_ble_eq_true rfl) (Nat.le_of_ble_eq_true rfl) ?_
          exact cw_iret cx (rt_e h) w dX8_word_54
      · replace h := br_p q h
        refine lv_bipush (v := (-2 : Int32)) hx hb dX8_word_33 (by decide) ?_
        refine W.widen (k := 3) (n := 74) (Nat.le_of_ble_eq_true rfl) (Nat.le_of_ble_eq_true rfl) ?_
        exact cw_iret cx (rt_e h) w dX8_word_35
    · replace h := br_p q h
      refine W.widen (k := 0) (n := 0) (Nat.le_of_ble_eq_true rfl) (Nat.le_of_ble_eq_true rfl) ?_
      exact J21   P_206 h _ _ _ (lv_sub hl [] rfl) w
def hm_X8_hold_22 (t0 : TS)  (P : PS) : Option (Int32 × PS) := some ((-1 : Int32), P)
def hm_X8_hold (t0 : TS) (P : PS) (th : Nat) (a1 : Int32) (a2 : Int32) : Option (Int32 × PS) := bd (hm_X8_wordAt  P th a1) (fun o_202 P_201 => ck (kk P th 9) (bd (hm_X8_wordAt  P_201 th a2) (fun o_206 P_205 => ck (kk P_201 th 9) (nl o_202 (hm_X8_hold_22 t0   P_205) (fun b_209 => nl o_206 (hm_X8_hold_22 t0   P_205) (fun b_210 => if a2 < a1 then (bd (hm_X7_mayHold  P_205 b_209) (fun r_212 P_211 => ck (kk P_205 b_209 8) (if r_212 = (0 : Int32) then (some ((-12 : Int32), P_211)) else (ck (kk P_211 b_209 8) (bd (hm_X8_has  P_211 (pI P_211 b_209 6) a2) (fun r_217 P_216 => if r_217 = (0 : Int32) then (ck (kk P_216 b_209 8) (nn (pR P_216 b_209 5) (fun b_220 => bd (hm_Jx4a65c_size_8abf5  P_216 b_220) (fun r_222 P_221 => ck (kk P_216 b_220 0) (bd (hm_X7_mayHold  P_221 b_209) (fun r_226 P_225 => ck (kk P_221 b_209 8) (if r_222 < r_226 then (ck (kk P_225 b_209 8) (nn (pR P_225 b_209 5) (fun b_230 => bd (hm_Jx4a65c_add_9ea2d t0  P_225 b_230 b_210) (fun r_232 P_231 => ck (kk P_225 b_230 0) (ck (kk P_231 b_209 8) (lt_ (pIu P_231 b_209 6 ((pI P_231 b_209 6) ||| ((1 : Int32) <<< (a2 &&& 31)))) (fun P_236 => nn (pR P_236 b_209 5) (fun b_238 => bd (hm_Jx4a65c_size_8abf5  P_236 b_238) (fun r_240 P_239 => ck (kk P_236 b_238 0) (some (r_240, P_239))))))))))) else (some ((-4 : Int32), P_225))))))))) else (some ((-3 : Int32), P_216)))))))) else (some ((-2 : Int32), P_205))))))))
abbrev wu_X8_hold : List Cond := .code yX8_hold cX8_hold 5 (some .int) :: wsL_law
theorem ud_X8_hold : yX8_hold.cls = RX8 ∧ yX8_hold.cls ≠ "java/lang/invoke/MethodHandle" ∧ yX8_hold.cls ≠ "java/lang/invoke/VarHandle" ∧ (parseMethodDescriptor yX8_hold.desc).map (fun d => d.parameters.length) = some 2 := by decide +kernel
abbrev rmc_X8_hold : Room := { frames := 7, cells := 1, slots := 64, locals := 171 }
set_option maxHeartbeats 4000000 in
set_option maxRecDepth 100000 in
theorem hcc_X8_hold (l : Launch) (D : va_G) (cs : Nat → ClassId) (t0 : TS) (P0 T : PS) (th : Nat) (a1 : Int32) (a2 : Int32) (r0 : Int32) (h : hm_X8_hold t0 P0 th a1 a2 = some (r0, T)) : MetCI l yX8_hold wu_X8_hold rmc_X8_hold D cs t0 [.ref th, .int a1, .int a2] P0 T r0 1 64 := by
  refine co_start (own := RX8) (ty := (some .int)) (cc := cX8_hold) (maxL := 5) ⟨by decide, rfl⟩ rfl (Nat.le_of_ble_eq_true rfl) ?_
  intro p e s m args below meth c ls cx hnm hl w
  have hx := cx.1
  have hb := cx.2.1
  have hts := cx.2.2.2.1
  have hown := cx.2.2.2.2.1
  have hml := cx.2.2.2.2.2.2
  have hsub : ∀ w ∈ wsL_law, w ∈ wu_X8_hold := fun _ hq => List.mem_cons_of_mem _ hq
  have hl : lv_has ls 5 [(0, .ref th), (1, .int a1), (2, .int a2)] := hl
  have J22 : ∀  (P : PS), hm_X8_hold_22 t0   P = some (r0, T) → cGo p l e rmc_X8_hold s m args below meth c 5 D cs t0 (pA P0) (cQI below D cs P0 args s 1 64 r0 T) 0 0 22 [] [] P := by
    intro  P h H locs ls hl w
    unfold hm_X8_hold_22 at h
    refine lv_iconst (v := (-1 : Int32)) hx hb dX8_hold_22 (by decide) ?_
    refine W.widen (k := 1) (n := 64) (Nat.le_of_ble_eq_true rfl) (Nat.le_of_ble_eq_true rfl) ?_
    exact cw_iret cx (rt_e h) w dX8_hold_23
  have hP0 : P0 = P0 := rfl
  unfold hm_X8_hold at h
  refine lv_aload_n hx hb dX8_hold_0 rfl (lv_at hl 0 rfl) ?_
  refine lv_iload_n hx hb dX8_hold_1 rfl (lv_at hl 1 rfl) ?_
  replace h := bd_e h
  obtain ⟨o_202, P_201, hc_203, h⟩ := h
  replace h := ck_e h
  obtain ⟨hk_204, h⟩ := h
  refine cc_q (cr_V (As := [.int a1]) (rest := []) cx (hcc_X8_wordAt l D cs t0  P0 P_201 th a1 o_202 hc_203) kT9 hk_204 (cwV 1 hts (uG uw_X8_wordAt ul_RX8_95 ui_X8_wordAt us_RX8_X8_wordAt un_RX8) rfl rfl rfl ud_X8_wordAt ⟨Nat.le_of_ble_eq_true rfl, Nat.le_of_ble_eq_true rfl⟩) w rfl hl.1 rfl (Nat.le_of_ble_eq_true rfl) dX8_hold_2 ⟨(Nat.le_of_ble_eq_true rfl), (Nat.le_of_ble_eq_true rfl)⟩) (fun H locs w => ?_)
  refine lq_astore_n (lv' := [(3, va_rf o_202), (0, .ref th), (1, .int a1), (2, .int a2)]) hx hb dX8_hold_5 rfl hl (by decide) (fun v hv => by subst hv; exact (rfl)) (fun ls hl => ?_)
  refine lv_aload_n hx hb dX8_hold_6 rfl (lv_at hl 1 rfl) ?_
  refine lv_iload_n hx hb dX8_hold_7 rfl (lv_at hl 3 rfl) ?_
  replace h := bd_e h
  obtain ⟨o_206, P_205, hc_207, h⟩ := h
  replace h := ck_e h
  obtain ⟨hk_208, h⟩ := h
  refine cc_q (cr_V (As := [.int a2]) (rest := []) cx (hcc_X8_wordAt l D cs t0  P_201 P_205 th a2 o_206 hc_207) kT9 hk_208 (cwV 1 hts (uG uw_X8_wordAt ul_RX8_95 ui_X8_wordAt us_RX8_X8_wordAt un_RX8) rfl rfl rfl ud_X8_wordAt ⟨Nat.le_of_ble_eq_true rfl, Nat.le_of_ble_eq_true rfl⟩) w rfl hl.1 rfl (Nat.le_of_ble_eq_true rfl) dX8_hold_8 ⟨(Nat.le_of_ble_eq_true rfl), (Nat.le_of_ble_eq_true rfl)⟩) (fun H locs w => ?_)
  refine lq_astore (lv' := [(4, va_rf o_206), (3, va_rf o_202), (0, .ref th), (1, .int a1), (2, .int a2)]) hx hb dX8_hold_11 hl (by decide) (fun v hv => by subst hv; exact (by simp [List.filter, va_rf_cat])) (fun ls hl => ?_)
  refine lq_aload_n hx hb dX8_hold_13 rfl (lv_at hl 1 rfl) ?_
  cases o_202 with
  | none =>
    replace h := nl_n h
    have hl : lv_has ls 5 [(4, va_rf o_206), (3, .null), (0, .ref th), (1, .int a1), (2, .int a2)] := hl
    refine lv_ifnullN (tgt := 22) hx hb dX8_hold_14 (by decide) ?_
    refine W.widen (k := 0) (n := 0) (Nat.le_of_ble_eq_true rfl) (Nat.le_of_ble_eq_true rfl) ?_
    exact J22   P_205 h _ _ _ (lv_sub hl [] rfl) w
  | some b_209 =>
    replace h := nl_s h
    have hl : lv_has ls 5 [(4, va_rf o_206), (3, .ref b_209), (0, .ref th), (1, .int a1), (2, .int a2)] := hl
    refine lv_ifnull hx hb dX8_hold_14 ?_
    refine lq_aload hx hb dX8_hold_17 (lv_at hl 0 rfl) ?_
    cases o_206 with
    | none =>
      replace h := nl_n h
      have hl : lv_has ls 5 [(4, .null), (3, .ref b_209), (0, .ref th), (1, .int a1), (2, .int a2)] := hl
      refine lv_ifnonnullN hx hb dX8_hold_19 ?_
      refine W.widen (k := 0) (n := 0) (Nat.le_of_ble_eq_true rfl) (Nat.le_of_ble_eq_true rfl) ?_
      exact J22   P_205 h _ _ _ (lv_sub hl [] rfl) w
    | some b_210 =>
      replace h := nl_s h
      have hl : lv_has ls 5 [(4, .ref b_210), (3, .ref b_209), (0, .ref th), (1, .int a1), (2, .int a2)] := hl
      refine lv_ifnonnull (tgt := 24) hx hb dX8_hold_19 (by decide) ?_
      refine lv_iload_n hx hb dX8_hold_24 rfl (lv_at hl 4 rfl) ?_
      refine lv_iload_n hx hb dX8_hold_25 rfl (lv_at hl 3 rfl) ?_
      refine lv_icmp_lt (tgt := 32) hx hb dX8_hold_26 (by decide) (fun q => ?_) (fun q => ?_)
      · replace h := br_p q h
        refine lv_aload_n hx hb dX8_hold_32 rfl (lv_at hl 1 rfl) ?_
        replace h := bd_e h
        obtain ⟨r_212, P_211, hc_213, h⟩ := h
        replace h := ck_e h
        obtain ⟨hk_214, h⟩ := h
        refine cc_i (cr_V (As := []) (rest := []) cx (hcc_X7_mayHold l D cs t0  P_205 P_211 b_209 r_212 hc_213) kT8 hk_214 (cwV 0 hts (uG uw_X7_mayHold ul_RX8_99 ui_X7_mayHold us_RX7_X7_mayHold un_RX7) rfl rfl rfl ud_X7_mayHold ⟨Nat.le_of_ble_eq_true rfl, Nat.le_of_ble_eq_true rfl⟩) w rfl hl.1 rfl (Nat.le_of_ble_eq_true rfl) dX8_hold_33 ⟨(Nat.le_of_ble_eq_true rfl), (Nat.le_of_ble_eq_true rfl)⟩) (fun H locs w => ?_)
        refine lv_if_ne (tgt := 42) hx hb dX8_hold_36 (by decide) (fun q => ?_) (fun q => ?_)
        · replace h := br_n q h
          refine lv_aload_n hx hb dX8_hold_42 rfl (lv_at hl 1 rfl) ?_
          replace h := ck_e h
          obtain ⟨hk_215, h⟩ := h
          refine cw_getI cx hsub w kT8 hk_215 6 (by decide) ⟨hsub _ uf_RX8_102, Or.inl rfl⟩ dX8_hold_43 ?_
          refine lv_iload_n hx hb dX8_hold_46 rfl (lv_at hl 4 rfl) ?_
          replace h := bd_e h
          obtain ⟨r_217, P_216, hc_218, h⟩ := h
          refine cc_i (cr_S (As := [.int (pI P_211 b_209 6), .int a2]) (rest := []) cx (hcc_X8_has l D cs t0  P_211 P_216 (pI P_211 b_209 6) a2 r_217 hc_218) (va_cwS 2 hts (uGS uw_X8_has ul_RX8_105 ut_X8_has un_RX8) rfl rfl rfl ud_X8_has.2 ⟨Nat.le_of_ble_eq_true rfl, Nat.le_of_ble_eq_true rfl⟩) w rfl hl.1 rfl (Nat.le_of_ble_eq_true rfl) dX8_hold_47 ⟨(Nat.le_of_ble_eq_true rfl), (Nat.le_of_ble_eq_true rfl)⟩) (fun H locs w => ?_)
          refine lv_if_eq (tgt := 56) hx hb dX8_hold_50 (by decide) (fun q => ?_) (fun q => ?_)
          · replace h := br_p q h
            refine lv_aload_n hx hb dX8_hold_56 rfl (lv_at hl 1 rfl) ?_
            replace h := ck_e h
            obtain ⟨hk_219, h⟩ := h
            replace h := nn_e h
            obtain ⟨b_220, hbb_220, h⟩ := h
            refine cw_getS cx hsub w kT8 hk_219 5 (by decide) hbb_220 ⟨hsub _ uf_RX8_108, Or.inl rfl⟩ dX8_hold_57 ?_
            replace h := bd_e h
            obtain ⟨r_222, P_221, hc_223, h⟩ := h
            replace h := ck_e h
            obtain ⟨hk_224, h⟩ := h
            refine cc_i (cr_V (As := []) (rest := []) cx (hcc_Jx4a65c_size_8abf5 l D cs t0  P_216 P_221 b_220 r_222 hc_223) kT0 hk_224 (cwV 0 hts (uG uw_Jx4a65c_size_8abf5 ul_RX8_80 ui_Jx4a65c_size_8abf5 us_RJx4a65c_Jx4a65c_size_8abf5 un_RJx4a65c) rfl rfl rfl ud_Jx4a65c_size_8abf5 ⟨Nat.le_of_ble_eq_true rfl, Nat.le_of_ble_eq_true rfl⟩) w rfl hl.1 rfl (Nat.le_of_ble_eq_true rfl) dX8_hold_60 ⟨(Nat.le_of_ble_eq_true rfl), (Nat.le_of_ble_eq_true rfl)⟩) (fun H locs w => ?_)
            refine lv_aload_n hx hb dX8_hold_63 rfl (lv_at hl 1 rfl) ?_
            replace h := bd_e h
            obtain ⟨r_226, P_225, hc_227, h⟩ := h
            replace h := ck_e h
            obtain ⟨hk_228, h⟩ := h
            refine cc_i (cr_V (As := []) (rest := [.int r_222]) cx (hcc_X7_mayHold l D cs t0  P_221 P_225 b_209 r_226 hc_227) kT8 hk_228 (cwV 0 hts (uG uw_X7_mayHold ul_RX8_99 ui_X7_mayHold us_RX7_X7_mayHold un_RX7) rfl rfl rfl ud_X7_mayHold ⟨Nat.le_of_ble_eq_true rfl, Nat.le_of_ble_eq_true rfl⟩) w rfl hl.1 rfl (Nat.le_of_ble_eq_true rfl) dX8_hold_64 ⟨(Nat.le_of_ble_eq_true rfl), (Nat.le_of_ble_eq_true rfl)⟩) (fun H locs w => ?_)
            refine lv_icmp_lt (tgt := 73) hx hb dX8_hold_67 (by decide) (fun q => ?_) (fun q => ?_)
            · replace h := br_p q h
              refine lv_aload_n hx hb dX8_hold_73 rfl (lv_at hl 1 rfl) ?_
              replace h := ck_e h
              obtain ⟨hk_229, h⟩ := h
              replace h := nn_e h
              obtain ⟨b_230, hbb_230, h⟩ := h
              refine cw_getS cx hsub w kT8 hk_229 5 (by decide) hbb_230 ⟨hsub _ uf_RX8_108, Or.inl rfl⟩ dX8_hold_74 ?_
              refine lv_aload hx hb dX8_hold_77 (lv_at hl 0 rfl) ?_
              replace h := bd_e h
              obtain ⟨r_232, P_231, hc_233, h⟩ := h
              replace h := ck_e h
              obtain ⟨hk_234, h⟩ := h
              refine cc_i (cr_V (As := [.ref b_210]) (rest := []) cx (hcc_Jx4a65c_add_9ea2d l D cs t0  P_225 P_231 b_230 b_210 r_232 hc_233) kT0 hk_234 (cwV 1 hts (uG uw_Jx4a65c_add_9ea2d ul_RX8_89 ui_Jx4a65c_add_9ea2d us_RJx4a65c_Jx4a65c_add_9ea2d un_RJx4a65c) rfl rfl rfl ud_Jx4a65c_add_9ea2d ⟨Nat.le_of_ble_eq_true rfl, Nat.le_of_ble_eq_true rfl⟩) w rfl hl.1 rfl (Nat.le_of_ble_eq_true rfl) dX8_hold_79 ⟨(Nat.le_of_ble_eq_true rfl), (Nat.le_of_ble_eq_true rfl)⟩) (fun H locs w => ?_)
              refine lv_pop hx hb dX8_hold_82 rfl ?_
              refine lv_aload_n hx hb dX8_hold_83 rfl (lv_at hl 1 rfl) ?_
              refine lv_dup hx hb dX8_hold_84 rfl ?_
              replace h := ck_e h
              obtain ⟨hk_235, h⟩ := h
              refine cw_getI cx hsub w kT8 hk_235 6 (by decide) ⟨hsub _ uf_RX8_102, Or.inl rfl⟩ dX8_hold_85 ?_
              refine lv_iconst (v := (1 : Int32)) hx hb dX8_hold_88 (by decide) ?_
              refine lv_iload_n hx hb dX8_hold_89 rfl (lv_at hl 4 rfl) ?_
              refine lv_ishl hx hb dX8_hold_90 ?_
              refine lv_ior hx hb dX8_hold_91 ?_
              replace h := lt_e h
              obtain ⟨P_236, eP_236, h⟩ := h
              refine cw_putI cx hsub w kT8 hk_235 6 eP_236 ⟨by decide, by decide, rfl⟩ (Or.inl rfl) ⟨hsub _ uf_RX8_102, Or.inl rfl⟩ dX8_hold_92 (fun H locs w => ?_)
              refine lv_aload_n hx hb dX8_hold_95 rfl (lv_at hl 1 rfl) ?_
              have hk_237 : kk P_236 b_209 8 = true := by rw [eP_236]; exact hk_235
              replace h := nn_e h
              obtain ⟨b_238, hbb_238, h⟩ := h
              refine cw_getS cx hsub w kT8 hk_237 5 (by decide) hbb_238 ⟨hsub _ uf_RX8_108, Or.inl rfl⟩ dX8_hold_96 ?_
              replace h := bd_e h
              obtain ⟨r_240, P_239, hc_241, h⟩ := h
              replace h := ck_e h
              obtain ⟨hk_242, h⟩ := h
              refine cc_i (cr_V (As := []) (rest := []) cx (hcc_Jx4a65c_size_8abf5 l D cs t0  P_236 P_239 b_238 r_240 hc_241) kT0 hk_242 (cwV 0 hts (uG uw_Jx4a65c_size_8abf5 ul_RX8_80 ui_Jx4a65c_size_8abf5 us_RJx4a65c_Jx4a65c_size_8abf5 un_RJx4a65c) rfl rfl rfl ud_Jx4a65c_size_8abf5 ⟨Nat.le_of_ble_eq_true rfl, Nat.le_of_ble_eq_true rfl⟩) w rfl hl.1 rfl (Nat.le_of_ble_eq_true rfl) dX8_hold_99 ⟨(Nat.le_of_ble_eq_true rfl), (Nat.le_of_ble_eq_true rfl)⟩) (fun H locs w => ?_)
              refine W.widen (k := 1) (n := 64) (Nat.le_of_ble_eq_true rfl) (Nat.le_of_ble_eq_true rfl) ?_
              exact cw_iret cx (rt_e h) w dX8_hold_102
            · replace h := br_n q h
              refine lv_bipush (v := (-4 : Int32)) hx hb dX8_hold_70 (by decide) ?_
              refine W.widen (k := 1) (n := 64) (Nat.le_of_ble_eq_true rfl) (Nat.le_of_ble_eq_true rfl) ?_
              exact cw_iret cx (rt_e h) w dX8_hold_72
          · replace h := br_n q h
            refine lv_bipush (v := (-3 : Int32)) hx hb dX8_hold_53 (by decide) ?_
            refine W.widen (k := 1) (n := 64) (Nat.le_of_ble_eq_true rfl) (Nat.le_of_ble_eq_true rfl) ?_
            exact cw_iret cx (rt_e h) w dX8_hold_55
        · replace h := br_p q h
          refine lv_bipush (v := (-12 : Int32)) hx hb dX8_hold_39 (by decide) ?_
          refine W.widen (k := 1) (n := 64) (Nat.le_of_ble_eq_true rfl) (Nat.le_of_ble_eq_true rfl) ?_
          exact cw_iret cx (rt_e h) w dX8_hold_41
      · replace h := br_n q h
        refine lv_bipush (v := (-2 : Int32)) hx hb dX8_hold_29 (by decide) ?_
        refine W.widen (k := 1) (n := 64) (Nat.le_of_ble_eq_true rfl) (Nat.le_of_ble_eq_true rfl) ?_
        exact cw_iret cx (rt_e h) w dX8_hold_31
def hm_Jx4a65c_fastRemove_b59b0 (P : PS) (th : Nat) (a1 : Nat) (a2 : Int32) : Option (Int32 × PS) := ck (kk P th 0) (lt_ (pIu P th 0 ((pI P th 0) + (1 : Int32))) (fun P_102 => lt_ (((pI P_102 th 2) - (1 : Int32))) (fun x3_104 => if ((pI P_102 th 2) - (1 : Int32)) ≤ a2 then (lt_ (pIu P_102 th 2 x3_104) (fun P_105 => ck (kk P_105 a1 17) (ck (vin x3_104 (pN P_105 a1)) (lt_ (pRu P_105 a1 (x3_104).toNatClampNeg none) (fun P_108 => some ((0 : Int32), P_108)))))) else (none))))
abbrev wu_Jx4a65c_fastRemove_b59b0 : List Cond := .code yJx4a65c_fastRemove_b59b0 cJx4a65c_fastRemove_b59b0 4 none :: wsL_law
theorem ud_Jx4a65c_fastRemove_b59b0 : yJx4a65c_fastRemove_b59b0.cls = RJx4a65c ∧ yJx4a65c_fastRemove_b59b0.cls ≠ "java/lang/invoke/MethodHandle" ∧ yJx4a65c_fastRemove_b59b0.cls ≠ "java/lang/invoke/VarHandle" ∧ (parseMethodDescriptor yJx4a65c_fastRemove_b59b0.desc).map (fun d => d.parameters.length) = some 2 := by decide +kernel
abbrev rmc_Jx4a65c_fastRemove_b59b0 : Room := { frames := 0, cells := 0, slots := 0, locals := 0 }
set_option maxHeartbeats 4000000 in
set_option maxRecDepth 100000 in
theorem hcc_Jx4a65c_fastRemove_b59b0 (l : Launch) (D : va_G) (cs : Nat → ClassId) (t0 : TS) (P0 T : PS) (th : Nat) (a1 : Nat) (a2 : Int32) (r0 : Int32) (h : hm_Jx4a65c_fastRemove_b59b0 P0 th a1 a2 = some (r0, T)) : MetCV l yJx4a65c_fastRemove_b59b0 wu_Jx4a65c_fastRemove_b59b0 rmc_Jx4a65c_fastRemove_b59b0 D cs t0 [.ref th, .ref a1, .int a2] P0 T r0 0 0 := by
  refine co_start (own := RJx4a65c) (ty := none) (cc := cJx4a65c_fastRemove_b59b0) (maxL := 4) ⟨by decide, rfl⟩ rfl (Nat.le_of_ble_eq_true rfl) ?_
  intro p e s m args below meth c ls cx hnm hl w
  have hx := cx.1
  have hb := cx.2.1
  have hts := cx.2.2.2.1
  have hown := cx.2.2.2.2.1
  have hml := cx.2.2.2.2.2.2
  have hsub : ∀ w ∈ wsL_law, w ∈ wu_Jx4a65c_fastRemove_b59b0 := fun _ hq => List.mem_cons_of_mem _ hq
  have hl : lv_has ls 4 [(0, .ref th), (1, .ref a1), (2, .int a2)] := hl
  have hP0 : P0 = P0 := rfl
  unfold hm_Jx4a65c_fastRemove_b59b0 at h
  refine lv_aload_n hx hb dJx4a65c_fastRemove_b59b0_0 rfl (lv_at hl 0 rfl) ?_
  refine lv_dup hx hb dJx4a65c_fastRemove_b59b0_1 rfl ?_
  replace h := ck_e h
  obtain ⟨hk_101, h⟩ := h
  refine cw_getI cx hsub w kT0 hk_101 0 (by decide) ⟨hsub _ uf_RJx4a65c_63, Or.inr (hsub _ usf_mod)⟩ dJx4a65c_fastRemove_b59b0_2 ?_
  refine lv_iconst (v := (1 : Int32)) hx hb dJx4a65c_fastRemove_b59b0_5 (by decide) ?_
  refine lv_iadd hx hb dJx4a65c_fastRemove_b59b0_6 ?_
  replace h := lt_e h
  obtain ⟨P_102, eP_102, h⟩ := h
  refine cw_putI cx hsub w kT0 hk_101 0 eP_102 ⟨by decide, by decide, rfl⟩ (Or.inl rfl) ⟨hsub _ uf_RJx4a65c_63, Or.inr (hsub _ usf_mod)⟩ dJx4a65c_fastRemove_b59b0_7 (fun H locs w => ?_)
  refine lv_aload_n hx hb dJx4a65c_fastRemove_b59b0_10 rfl (lv_at hl 0 rfl) ?_
  have hk_103 : kk P_102 th 0 = true := by rw [eP_102]; exact hk_101
  refine cw_getI cx hsub w kT0 hk_103 2 (by decide) ⟨hsub _ uf_RJx4a65c_48, Or.inl rfl⟩ dJx4a65c_fastRemove_b59b0_11 ?_
  refine lv_iconst (v := (1 : Int32)) hx hb dJx4a65c_fastRemove_b59b0_14 (by decide) ?_
  refine lv_isub hx hb dJx4a65c_fastRemove_b59b0_15 ?_
  refine lv_dup hx hb dJx4a65c_fastRemove_b59b0_16 rfl ?_
  replace h := lt_e h
  obtain ⟨x3_104, ex3_104, h⟩ := h
  refine top_i ex3_104 ?_
  refine lv_istore_n (lv' := [(3, .int x3_104), (0, .ref th), (1, .ref a1), (2, .int a2)]) hx hb dJx4a65c_fastRemove_b59b0_17 rfl hl (by decide) (rfl) (fun ls hl => ?_)
  refine lv_iload_n hx hb dJx4a65c_fastRemove_b59b0_18 rfl (lv_at hl 3 rfl) ?_
  refine lv_icmp_le (tgt := 34) hx hb dJx4a65c_fastRemove_b59b0_19 (by decide) (fun q => ?_) (fun q => ?_)
  · replace h := br_p q h
    refine lv_aload_n hx hb dJx4a65c_fastRemove_b59b0_34 rfl (lv_at hl 2 rfl) ?_
    refine lv_aload_n hx hb dJx4a65c_fastRemove_b59b0_35 rfl (lv_at hl 1 rfl) ?_
    refine lv_iload_n hx hb dJx4a65c_fastRemove_b59b0_36 rfl (lv_at hl 0 rfl) ?_
    refine lv_dup_x1 hx hb dJx4a65c_fastRemove_b59b0_37 rfl rfl ?_
    replace h := lt_e h
    obtain ⟨P_105, eP_105, h⟩ := h
    refine cw_putI cx hsub w kT0 hk_103 2 eP_105 ⟨by decide, by decide, rfl⟩ (Or.inl rfl) ⟨hsub _ uf_RJx4a65c_48, Or.inl rfl⟩ dJx4a65c_fastRemove_b59b0_38 (fun H locs w => ?_)
    refine lv_null hx hb dJx4a65c_fastRemove_b59b0_41 ?_
    replace h := ck_e h
    obtain ⟨hk_106, h⟩ := h
    replace h := ck_e h
    obtain ⟨hq_107, h⟩ := h
    replace h := lt_e h
    obtain ⟨P_108, eP_108, h⟩ := h
    refine cw_oastN cx w hk_106 hq_107 eP_108 dJx4a65c_fastRemove_b59b0_42 (fun H locs w => ?_)
    exact cw_vret cx (rt_e h) w dJx4a65c_fastRemove_b59b0_43
  · replace h := br_n q h
    cases h
def hm_Jx4a65c_remove_915e3 (P : PS) (th : Nat) (a1 : Int32) : Option (Option Nat × PS) := ck (kk P th 0) (bd (hm_J15_checkIndex_7cf53  P a1 (pI P th 2)) (fun r_103 P_102 => ck (kk P_102 th 0) (nn (pR P_102 th 1) (fun b_106 => ck (kk P_102 b_106 17) (ck (vin a1 (pN P_102 b_106)) (lt_ (pR P_102 b_106 (a1).toNatClampNeg) (fun o_109 => bd (hm_Jx4a65c_fastRemove_b59b0  P_102 th b_106 a1) (fun _ P_110 => some (o_109, P_110)))))))))
abbrev wu_Jx4a65c_remove_915e3 : List Cond := .code yJx4a65c_remove_915e3 cJx4a65c_remove_915e3 4 (some (.object "java/lang/Object")) :: wsL_law
theorem ud_Jx4a65c_remove_915e3 : yJx4a65c_remove_915e3.cls = RJx4a65c ∧ yJx4a65c_remove_915e3.cls ≠ "java/lang/invoke/MethodHandle" ∧ yJx4a65c_remove_915e3.cls ≠ "java/lang/invoke/VarHandle" ∧ (parseMethodDescriptor yJx4a65c_remove_915e3.desc).map (fun d => d.parameters.length) = some 1 := by decide +kernel
abbrev rmc_Jx4a65c_remove_915e3 : Room := { frames := 2, cells := 0, slots := 0, locals := 43 }
set_option maxHeartbeats 4000000 in
set_option maxRecDepth 100000 in
theorem hcc_Jx4a65c_remove_915e3 (l : Launch) (D : va_G) (cs : Nat → ClassId) (t0 : TS) (P0 T : PS) (th : Nat) (a1 : Int32) (r0 : Option Nat) (h : hm_Jx4a65c_remove_915e3 P0 th a1 = some (r0, T)) : MetCQ l yJx4a65c_remove_915e3 wu_Jx4a65c_remove_915e3 rmc_Jx4a65c_remove_915e3 D cs t0 [.ref th, .int a1] P0 T r0 0 0 := by
  refine co_start (own := RJx4a65c) (ty := (some (.object "java/lang/Object"))) (cc := cJx4a65c_remove_915e3) (maxL := 4) ⟨by decide, rfl⟩ rfl (Nat.le_of_ble_eq_true rfl) ?_
  intro p e s m args below meth c ls cx hnm hl w
  have hx := cx.1
  have hb := cx.2.1
  have hts := cx.2.2.2.1
  have hown := cx.2.2.2.2.1
  have hml := cx.2.2.2.2.2.2
  have hsub : ∀ w ∈ wsL_law, w ∈ wu_Jx4a65c_remove_915e3 := fun _ hq => List.mem_cons_of_mem _ hq
  have hl : lv_has ls 4 [(0, .ref th), (1, .int a1)] := hl
  have hP0 : P0 = P0 := rfl
  unfold hm_Jx4a65c_remove_915e3 at h
  refine lv_iload_n hx hb dJx4a65c_remove_915e3_0 rfl (lv_at hl 1 rfl) ?_
  refine lv_aload_n hx hb dJx4a65c_remove_915e3_1 rfl (lv_at hl 0 rfl) ?_
  replace h := ck_e h
  obtain ⟨hk_101, h⟩ := h
  refine cw_getI cx hsub w kT0 hk_101 2 (by decide) ⟨hsub _ uf_RJx4a65c_48, Or.inl rfl⟩ dJx4a65c_remove_915e3_2 ?_
  replace h := bd_e h
  obtain ⟨r_103, P_102, hc_104, h⟩ := h
  refine cc_i (cr_S (As := [.int a1, .int (pI P0 th 2)]) (rest := []) cx (hcc_J15_checkIndex_7cf53 l D cs t0  P0 P_102 a1 (pI P0 th 2) r_103 hc_104) (va_cwS 2 hts (uGS uw_J15_checkIndex_7cf53 ul_RJx4a65c_118 ut_J15_checkIndex_7cf53 un_RJ15) rfl rfl rfl ud_J15_checkIndex_7cf53.2 ⟨Nat.le_of_ble_eq_true rfl, Nat.le_of_ble_eq_true rfl⟩) w rfl hl.1 rfl (Nat.le_of_ble_eq_true rfl) dJx4a65c_remove_915e3_5 ⟨(Nat.le_of_ble_eq_true rfl), (Nat.le_of_ble_eq_true rfl)⟩) (fun H locs w => ?_)
  refine lv_pop hx hb dJx4a65c_remove_915e3_8 rfl ?_
  refine lv_aload_n hx hb dJx4a65c_remove_915e3_9 rfl (lv_at hl 0 rfl) ?_
  replace h := ck_e h
  obtain ⟨hk_105, h⟩ := h
  replace h := nn_e h
  obtain ⟨b_106, hbb_106, h⟩ := h
  refine cw_getS cx hsub w kT0 hk_105 1 (by decide) hbb_106 ⟨hsub _ uf_RJx4a65c_9, Or.inl rfl⟩ dJx4a65c_remove_915e3_10 ?_
  refine lv_astore_n (lv' := [(2, .ref b_106), (0, .ref th), (1, .int a1)]) hx hb dJx4a65c_remove_915e3_13 rfl hl (by decide) (rfl) (fun ls hl => ?_)
  refine lv_aload_n hx hb dJx4a65c_remove_915e3_14 rfl (lv_at hl 0 rfl) ?_
  refine lv_iload_n hx hb dJx4a65c_remove_915e3_15 rfl (lv_at hl 2 rfl) ?_
  replace h := ck_e h
  obtain ⟨hk_107, h⟩ := h
  replace h := ck_e h
  obtain ⟨hq_108, h⟩ := h
  replace h := lt_e h
  obtain ⟨o_109, eo_109, h⟩ := h
  refine cw_oald cx w hk_107 hq_108 eo_109 dJx4a65c_remove_915e3_16 ?_
  refine lq_astore_n (lv' := [(3, va_rf o_109), (2, .ref b_106), (0, .ref th), (1, .int a1)]) hx hb dJx4a65c_remove_915e3_17 rfl hl (by decide) (fun v hv => by subst hv; exact (rfl)) (fun ls hl => ?_)
  refine lv_aload_n hx hb dJx4a65c_remove_915e3_18 rfl (lv_at hl 2 rfl) ?_
  refine lv_aload_n hx hb dJx4a65c_remove_915e3_19 rfl (lv_at hl 1 rfl) ?_
  refine lv_iload_n hx hb dJx4a65c_remove_915e3_20 rfl (lv_at hl 3 rfl) ?_
  replace h := bd_e h
  obtain ⟨r_111, P_110, hc_112, h⟩ := h
  refine cc_v (cr_V (As := [.ref b_106, .int a1]) (rest := []) cx (hcc_Jx4a65c_fastRemove_b59b0 l D cs t0  P_102 P_110 th b_106 a1 r_111 hc_112) kT0 hk_105 (cwV 2 hts (uG uw_Jx4a65c_fastRemove_b59b0 ul_RJx4a65c_144 ui_Jx4a65c_fastRemove_b59b0 us_RJx4a65c_Jx4a65c_fastRemove_b59b0 un_RJx4a65c) rfl rfl rfl ud_Jx4a65c_fastRemove_b59b0 ⟨Nat.le_of_ble_eq_true rfl, Nat.le_of_ble_eq_true rfl⟩) w rfl hl.1 rfl (Nat.le_of_ble_eq_true rfl) dJx4a65c_remove_915e3_21 ⟨(Nat.le_of_ble_eq_true rfl), (Nat.le_of_ble_eq_true rfl)⟩) (fun H locs w => ?_)
  refine lq_aload_n hx hb dJx4a65c_remove_915e3_24 rfl (lv_at hl 0 rfl) ?_
  exact cw_aret cx (by first | exact Or.inl ⟨_, rfl⟩ | exact Or.inr ⟨_, rfl⟩) (v := o_109) (rt_e h) w dJx4a65c_remove_915e3_25
def hm_X8_letPartsWait_10 (t0 : TS) (k10 : Nat → Nat → Int32 → PS → Option (Int32 × PS)) (o0 : Nat) (o1 : Nat) (x2 : Int32) (P : PS) : Option (Int32 × PS) := if x2 < (0 : Int32) then (some ((0 : Int32), P)) else (ck (kk P o0 9) (nn (pR P o0 8) (fun b_102 => ck (kk P o1 8) (nn (pR P o1 5) (fun b_104 => bd (hm_Jx4a65c_get_915e3  P b_104 x2) (fun o_106 P_105 => ck (kk P b_104 0) (nn o_106 (fun b_109 => ck (kk P_105 b_109 8) (bd (hm_Jx4a65c_add_9ea2d t0  P_105 b_102 b_109) (fun r_112 P_111 => ck (kk P_105 b_102 0) (lt_ (x2 + (-1 : Int32)) (fun x2_115 => k10 o0 o1 x2_115 P_111))))))))))))
def hm_X8_letPartsWait_10L (t0 : TS) : Nat → Nat → Nat → Int32 → PS → Option (Int32 × PS)
  | 0, _, _, _, _ => none
  | n + 1, o0, o1, x2, P => hm_X8_letPartsWait_10 t0  (hm_X8_letPartsWait_10L t0  n) o0 o1 x2 P
def hm_X8_letPartsWait (t0 : TS) (P : PS) (th : Nat) (a1 : Nat) : Option (Int32 × PS) := ck (kk P a1 8) (nn (pR P a1 5) (fun b_217 => bd (hm_Jx4a65c_size_8abf5  P b_217) (fun r_219 P_218 => ck (kk P b_217 0) (lt_ ((r_219 - (1 : Int32))) (fun x2_222 => hm_X8_letPartsWait_10L t0  6 th a1 x2_222 P_218)))))
abbrev wu_X8_letPartsWait : List Cond := .code yX8_letPartsWait cX8_letPartsWait 3 none :: wsL_law
theorem ud_X8_letPartsWait : yX8_letPartsWait.cls = RX8 ∧ yX8_letPartsWait.cls ≠ "java/lang/invoke/MethodHandle" ∧ yX8_letPartsWait.cls ≠ "java/lang/invoke/VarHandle" ∧ (parseMethodDescriptor yX8_letPartsWait.desc).map (fun d => d.parameters.length) = some 1 := by decide +kernel
abbrev rmc_X8_letPartsWait : Room := { frames := 7, cells := 12, slots := 768, locals := 171 }
set_option maxHeartbeats 4000000 in
set_option maxRecDepth 100000 in
theorem hcc_X8_letPartsWait (l : Launch) (D : va_G) (cs : Nat → ClassId) (t0 : TS) (P0 T : PS) (th : Nat) (a1 : Nat) (r0 : Int32) (h : hm_X8_letPartsWait t0 P0 th a1 = some (r0, T)) : MetCV l yX8_letPartsWait wu_X8_letPartsWait rmc_X8_letPartsWait D cs t0 [.ref th, .ref a1] P0 T r0 12 768 := by
  refine co_start (own := RX8) (ty := none) (cc := cX8_letPartsWait) (maxL := 3) ⟨by decide, rfl⟩ rfl (Nat.le_of_ble_eq_true rfl) ?_
  intro p e s m args below meth c ls cx hnm hl w
  have hx := cx.1
  have hb := cx.2.1
  have hts := cx.2.2.2.1
  have hown := cx.2.2.2.2.1
  have hml := cx.2.2.2.2.2.2
  have hsub : ∀ w ∈ wsL_law, w ∈ wu_X8_letPartsWait := fun _ hq => List.mem_cons_of_mem _ hq
  have hl : lv_has ls 3 [(0, .ref th), (1, .ref a1)] := hl
  have L10 : ∀ (n : Nat) (hle : n ≤ 6) (o0 : Nat) (o1 : Nat) (x2 : Int32) (P : PS), hm_X8_letPartsWait_10L t0  n o0 o1 x2 P = some (r0, T) → cGo p l e rmc_X8_letPartsWait s m args below meth c 3 D cs t0 (pA P0) (cQV below D cs P0 args s 12 768 r0 T) (0 + (6 - n) * 1) (0 + (6 - n) * 64) 10 [(0, .ref o0), (1, .ref o1), (2, .int x2)] [] P := by
    intro n
    induction n with
    | zero =>
      intro hle o0 o1 x2 P h
      have h : none = some (r0, T) := h
      cases h
    | succ n hk10 =>
      intro hle
      have hnA := hle
      replace hk10 := hk10 (by omega)
      have hnA : n + 1 ≤ 6 := hle
      intro o0 o1 x2 P h H locs ls hl w
      have h : hm_X8_letPartsWait_10 t0  (hm_X8_letPartsWait_10L t0  n) o0 o1 x2 P = some (r0, T) := h
      generalize hm_X8_letPartsWait_10L t0  n = k10 at h hk10
      unfold hm_X8_letPartsWait_10 at h
      refine lv_iload_n hx hb dX8_letPartsWait_10 rfl (lv_at hl 2 rfl) ?_
      refine lv_if_lt (tgt := 39) hx hb dX8_letPartsWait_11 (by decide) (fun q => ?_) (fun q => ?_)
      · replace h := br_p q h
        refine W.widen (k := 12) (n := 768) (by omega) (by omega) ?_
        exact cw_vret cx (rt_e h) w dX8_letPartsWait_39
      · replace h := br_n q h
        refine lv_aload_n hx hb dX8_letPartsWait_14 rfl (lv_at hl 0 rfl) ?_
        replace h := ck_e h
        obtain ⟨hk_101, h⟩ := h
        replace h := nn_e h
        obtain ⟨b_102, hbb_102, h⟩ := h
        refine cw_getS cx hsub w kT9 hk_101 8 (by decide) hbb_102 ⟨hsub _ uf_RX8_57, Or.inl rfl⟩ dX8_letPartsWait_15 ?_
        refine lv_aload_n hx hb dX8_letPartsWait_18 rfl (lv_at hl 1 rfl) ?_
        replace h := ck_e h
        obtain ⟨hk_103, h⟩ := h
        replace h := nn_e h
        obtain ⟨b_104, hbb_104, h⟩ := h
        refine cw_getS cx hsub w kT8 hk_103 5 (by decide) hbb_104 ⟨hsub _ uf_RX8_108, Or.inl rfl⟩ dX8_letPartsWait_19 ?_
        refine lv_iload_n hx hb dX8_letPartsWait_22 rfl (lv_at hl 2 rfl) ?_
        replace h := bd_e h
        obtain ⟨o_106, P_105, hc_107, h⟩ := h
        replace h := ck_e h
        obtain ⟨hk_108, h⟩ := h
        refine cc_q (cr_V (As := [.int x2]) (rest := [.ref b_102]) cx (hcc_Jx4a65c_get_915e3 l D cs t0  P P_105 b_104 x2 o_106 hc_107) kT0 hk_108 (cwV 1 hts (uG uw_Jx4a65c_get_915e3 ul_RX8_220 ui_Jx4a65c_get_915e3 us_RJx4a65c_Jx4a65c_get_915e3 un_RJx4a65c) rfl rfl rfl ud_Jx4a65c_get_915e3 ⟨Nat.le_of_ble_eq_true rfl, Nat.le_of_ble_eq_true rfl⟩) w rfl hl.1 rfl (Nat.le_of_ble_eq_true rfl) dX8_letPartsWait_23 ⟨(by show _ ≤ (12 : Nat); omega), (by show _ ≤ (768 : Nat); omega)⟩) (fun H locs w => ?_)
        replace h := nn_e h
        obtain ⟨b_109, hbb_109, h⟩ := h
        subst hbb_109
        have hl : lv_has ls 3 [(0, .ref o0), (1, .ref o1), (2, .int x2)] := hl
        refine W.eq (g2 := F0 m _ ls [.ref b_109, .ref b_102]) rfl ?_
        replace h := ck_e h
        obtain ⟨hk_110, h⟩ := h
        refine cw_cast cx w kT8 hk_110 (hsub _ ucl_RX8_84) dX8_letPartsWait_26 ?_
        replace h := bd_e h
        obtain ⟨r_112, P_111, hc_113, h⟩ := h
        replace h := ck_e h
        obtain ⟨hk_114, h⟩ := h
        refine cc_i (cr_V (As := [.ref b_109]) (rest := []) cx (hcc_Jx4a65c_add_9ea2d l D cs t0  P_105 P_111 b_102 b_109 r_112 hc_113) kT0 hk_114 (cwV 1 hts (uG uw_Jx4a65c_add_9ea2d ul_RX8_89 ui_Jx4a65c_add_9ea2d us_RJx4a65c_Jx4a65c_add_9ea2d un_RJx4a65c) rfl rfl rfl ud_Jx4a65c_add_9ea2d ⟨Nat.le_of_ble_eq_true rfl, Nat.le_of_ble_eq_true rfl⟩) w rfl hl.1 rfl (Nat.le_of_ble_eq_true rfl) dX8_letPartsWait_29 ⟨(by show _ ≤ (12 : Nat); omega), (by show _ ≤ (768 : Nat); omega)⟩) (fun H locs w => ?_)
        refine lv_pop hx hb dX8_letPartsWait_32 rfl ?_
        replace h := lt_e h
        obtain ⟨x2_115, ex2_115, h⟩ := h
        refine lv_iinc (v := x2_115) (lv' := [(2, .int x2_115), (0, .ref o0), (1, .ref o1)]) hx hb dX8_letPartsWait_33 hl (k := 2) rfl (by rw [ex2_115]; rfl) (by decide) (rfl) (fun ls hl => ?_)
        refine lv_goto (tgt := 10) hx hb dX8_letPartsWait_36 (by decide) ?_
        refine W.widen (k := (0 + (6 - n) * 1)) (n := (0 + (6 - n) * 64)) (by omega) (by omega) ?_
        exact hk10 o0 o1 x2_115 P_111 h _ _ _ (lv_sub hl [1, 2, 0] rfl) w
  have hP0 : P0 = P0 := rfl
  unfold hm_X8_letPartsWait at h
  refine lv_aload_n hx hb dX8_letPartsWait_0 rfl (lv_at hl 1 rfl) ?_
  replace h := ck_e h
  obtain ⟨hk_216, h⟩ := h
  replace h := nn_e h
  obtain ⟨b_217, hbb_217, h⟩ := h
  refine cw_getS cx hsub w kT8 hk_216 5 (by decide) hbb_217 ⟨hsub _ uf_RX8_108, Or.inl rfl⟩ dX8_letPartsWait_1 ?_
  replace h := bd_e h
  obtain ⟨r_219, P_218, hc_220, h⟩ := h
  replace h := ck_e h
  obtain ⟨hk_221, h⟩ := h
  refine cc_i (cr_V (As := []) (rest := []) cx (hcc_Jx4a65c_size_8abf5 l D cs t0  P0 P_218 b_217 r_219 hc_220) kT0 hk_221 (cwV 0 hts (uG uw_Jx4a65c_size_8abf5 ul_RX8_80 ui_Jx4a65c_size_8abf5 us_RJx4a65c_Jx4a65c_size_8abf5 un_RJx4a65c) rfl rfl rfl ud_Jx4a65c_size_8abf5 ⟨Nat.le_of_ble_eq_true rfl, Nat.le_of_ble_eq_true rfl⟩) w rfl hl.1 rfl (Nat.le_of_ble_eq_true rfl) dX8_letPartsWait_4 ⟨(by show _ ≤ (12 : Nat); omega), (by show _ ≤ (768 : Nat); omega)⟩) (fun H locs w => ?_)
  refine lv_iconst (v := (1 : Int32)) hx hb dX8_letPartsWait_7 (by decide) ?_
  refine lv_isub hx hb dX8_letPartsWait_8 ?_
  replace h := lt_e h
  obtain ⟨x2_222, ex2_222, h⟩ := h
  refine top_i ex2_222 ?_
  refine lv_istore_n (lv' := [(2, .int x2_222), (0, .ref th), (1, .ref a1)]) hx hb dX8_letPartsWait_9 rfl hl (by decide) (rfl) (fun ls hl => ?_)
  refine W.widen (k := (0 + (6 - 6) * 1)) (n := (0 + (6 - 6) * 64)) (by omega) (by omega) ?_
  exact L10  6 (Nat.le_refl _) th a1 x2_222 P_218 h _ _ _ (lv_sub hl [1, 2, 0] rfl) w
def hm_X8_rightlyTold_160 (t0 : TS) (k26 : Nat → Nat → Int32 → Int32 → Int32 → Int32 → Int32 → PS → Option (Int32 × PS)) (k67 : Nat → Nat → Int32 → Int32 → Int32 → Int32 → Int32 → Nat → Int32 → PS → Option (Int32 × PS)) (o0 : Nat) (o1 : Nat) (x2 : Int32) (x5 : Int32) (x6 : Int32) (x7 : Int32) (x8 : Int32) (o9 : Nat) (x10 : Int32) (P : PS) : Option (Int32 × PS) := lt_ (x10 + (1 : Int32)) (fun x10_101 => k67 o0 o1 x2 x5 x6 x7 x8 o9 x10_101 P)
def hm_X8_rightlyTold_178 (t0 : TS) (k26 : Nat → Nat → Int32 → Int32 → Int32 → Int32 → Int32 → PS → Option (Int32 × PS)) (o0 : Nat) (o1 : Nat) (x2 : Int32) (x5 : Int32) (x6 : Int32) (x8 : Int32) (P : PS) : Option (Int32 × PS) := lt_ ((0 : Int32)) (fun x7_202 => lt_ (x8 + (1 : Int32)) (fun x8_203 => k26 o0 o1 x2 x5 x6 x7_202 x8_203 P))
def hm_X8_rightlyTold_67 (t0 : TS) (k26 : Nat → Nat → Int32 → Int32 → Int32 → Int32 → Int32 → PS → Option (Int32 × PS)) (k67 : Nat → Nat → Int32 → Int32 → Int32 → Int32 → Int32 → Nat → Int32 → PS → Option (Int32 × PS)) (o0 : Nat) (o1 : Nat) (x2 : Int32) (x5 : Int32) (x6 : Int32) (x7 : Int32) (x8 : Int32) (o9 : Nat) (x10 : Int32) (P : PS) : Option (Int32 × PS) := ck (kk P o0 9) (nn (pR P o0 2) (fun b_305 => bd (hm_Jx4a65c_size_8abf5  P b_305) (fun r_307 P_306 => ck (kk P b_305 0) (if r_307 ≤ x10 then (if x7 = (1 : Int32) then (hm_X8_rightlyTold_178 t0 k26 o0 o1 x2 x5 x6 x8 P_306) else (bd (hm_X8_letPartsWait t0  P_306 o0 o9) (fun _ P_310 => ck (kk P_306 o0 9) (hm_X8_rightlyTold_178 t0 k26 o0 o1 x2 x5 x6 x8 P_310)))) else (ck (kk P_306 o0 9) (nn (pR P_306 o0 2) (fun b_315 => bd (hm_Jx4a65c_get_915e3  P_306 b_315 x10) (fun o_317 P_316 => ck (kk P_306 b_315 0) (nn o_317 (fun b_320 => ck (kk P_316 b_320 5) (if (pI P_316 b_320 1) = x5 then (bd (hm_X6_hasPlace  P_316 o1 (x2 + x6)) (fun r_323 P_322 => ck (kk P_316 o1 7) (if r_323 = (0 : Int32) then (some (((100 : Int32) + x6), P_322)) else (bd (hm_X6_get  P_322 o1 (x2 + x6)) (fun r_327 P_326 => ck (kk P_322 o1 7) (ck (kk P_326 o0 9) (nn (pR P_326 o0 4) (fun b_331 => bd (hm_X4_holding  P_326 b_320 o9 x7 b_331) (fun r_333 P_332 => ck (kk P_326 b_320 5) (bd (hm_X4_clauseOfWay  P_332 b_320 r_333) (fun r_337 P_336 => ck (kk P_332 b_320 5) (if (lg_cmp r_327 (r_337).toInt64) = (0 : Int32) then (lt_ (x6 + (1 : Int32)) (fun x6_340 => hm_X8_rightlyTold_160 t0 k26 k67 o0 o1 x2 x5 x6_340 x7 x8 o9 x10 P_336)) else (some (x6, P_336)))))))))))))) else (hm_X8_rightlyTold_160 t0 k26 k67 o0 o1 x2 x5 x6 x7 x8 o9 x10 P_316))))))))))))
def hm_X8_rightlyTold_67L (t0 : TS) (k26 : Nat → Nat → Int32 → Int32 → Int32 → Int32 → Int32 → PS → Option (Int32 × PS)) : Nat → Nat → Nat → Int32 → Int32 → Int32 → Int32 → Int32 → Nat → Int32 → PS → Option (Int32 × PS)
  | 0, _, _, _, _, _, _, _, _, _, _ => none
  | n + 1, o0, o1, x2, x5, x6, x7, x8, o9, x10, P => hm_X8_rightlyTold_67 t0 k26 (hm_X8_rightlyTold_67L t0 k26 n) o0 o1 x2 x5 x6 x7 x8 o9 x10 P
def hm_X8_rightlyTold_187 (t0 : TS) (x6 : Int32) (P : PS) : Option (Int32 × PS) := some (x6, P)
def hm_X8_rightlyTold_26 (t0 : TS) (k26 : Nat → Nat → Int32 → Int32 → Int32 → Int32 → Int32 → PS → Option (Int32 × PS)) (o0 : Nat) (o1 : Nat) (x2 : Int32) (x5 : Int32) (x6 : Int32) (x7 : Int32) (x8 : Int32) (P : PS) : Option (Int32 × PS) := if (60 : Int32) < x8 then (hm_X8_rightlyTold_187 t0  x6 P) else (ck (kk P o0 9) (nn (pR P o0 8) (fun b_542 => bd (hm_Jx4a65c_isEmpty_aae02  P b_542) (fun r_544 P_543 => ck (kk P b_542 0) (if r_544 = (0 : Int32) then (ck (kk P_543 o0 9) (nn (pR P_543 o0 8) (fun b_548 => nn (pR P_543 o0 8) (fun b_549 => bd (hm_Jx4a65c_size_8abf5  P_543 b_549) (fun r_551 P_550 => ck (kk P_543 b_549 0) (bd (hm_Jx4a65c_remove_915e3  P_550 b_548 (r_551 - (1 : Int32))) (fun o_555 P_554 => ck (kk P_550 b_548 0) (nn o_555 (fun b_558 => ck (kk P_554 b_558 8) (lt_ ((0 : Int32)) (fun x10_560 => hm_X8_rightlyTold_67L t0 k26 4000 o0 o1 x2 x5 x6 x7 x8 b_558 x10_560 P_554))))))))))) else (hm_X8_rightlyTold_187 t0  x6 P_543))))))
def hm_X8_rightlyTold_26L (t0 : TS) : Nat → Nat → Nat → Int32 → Int32 → Int32 → Int32 → Int32 → PS → Option (Int32 × PS)
  | 0, _, _, _, _, _, _, _, _ => none
  | n + 1, o0, o1, x2, x5, x6, x7, x8, P => hm_X8_rightlyTold_26 t0  (hm_X8_rightlyTold_26L t0  n) o0 o1 x2 x5 x6 x7 x8 P
def hm_X8_rightlyTold (t0 : TS) (P : PS) (th : Nat) (a1 : Nat) (a2 : Int32) (a3 : Nat) (a4 : Int32) (a5 : Int32) : Option (Int32 × PS) := lt_ ((0 : Int32)) (fun x6_661 => ck (kk P th 9) (nn (pR P th 8) (fun b_663 => bd (hm_Jx4a65c_clear_da8c8  P b_663) (fun _ P_664 => ck (kk P b_663 0) (ck (kk P_664 th 9) (nn (pR P_664 th 8) (fun b_669 => bd (hm_Jx4a65c_add_9ea2d t0  P_664 b_669 a3) (fun r_671 P_670 => ck (kk P_664 b_669 0) (lt_ ((0 : Int32)) (fun x8_674 => hm_X8_rightlyTold_26L t0  63 th a1 a2 a5 x6_661 a4 x8_674 P_670))))))))))
abbrev wu_X8_rightlyTold : List Cond := .code yX8_rightlyTold cX8_rightlyTold 12 (some .int) :: wsL_law
theorem ud_X8_rightlyTold : yX8_rightlyTold.cls = RX8 ∧ yX8_rightlyTold.cls ≠ "java/lang/invoke/MethodHandle" ∧ yX8_rightlyTold.cls ≠ "java/lang/invoke/VarHandle" ∧ (parseMethodDescriptor yX8_rightlyTold.desc).map (fun d => d.parameters.length) = some 5 := by decide +kernel
abbrev rmc_X8_rightlyTold : Room := { frames := 8, cells := 1513, slots := 96832, locals := 193 }
set_option maxHeartbeats 4000000 in
set_option maxRecDepth 100000 in
theorem hcc_X8_rightlyTold (l : Launch) (D : va_G) (cs : Nat → ClassId) (t0 : TS) (P0 T : PS) (th : Nat) (a1 : Nat) (a2 : Int32) (a3 : Nat) (a4 : Int32) (a5 : Int32) (r0 : Int32) (h : hm_X8_rightlyTold t0 P0 th a1 a2 a3 a4 a5 = some (r0, T)) : MetCI l yX8_rightlyTold wu_X8_rightlyTold rmc_X8_rightlyTold D cs t0 [.ref th, .ref a1, .int a2, .ref a3, .int a4, .int a5] P0 T r0 1513 96832 := by
  refine co_start (own := RX8) (ty := (some .int)) (cc := cX8_rightlyTold) (maxL := 12) ⟨by decide, rfl⟩ rfl (Nat.le_of_ble_eq_true rfl) ?_
  intro p e s m args below meth c ls cx hnm hl w
  have hx := cx.1
  have hb := cx.2.1
  have hts := cx.2.2.2.1
  have hown := cx.2.2.2.2.1
  have hml := cx.2.2.2.2.2.2
  have hsub : ∀ w ∈ wsL_law, w ∈ wu_X8_rightlyTold := fun _ hq => List.mem_cons_of_mem _ hq
  have hl : lv_has ls 12 [(0, .ref th), (1, .ref a1), (2, .int a2), (3, .ref a3), (4, .int a4), (5, .int a5)] := hl
  have J160 : ∀ (nA : Nat) (hnA : nA + 1 ≤ 63) (k26 : Nat → Nat → Int32 → Int32 → Int32 → Int32 → Int32 → PS → Option (Int32 × PS)) (hk26 : ∀ (o0 : Nat) (o1 : Nat) (x2 : Int32) (x5 : Int32) (x6 : Int32) (x7 : Int32) (x8 : Int32) (P : PS), k26 o0 o1 x2 x5 x6 x7 x8 P = some (r0, T) → cGo p l e rmc_X8_rightlyTold s m args below meth c 12 D cs t0 (pA P0) (cQI below D cs P0 args s 1513 96832 r0 T) (1 + (63 - nA) * 12) (64 + (63 - nA) * 768) 26 [(0, .ref o0), (1, .ref o1), (2, .int x2), (5, .int x5), (6, .int x6), (7, .int x7), (8, .int x8)] [] P) (k67 : Nat → Nat → Int32 → Int32 → Int32 → Int32 → Int32 → Nat → Int32 → PS → Option (Int32 × PS)) (hk67 : ∀ (o0 : Nat) (o1 : Nat) (x2 : Int32) (x5 : Int32) (x6 : Int32) (x7 : Int32) (x8 : Int32) (o9 : Nat) (x10 : Int32) (P : PS), k67 o0 o1 x2 x5 x6 x7 x8 o9 x10 P = some (r0, T) → cGo p l e rmc_X8_rightlyTold s m args below meth c 12 D cs t0 (pA P0) (cQI below D cs P0 args s 1513 96832 r0 T) (1 + (63 - (nA + 1)) * 12) (64 + (63 - (nA + 1)) * 768) 67 [(0, .ref o0), (1, .ref o1), (2, .int x2), (5, .int x5), (6, .int x6), (7, .int x7), (8, .int x8), (9, .ref o9), (10, .int x10)] [] P) (o0 : Nat) (o1 : Nat) (x2 : Int32) (x5 : Int32) (x6 : Int32) (x7 : Int32) (x8 : Int32) (o9 : Nat) (x10 : Int32) (P : PS), hm_X8_rightlyTold_160 t0 k26 k67 o0 o1 x2 x5 x6 x7 x8 o9 x10 P = some (r0, T) → cGo p l e rmc_X8_rightlyTold s m args below meth c 12 D cs t0 (pA P0) (cQI below D cs P0 args s 1513 96832 r0 T) (1 + (63 - (nA + 1)) * 12) (64 + (63 - (nA + 1)) * 768) 160 [(0, .ref o0), (1, .ref o1), (2, .int x2), (5, .int x5), (6, .int x6), (7, .int x7), (8, .int x8), (9, .ref o9), (10, .int x10)] [] P := by
    intro nA hnA k26 hk26 k67 hk67 o0 o1 x2 x5 x6 x7 x8 o9 x10 P h H locs ls hl w
    unfold hm_X8_rightlyTold_160 at h
    replace h := lt_e h
    obtain ⟨x10_101, ex10_101, h⟩ := h
    refine lv_iinc (v := x10_101) (lv' := [(10, .int x10_101), (0, .ref o0), (1, .ref o1), (2, .int x2), (5, .int x5), (6, .int x6), (7, .int x7), (8, .int x8), (9, .ref o9)]) hx hb dX8_rightlyTold_160 hl (k := 8) rfl (by rw [ex10_101]; rfl) (by decide) (rfl) (fun ls hl => ?_)
    refine lv_goto (tgt := 67) hx hb dX8_rightlyTold_163 (by decide) ?_
    refine W.widen (k := (1 + (63 - (nA + 1)) * 12)) (n := (64 + (63 - (nA + 1)) * 768)) (by omega) (by omega) ?_
    exact hk67 o0 o1 x2 x5 x6 x7 x8 o9 x10_101 P h _ _ _ (lv_sub hl [1, 2, 3, 4, 5, 6, 7, 8, 0] rfl) w
  have J178 : ∀ (nA : Nat) (hnA : nA + 1 ≤ 63) (k26 : Nat → Nat → Int32 → Int32 → Int32 → Int32 → Int32 → PS → Option (Int32 × PS)) (hk26 : ∀ (o0 : Nat) (o1 : Nat) (x2 : Int32) (x5 : Int32) (x6 : Int32) (x7 : Int32) (x8 : Int32) (P : PS), k26 o0 o1 x2 x5 x6 x7 x8 P = some (r0, T) → cGo p l e rmc_X8_rightlyTold s m args below meth c 12 D cs t0 (pA P0) (cQI below D cs P0 args s 1513 96832 r0 T) (1 + (63 - nA) * 12) (64 + (63 - nA) * 768) 26 [(0, .ref o0), (1, .ref o1), (2, .int x2), (5, .int x5), (6, .int x6), (7, .int x7), (8, .int x8)] [] P) (o0 : Nat) (o1 : Nat) (x2 : Int32) (x5 : Int32) (x6 : Int32) (x8 : Int32) (P : PS), hm_X8_rightlyTold_178 t0 k26 o0 o1 x2 x5 x6 x8 P = some (r0, T) → cGo p l e rmc_X8_rightlyTold s m args below meth c 12 D cs t0 (pA P0) (cQI below D cs P0 args s 1513 96832 r0 T) (13 + (63 - (nA + 1)) * 12) (832 + (63 - (nA + 1)) * 768) 178 [(0, .ref o0), (1, .ref o1), (2, .int x2), (5, .int x5), (6, .int x6), (8, .int x8)] [] P := by
    intro nA hnA k26 hk26 o0 o1 x2 x5 x6 x8 P h H locs ls hl w
    unfold hm_X8_rightlyTold_178 at h
    refine lv_iconst (v := (0 : Int32)) hx hb dX8_rightlyTold_178 (by decide) ?_
    replace h := lt_e h
    obtain ⟨x7_202, ex7_202, h⟩ := h
    refine top_i ex7_202 ?_
    refine lv_istore (lv' := [(7, .int x7_202), (0, .ref o0), (1, .ref o1), (2, .int x2), (5, .int x5), (6, .int x6), (8, .int x8)]) hx hb dX8_rightlyTold_179 hl (by decide) (rfl) (fun ls hl => ?_)
    replace h := lt_e h
    obtain ⟨x8_203, ex8_203, h⟩ := h
    refine lv_iinc (v := x8_203) (lv' := [(8, .int x8_203), (7, .int x7_202), (0, .ref o0), (1, .ref o1), (2, .int x2), (5, .int x5), (6, .int x6)]) hx hb dX8_rightlyTold_181 hl (k := 6) rfl (by rw [ex8_203]; rfl) (by decide) (rfl) (fun ls hl => ?_)
    refine lv_goto (tgt := 26) hx hb dX8_rightlyTold_184 (by decide) ?_
    refine W.widen (k := (1 + (63 - nA) * 12)) (n := (64 + (63 - nA) * 768)) (by omega) (by omega) ?_
    exact hk26 o0 o1 x2 x5 x6 x7_202 x8_203 P h _ _ _ (lv_sub hl [2, 3, 4, 5, 6, 1, 0] rfl) w
  have L67 : ∀ (nA : Nat) (hnA : nA + 1 ≤ 63) (k26 : Nat → Nat → Int32 → Int32 → Int32 → Int32 → Int32 → PS → Option (Int32 × PS)) (hk26 : ∀ (o0 : Nat) (o1 : Nat) (x2 : Int32) (x5 : Int32) (x6 : Int32) (x7 : Int32) (x8 : Int32) (P : PS), k26 o0 o1 x2 x5 x6 x7 x8 P = some (r0, T) → cGo p l e rmc_X8_rightlyTold s m args below meth c 12 D cs t0 (pA P0) (cQI below D cs P0 args s 1513 96832 r0 T) (1 + (63 - nA) * 12) (64 + (63 - nA) * 768) 26 [(0, .ref o0), (1, .ref o1), (2, .int x2), (5, .int x5), (6, .int x6), (7, .int x7), (8, .int x8)] [] P) (n : Nat) (o0 : Nat) (o1 : Nat) (x2 : Int32) (x5 : Int32) (x6 : Int32) (x7 : Int32) (x8 : Int32) (o9 : Nat) (x10 : Int32) (P : PS), hm_X8_rightlyTold_67L t0 k26 n o0 o1 x2 x5 x6 x7 x8 o9 x10 P = some (r0, T) → cGo p l e rmc_X8_rightlyTold s m args below meth c 12 D cs t0 (pA P0) (cQI below D cs P0 args s 1513 96832 r0 T) (1 + (63 - (nA + 1)) * 12) (64 + (63 - (nA + 1)) * 768) 67 [(0, .ref o0), (1, .ref o1), (2, .int x2), (5, .int x5), (6, .int x6), (7, .int x7), (8, .int x8), (9, .ref o9), (10, .int x10)] [] P := by
    intro nA hnA k26 hk26 n
    induction n with
    | zero =>
      intro o0 o1 x2 x5 x6 x7 x8 o9 x10 P h
      have h : none = some (r0, T) := h
      cases h
    | succ n hk67 =>
      intro o0 o1 x2 x5 x6 x7 x8 o9 x10 P h H locs ls hl w
      have h : hm_X8_rightlyTold_67 t0 k26 (hm_X8_rightlyTold_67L t0 k26 n) o0 o1 x2 x5 x6 x7 x8 o9 x10 P = some (r0, T) := h
      generalize hm_X8_rightlyTold_67L t0 k26 n = k67 at h hk67
      unfold hm_X8_rightlyTold_67 at h
      refine lv_iload hx hb dX8_rightlyTold_67 (lv_at hl 8 rfl) ?_
      refine lv_aload_n hx hb dX8_rightlyTold_69 rfl (lv_at hl 0 rfl) ?_
      replace h := ck_e h
      obtain ⟨hk_304, h⟩ := h
      replace h := nn_e h
      obtain ⟨b_305, hbb_305, h⟩ := h
      refine cw_getS cx hsub w kT9 hk_304 2 (by decide) hbb_305 ⟨hsub _ uf_RX8_24, Or.inl rfl⟩ dX8_rightlyTold_70 ?_
      replace h := bd_e h
      obtain ⟨r_307, P_306, hc_308, h⟩ := h
      replace h := ck_e h
      obtain ⟨hk_309, h⟩ := h
      refine cc_i (cr_V (As := []) (rest := [.int x10]) cx (hcc_Jx4a65c_size_8abf5 l D cs t0  P P_306 b_305 r_307 hc_308) kT0 hk_309 (cwV 0 hts (uG uw_Jx4a65c_size_8abf5 ul_RX8_80 ui_Jx4a65c_size_8abf5 us_RJx4a65c_Jx4a65c_size_8abf5 un_RJx4a65c) rfl rfl rfl ud_Jx4a65c_size_8abf5 ⟨Nat.le_of_ble_eq_true rfl, Nat.le_of_ble_eq_true rfl⟩) w rfl hl.1 rfl (Nat.le_of_ble_eq_true rfl) dX8_rightlyTold_73 ⟨(by show _ ≤ (1513 : Nat); omega), (by show _ ≤ (96832 : Nat); omega)⟩) (fun H locs w => ?_)
      refine lv_icmp_ge (tgt := 166) hx hb dX8_rightlyTold_76 (by decide) (fun q => ?_) (fun q => ?_)
      · replace h := br_p q h
        refine lv_iload hx hb dX8_rightlyTold_166 (lv_at hl 5 rfl) ?_
        refine lv_iconst (v := (1 : Int32)) hx hb dX8_rightlyTold_168 (by decide) ?_
        refine lv_icmp_eq (tgt := 178) hx hb dX8_rightlyTold_169 (by decide) (fun q => ?_) (fun q => ?_)
        · replace h := br_p q h
          refine W.widen (k := (13 + (63 - (nA + 1)) * 12)) (n := (832 + (63 - (nA + 1)) * 768)) (by omega) (by omega) ?_
          exact J178 nA hnA k26 hk26 o0 o1 x2 x5 x6 x8 P_306 h _ _ _ (lv_sub hl [0, 1, 2, 3, 4, 6] rfl) w
        · replace h := br_n q h
          refine lv_aload_n hx hb dX8_rightlyTold_172 rfl (lv_at hl 0 rfl) ?_
          refine lv_aload hx hb dX8_rightlyTold_173 (lv_at hl 7 rfl) ?_
          replace h := bd_e h
          obtain ⟨r_311, P_310, hc_312, h⟩ := h
          replace h := ck_e h
          obtain ⟨hk_313, h⟩ := h
          refine cc_v (cr_V (As := [.ref o9]) (rest := []) cx (hcc_X8_letPartsWait l D cs t0  P_306 P_310 o0 o9 r_311 hc_312) kT9 hk_313 (cwV 1 hts (uG uw_X8_letPartsWait ul_RX8_336 ui_X8_letPartsWait us_RX8_X8_letPartsWait un_RX8) rfl rfl rfl ud_X8_letPartsWait ⟨Nat.le_of_ble_eq_true rfl, Nat.le_of_ble_eq_true rfl⟩) w rfl hl.1 rfl (Nat.le_of_ble_eq_true rfl) dX8_rightlyTold_175 ⟨(by show _ ≤ (1513 : Nat); omega), (by show _ ≤ (96832 : Nat); omega)⟩) (fun H locs w => ?_)
          refine W.widen (k := (13 + (63 - (nA + 1)) * 12)) (n := (832 + (63 - (nA + 1)) * 768)) (by omega) (by omega) ?_
          exact J178 nA hnA k26 hk26 o0 o1 x2 x5 x6 x8 P_310 h _ _ _ (lv_sub hl [0, 1, 2, 3, 4, 6] rfl) w
      · replace h := br_n q h
        refine lv_aload_n hx hb dX8_rightlyTold_79 rfl (lv_at hl 0 rfl) ?_
        replace h := ck_e h
        obtain ⟨hk_314, h⟩ := h
        replace h := nn_e h
        obtain ⟨b_315, hbb_315, h⟩ := h
        refine cw_getS cx hsub w kT9 hk_314 2 (by decide) hbb_315 ⟨hsub _ uf_RX8_24, Or.inl rfl⟩ dX8_rightlyTold_80 ?_
        refine lv_iload hx hb dX8_rightlyTold_83 (lv_at hl 8 rfl) ?_
        replace h := bd_e h
        obtain ⟨o_317, P_316, hc_318, h⟩ := h
        replace h := ck_e h
        obtain ⟨hk_319, h⟩ := h
        refine cc_q (cr_V (As := [.int x10]) (rest := []) cx (hcc_Jx4a65c_get_915e3 l D cs t0  P_306 P_316 b_315 x10 o_317 hc_318) kT0 hk_319 (cwV 1 hts (uG uw_Jx4a65c_get_915e3 ul_RX8_220 ui_Jx4a65c_get_915e3 us_RJx4a65c_Jx4a65c_get_915e3 un_RJx4a65c) rfl rfl rfl ud_Jx4a65c_get_915e3 ⟨Nat.le_of_ble_eq_true rfl, Nat.le_of_ble_eq_true rfl⟩) w rfl hl.1 rfl (Nat.le_of_ble_eq_true rfl) dX8_rightlyTold_85 ⟨(by show _ ≤ (1513 : Nat); omega), (by show _ ≤ (96832 : Nat); omega)⟩) (fun H locs w => ?_)
        replace h := nn_e h
        obtain ⟨b_320, hbb_320, h⟩ := h
        subst hbb_320
        have hl : lv_has ls 12 [(0, .ref o0), (1, .ref o1), (2, .int x2), (5, .int x5), (6, .int x6), (7, .int x7), (8, .int x8), (9, .ref o9), (10, .int x10)] := hl
        refine W.eq (g2 := F0 m _ ls [.ref b_320]) rfl ?_
        replace h := ck_e h
        obtain ⟨hk_321, h⟩ := h
        refine cw_cast cx w kT5 hk_321 (hsub _ ucl_RX8_153) dX8_rightlyTold_88 ?_
        refine lv_astore (lv' := [(11, .ref b_320), (0, .ref o0), (1, .ref o1), (2, .int x2), (5, .int x5), (6, .int x6), (7, .int x7), (8, .int x8), (9, .ref o9), (10, .int x10)]) hx hb dX8_rightlyTold_91 hl (by decide) (rfl) (fun ls hl => ?_)
        refine lv_aload hx hb dX8_rightlyTold_93 (lv_at hl 0 rfl) ?_
        refine cw_getI cx hsub w kT5 hk_321 1 (by decide) ⟨hsub _ uf_RX8_224, Or.inl rfl⟩ dX8_rightlyTold_95 ?_
        refine lv_iload hx hb dX8_rightlyTold_98 (lv_at hl 4 rfl) ?_
        refine lv_icmp_eq (tgt := 106) hx hb dX8_rightlyTold_100 (by decide) (fun q => ?_) (fun q => ?_)
        · replace h := br_p q h
          refine lv_aload_n hx hb dX8_rightlyTold_106 rfl (lv_at hl 2 rfl) ?_
          refine lv_iload_n hx hb dX8_rightlyTold_107 rfl (lv_at hl 3 rfl) ?_
          refine lv_iload hx hb dX8_rightlyTold_108 (lv_at hl 5 rfl) ?_
          refine lv_iadd hx hb dX8_rightlyTold_110 ?_
          replace h := bd_e h
          obtain ⟨r_323, P_322, hc_324, h⟩ := h
          replace h := ck_e h
          obtain ⟨hk_325, h⟩ := h
          refine cc_i (cr_VN (As := [.int (x2 + x6)]) (rest := []) cx (hcc_X6_hasPlace l D cs t0  P_316 P_322 o1 (x2 + x6) r_323 hc_324) kT7 hk_325 ⟨va_cnB (host := "HeardWords") 1 hts (uGB uw_X6_hasPlace) rfl rfl rfl (w.2.2.2.2.2.2.1.2.1 ("HeardWords", 279, yX6_hasPlace, "HeardWords") (by decide +kernel)) (hts _ (hsub _ un_RX6)) ud_X6_hasPlace.2 ⟨Nat.le_of_ble_eq_true rfl, Nat.le_of_ble_eq_true rfl⟩, hts _ (hsub _ ui_X6_hasPlace), hts _ (hsub _ us_RX6_X6_hasPlace)⟩ w rfl hl.1 rfl (Nat.le_of_ble_eq_true rfl) dX8_rightlyTold_111 ⟨(by show _ ≤ (1513 : Nat); omega), (by show _ ≤ (96832 : Nat); omega)⟩) (fun H locs w => ?_)
          refine lv_if_ne (tgt := 123) hx hb dX8_rightlyTold_114 (by decide) (fun q => ?_) (fun q => ?_)
          · replace h := br_n q h
            refine lv_aload_n hx hb dX8_rightlyTold_123 rfl (lv_at hl 2 rfl) ?_
            refine lv_iload_n hx hb dX8_rightlyTold_124 rfl (lv_at hl 3 rfl) ?_
            refine lv_iload hx hb dX8_rightlyTold_125 (lv_at hl 5 rfl) ?_
            refine lv_iadd hx hb dX8_rightlyTold_127 ?_
            replace h := bd_e h
            obtain ⟨r_327, P_326, hc_328, h⟩ := h
            replace h := ck_e h
            obtain ⟨hk_329, h⟩ := h
            refine cc_l (cr_VN (As := [.int (x2 + x6)]) (rest := []) cx (hcc_X6_get l D cs t0  P_322 P_326 o1 (x2 + x6) r_327 hc_328) kT7 hk_329 ⟨va_cnB (host := "HeardWords") 1 hts (uGB uw_X6_get) rfl rfl rfl (w.2.2.2.2.2.2.1.2.1 ("HeardWords", 289, yX6_get, "HeardWords") (by decide +kernel)) (hts _ (hsub _ un_RX6)) ud_X6_get.2 ⟨Nat.le_of_ble_eq_true rfl, Nat.le_of_ble_eq_true rfl⟩, hts _ (hsub _ ui_X6_get), hts _ (hsub _ us_RX6_X6_get)⟩ w rfl hl.1 rfl (Nat.le_of_ble_eq_true rfl) dX8_rightlyTold_128 ⟨(by show _ ≤ (1513 : Nat); omega), (by show _ ≤ (96832 : Nat); omega)⟩) (fun H locs w => ?_)
            refine lv_aload hx hb dX8_rightlyTold_131 (lv_at hl 0 rfl) ?_
            refine lv_aload hx hb dX8_rightlyTold_133 (lv_at hl 0 rfl) ?_
            refine lv_aload hx hb dX8_rightlyTold_135 (lv_at hl 8 rfl) ?_
            refine lv_iload hx hb dX8_rightlyTold_137 (lv_at hl 6 rfl) ?_
            refine lv_aload_n hx hb dX8_rightlyTold_139 rfl (lv_at hl 1 rfl) ?_
            replace h := ck_e h
            obtain ⟨hk_330, h⟩ := h
            replace h := nn_e h
            obtain ⟨b_331, hbb_331, h⟩ := h
            refine cw_getS cx hsub w kT9 hk_330 4 (by decide) hbb_331 ⟨hsub _ uf_RX8_37, Or.inl rfl⟩ dX8_rightlyTold_140 ?_
            replace h := bd_e h
            obtain ⟨r_333, P_332, hc_334, h⟩ := h
            replace h := ck_e h
            obtain ⟨hk_335, h⟩ := h
            refine cc_i (cr_V (As := [.ref o9, .int x7, .ref b_331]) (rest := [.ref b_320, .long r_327]) cx (hcc_X4_holding l D cs t0  P_326 P_332 b_320 o9 x7 b_331 r_333 hc_334) kT5 hk_335 (cwV 3 hts (uG uw_X4_holding ul_RX8_152 ui_X4_holding us_RX4_X4_holding un_RX4) rfl rfl rfl ud_X4_holding ⟨Nat.le_of_ble_eq_true rfl, Nat.le_of_ble_eq_true rfl⟩) w rfl hl.1 rfl (Nat.le_of_ble_eq_true rfl) dX8_rightlyTold_143 ⟨(by show _ ≤ (1513 : Nat); omega), (by show _ ≤ (96832 : Nat); omega)⟩) (fun H locs w => ?_)
            replace h := bd_e h
            obtain ⟨r_337, P_336, hc_338, h⟩ := h
            replace h := ck_e h
            obtain ⟨hk_339, h⟩ := h
            refine cc_i (cr_V (As := [.int r_333]) (rest := [.long r_327]) cx (hcc_X4_clauseOfWay l D cs t0  P_332 P_336 b_320 r_333 r_337 hc_338) kT5 hk_339 (cwV 1 hts (uG uw_X4_clauseOfWay ul_RX8_162 ui_X4_clauseOfWay us_RX4_X4_clauseOfWay un_RX4) rfl rfl rfl ud_X4_clauseOfWay ⟨Nat.le_of_ble_eq_true rfl, Nat.le_of_ble_eq_true rfl⟩) w rfl hl.1 rfl (Nat.le_of_ble_eq_true rfl) dX8_rightlyTold_146 ⟨(by show _ ≤ (1513 : Nat); omega), (by show _ ≤ (96832 : Nat); omega)⟩) (fun H locs w => ?_)
            refine lv_i2l hx hb dX8_rightlyTold_149 rfl ?_
            refine W.lcmp hx hb dX8_rightlyTold_150 ?_
            refine lv_if_eq (tgt := 157) hx hb dX8_rightlyTold_151 (by decide) (fun q => ?_) (fun q => ?_)
            · replace h := br_p q h
              replace h := lt_e h
              obtain ⟨x6_340, ex6_340, h⟩ := h
              refine lv_iinc (v := x6_340) (lv' := [(6, .int x6_340), (11, .ref b_320), (0, .ref o0), (1, .ref o1), (2, .int x2), (5, .int x5), (7, .int x7), (8, .int x8), (9, .ref o9), (10, .int x10)]) hx hb dX8_rightlyTold_157 hl (k := 5) rfl (by rw [ex6_340]; rfl) (by decide) (rfl) (fun ls hl => ?_)
              refine W.widen (k := (1 + (63 - (nA + 1)) * 12)) (n := (64 + (63 - (nA + 1)) * 768)) (by omega) (by omega) ?_
              exact J160 nA hnA k26 hk26 k67 hk67 o0 o1 x2 x5 x6_340 x7 x8 o9 x10 P_336 h _ _ _ (lv_sub hl [2, 3, 4, 5, 0, 6, 7, 8, 9] rfl) w
            · replace h := br_n q h
              refine lv_iload hx hb dX8_rightlyTold_154 (lv_at hl 5 rfl) ?_
              refine W.widen (k := 1513) (n := 96832) (by omega) (by omega) ?_
              exact cw_iret cx (rt_e h) w dX8_rightlyTold_156
          · replace h := br_p q h
            refine lv_bipush (v := (100 : Int32)) hx hb dX8_rightlyTold_117 (by decide) ?_
            refine lv_iload hx hb dX8_rightlyTold_119 (lv_at hl 5 rfl) ?_
            refine lv_iadd hx hb dX8_rightlyTold_121 ?_
            refine W.widen (k := 1513) (n := 96832) (by omega) (by omega) ?_
            exact cw_iret cx (rt_e h) w dX8_rightlyTold_122
        · replace h := br_n q h
          refine lv_goto (tgt := 160) hx hb dX8_rightlyTold_103 (by decide) ?_
          refine W.widen (k := (1 + (63 - (nA + 1)) * 12)) (n := (64 + (63 - (nA + 1)) * 768)) (by omega) (by omega) ?_
          exact J160 nA hnA k26 hk26 k67 hk67 o0 o1 x2 x5 x6 x7 x8 o9 x10 P_316 h _ _ _ (lv_sub hl [1, 2, 3, 4, 5, 6, 7, 8, 9] rfl) w
  have J187 : ∀ (x6 : Int32) (P : PS), hm_X8_rightlyTold_187 t0  x6 P = some (r0, T) → cGo p l e rmc_X8_rightlyTold s m args below meth c 12 D cs t0 (pA P0) (cQI below D cs P0 args s 1513 96832 r0 T) 757 48448 187 [(6, .int x6)] [] P := by
    intro x6 P h H locs ls hl w
    unfold hm_X8_rightlyTold_187 at h
    refine lv_iload hx hb dX8_rightlyTold_187 (lv_at hl 0 rfl) ?_
    refine W.widen (k := 1513) (n := 96832) (by omega) (by omega) ?_
    exact cw_iret cx (rt_e h) w dX8_rightlyTold_189
  have L26 : ∀ (n : Nat) (hle : n ≤ 63) (o0 : Nat) (o1 : Nat) (x2 : Int32) (x5 : Int32) (x6 : Int32) (x7 : Int32) (x8 : Int32) (P : PS), hm_X8_rightlyTold_26L t0  n o0 o1 x2 x5 x6 x7 x8 P = some (r0, T) → cGo p l e rmc_X8_rightlyTold s m args below meth c 12 D cs t0 (pA P0) (cQI below D cs P0 args s 1513 96832 r0 T) (1 + (63 - n) * 12) (64 + (63 - n) * 768) 26 [(0, .ref o0), (1, .ref o1), (2, .int x2), (5, .int x5), (6, .int x6), (7, .int x7), (8, .int x8)] [] P := by
    intro n
    induction n with
    | zero =>
      intro hle o0 o1 x2 x5 x6 x7 x8 P h
      have h : none = some (r0, T) := h
      cases h
    | succ n hk26 =>
      intro hle
      have hnA := hle
      replace hk26 := hk26 (by omega)
      have hnA : n + 1 ≤ 63 := hle
      intro o0 o1 x2 x5 x6 x7 x8 P h H locs ls hl w
      have h : hm_X8_rightlyTold_26 t0  (hm_X8_rightlyTold_26L t0  n) o0 o1 x2 x5 x6 x7 x8 P = some (r0, T) := h
      generalize hm_X8_rightlyTold_26L t0  n = k26 at h hk26
      unfold hm_X8_rightlyTold_26 at h
      refine lv_iload hx hb dX8_rightlyTold_26 (lv_at hl 6 rfl) ?_
      refine lv_bipush (v := (60 : Int32)) hx hb dX8_rightlyTold_28 (by decide) ?_
      refine lv_icmp_gt (tgt := 187) hx hb dX8_rightlyTold_30 (by decide) (fun q => ?_) (fun q => ?_)
      · replace h := br_p q h
        refine W.widen (k := 757) (n := 48448) (by omega) (by omega) ?_
        exact J187  x6 P h _ _ _ (lv_sub hl [4] rfl) w
      · replace h := br_n q h
        refine lv_aload_n hx hb dX8_rightlyTold_33 rfl (lv_at hl 0 rfl) ?_
        replace h := ck_e h
        obtain ⟨hk_541, h⟩ := h
        replace h := nn_e h
        obtain ⟨b_542, hbb_542, h⟩ := h
        refine cw_getS cx hsub w kT9 hk_541 8 (by decide) hbb_542 ⟨hsub _ uf_RX8_57, Or.inl rfl⟩ dX8_rightlyTold_34 ?_
        replace h := bd_e h
        obtain ⟨r_544, P_543, hc_545, h⟩ := h
        replace h := ck_e h
        obtain ⟨hk_546, h⟩ := h
        refine cc_i (cr_V (As := []) (rest := []) cx (hcc_Jx4a65c_isEmpty_aae02 l D cs t0  P P_543 b_542 r_544 hc_545) kT0 hk_546 (cwV 0 hts (uG uw_Jx4a65c_isEmpty_aae02 ul_RX8_329 ui_Jx4a65c_isEmpty_aae02 us_RJx4a65c_Jx4a65c_isEmpty_aae02 un_RJx4a65c) rfl rfl rfl ud_Jx4a65c_isEmpty_aae02 ⟨Nat.le_of_ble_eq_true rfl, Nat.le_of_ble_eq_true rfl⟩) w rfl hl.1 rfl (Nat.le_of_ble_eq_true rfl) dX8_rightlyTold_37 ⟨(by show _ ≤ (1513 : Nat); omega), (by show _ ≤ (96832 : Nat); omega)⟩) (fun H locs w => ?_)
        refine lv_if_ne (tgt := 187) hx hb dX8_rightlyTold_40 (by decide) (fun q => ?_) (fun q => ?_)
        · replace h := br_n q h
          refine W.widen (k := 757) (n := 48448) (by omega) (by omega) ?_
          exact J187  x6 P_543 h _ _ _ (lv_sub hl [4] rfl) w
        · replace h := br_p q h
          refine lv_aload_n hx hb dX8_rightlyTold_43 rfl (lv_at hl 0 rfl) ?_
          replace h := ck_e h
          obtain ⟨hk_547, h⟩ := h
          replace h := nn_e h
          obtain ⟨b_548, hbb_548, h⟩ := h
          refine cw_getS cx hsub w kT9 hk_547 8 (by decide) hbb_548 ⟨hsub _ uf_RX8_57, Or.inl rfl⟩ dX8_rightlyTold_44 ?_
          refine lv_aload_n hx hb dX8_rightlyTold_47 rfl (lv_at hl 0 rfl) ?_
          replace h := nn_e h
          obtain ⟨b_549, hbb_549, h⟩ := h
          refine cw_getS cx hsub w kT9 hk_547 8 (by decide) hbb_549 ⟨hsub _ uf_RX8_57, Or.inl rfl⟩ dX8_rightlyTold_48 ?_
          replace h := bd_e h
          obtain ⟨r_551, P_550, hc_552, h⟩ := h
          replace h := ck_e h
          obtain ⟨hk_553, h⟩ := h
          refine cc_i (cr_V (As := []) (rest := [.ref b_548]) cx (hcc_Jx4a65c_size_8abf5 l D cs t0  P_543 P_550 b_549 r_551 hc_552) kT0 hk_553 (cwV 0 hts (uG uw_Jx4a65c_size_8abf5 ul_RX8_80 ui_Jx4a65c_size_8abf5 us_RJx4a65c_Jx4a65c_size_8abf5 un_RJx4a65c) rfl rfl rfl ud_Jx4a65c_size_8abf5 ⟨Nat.le_of_ble_eq_true rfl, Nat.le_of_ble_eq_true rfl⟩) w rfl hl.1 rfl (Nat.le_of_ble_eq_true rfl) dX8_rightlyTold_51 ⟨(by show _ ≤ (1513 : Nat); omega), (by show _ ≤ (96832 : Nat); omega)⟩) (fun H locs w => ?_)
          refine lv_iconst (v := (1 : Int32)) hx hb dX8_rightlyTold_54 (by decide) ?_
          refine lv_isub hx hb dX8_rightlyTold_55 ?_
          replace h := bd_e h
          obtain ⟨o_555, P_554, hc_556, h⟩ := h
          replace h := ck_e h
          obtain ⟨hk_557, h⟩ := h
          refine cc_q (cr_V (As := [.int (r_551 - (1 : Int32))]) (rest := []) cx (hcc_Jx4a65c_remove_915e3 l D cs t0  P_550 P_554 b_548 (r_551 - (1 : Int32)) o_555 hc_556) kT0 hk_557 (cwV 1 hts (uG uw_Jx4a65c_remove_915e3 ul_RX8_333 ui_Jx4a65c_remove_915e3 us_RJx4a65c_Jx4a65c_remove_915e3 un_RJx4a65c) rfl rfl rfl ud_Jx4a65c_remove_915e3 ⟨Nat.le_of_ble_eq_true rfl, Nat.le_of_ble_eq_true rfl⟩) w rfl hl.1 rfl (Nat.le_of_ble_eq_true rfl) dX8_rightlyTold_56 ⟨(by show _ ≤ (1513 : Nat); omega), (by show _ ≤ (96832 : Nat); omega)⟩) (fun H locs w => ?_)
          replace h := nn_e h
          obtain ⟨b_558, hbb_558, h⟩ := h
          subst hbb_558
          have hl : lv_has ls 12 [(0, .ref o0), (1, .ref o1), (2, .int x2), (5, .int x5), (6, .int x6), (7, .int x7), (8, .int x8)] := hl
          refine W.eq (g2 := F0 m _ ls [.ref b_558]) rfl ?_
          replace h := ck_e h
          obtain ⟨hk_559, h⟩ := h
          refine cw_cast cx w kT8 hk_559 (hsub _ ucl_RX8_84) dX8_rightlyTold_59 ?_
          refine lv_astore (lv' := [(9, .ref b_558), (0, .ref o0), (1, .ref o1), (2, .int x2), (5, .int x5), (6, .int x6), (7, .int x7), (8, .int x8)]) hx hb dX8_rightlyTold_62 hl (by decide) (rfl) (fun ls hl => ?_)
          refine lv_iconst (v := (0 : Int32)) hx hb dX8_rightlyTold_64 (by decide) ?_
          replace h := lt_e h
          obtain ⟨x10_560, ex10_560, h⟩ := h
          refine top_i ex10_560 ?_
          refine lv_istore (lv' := [(10, .int x10_560), (9, .ref b_558), (0, .ref o0), (1, .ref o1), (2, .int x2), (5, .int x5), (6, .int x6), (7, .int x7), (8, .int x8)]) hx hb dX8_rightlyTold_65 hl (by decide) (rfl) (fun ls hl => ?_)
          refine W.widen (k := (1 + (63 - (n + 1)) * 12)) (n := (64 + (63 - (n + 1)) * 768)) (by omega) (by omega) ?_
          exact L67 n hnA k26 hk26 4000 o0 o1 x2 x5 x6 x7 x8 b_558 x10_560 P_554 h _ _ _ (lv_sub hl [2, 3, 4, 5, 6, 7, 8, 1, 0] rfl) w
  have hP0 : P0 = P0 := rfl
  unfold hm_X8_rightlyTold at h
  refine lv_iconst (v := (0 : Int32)) hx hb dX8_rightlyTold_0 (by decide) ?_
  replace h := lt_e h
  obtain ⟨x6_661, ex6_661, h⟩ := h
  refine top_i ex6_661 ?_
  refine lv_istore (lv' := [(6, .int x6_661), (0, .ref th), (1, .ref a1), (2, .int a2), (3, .ref a3), (4, .int a4), (5, .int a5)]) hx hb dX8_rightlyTold_1 hl (by decide) (rfl) (fun ls hl => ?_)
  refine lv_iload hx hb dX8_rightlyTold_3 (lv_at hl 5 rfl) ?_
  refine lv_istore (lv' := [(7, .int a4), (6, .int x6_661), (0, .ref th), (1, .ref a1), (2, .int a2), (3, .ref a3), (4, .int a4), (5, .int a5)]) hx hb dX8_rightlyTold_5 hl (by decide) (rfl) (fun ls hl => ?_)
  refine lv_aload_n hx hb dX8_rightlyTold_7 rfl (lv_at hl 2 rfl) ?_
  replace h := ck_e h
  obtain ⟨hk_662, h⟩ := h
  replace h := nn_e h
  obtain ⟨b_663, hbb_663, h⟩ := h
  refine cw_getS cx hsub w kT9 hk_662 8 (by decide) hbb_663 ⟨hsub _ uf_RX8_57, Or.inl rfl⟩ dX8_rightlyTold_8 ?_
  replace h := bd_e h
  obtain ⟨r_665, P_664, hc_666, h⟩ := h
  replace h := ck_e h
  obtain ⟨hk_667, h⟩ := h
  refine cc_v (cr_V (As := []) (rest := []) cx (hcc_Jx4a65c_clear_da8c8 l D cs t0  P0 P_664 b_663 r_665 hc_666) kT0 hk_667 (cwV 0 hts (uG uw_Jx4a65c_clear_da8c8 ul_RX8_326 ui_Jx4a65c_clear_da8c8 us_RJx4a65c_Jx4a65c_clear_da8c8 un_RJx4a65c) rfl rfl rfl ud_Jx4a65c_clear_da8c8 ⟨Nat.le_of_ble_eq_true rfl, Nat.le_of_ble_eq_true rfl⟩) w rfl hl.1 rfl (Nat.le_of_ble_eq_true rfl) dX8_rightlyTold_11 ⟨(by show _ ≤ (1513 : Nat); omega), (by show _ ≤ (96832 : Nat); omega)⟩) (fun H locs w => ?_)
  refine lv_aload_n hx hb dX8_rightlyTold_14 rfl (lv_at hl 2 rfl) ?_
  replace h := ck_e h
  obtain ⟨hk_668, h⟩ := h
  replace h := nn_e h
  obtain ⟨b_669, hbb_669, h⟩ := h
  refine cw_getS cx hsub w kT9 hk_668 8 (by decide) hbb_669 ⟨hsub _ uf_RX8_57, Or.inl rfl⟩ dX8_rightlyTold_15 ?_
  refine lv_aload_n hx hb dX8_rightlyTold_18 rfl (lv_at hl 5 rfl) ?_
  replace h := bd_e h
  obtain ⟨r_671, P_670, hc_672, h⟩ := h
  replace h := ck_e h
  obtain ⟨hk_673, h⟩ := h
  refine cc_i (cr_V (As := [.ref a3]) (rest := []) cx (hcc_Jx4a65c_add_9ea2d l D cs t0  P_664 P_670 b_669 a3 r_671 hc_672) kT0 hk_673 (cwV 1 hts (uG uw_Jx4a65c_add_9ea2d ul_RX8_89 ui_Jx4a65c_add_9ea2d us_RJx4a65c_Jx4a65c_add_9ea2d un_RJx4a65c) rfl rfl rfl ud_Jx4a65c_add_9ea2d ⟨Nat.le_of_ble_eq_true rfl, Nat.le_of_ble_eq_true rfl⟩) w rfl hl.1 rfl (Nat.le_of_ble_eq_true rfl) dX8_rightlyTold_19 ⟨(by show _ ≤ (1513 : Nat); omega), (by show _ ≤ (96832 : Nat); omega)⟩) (fun H locs w => ?_)
  refine lv_pop hx hb dX8_rightlyTold_22 rfl ?_
  refine lv_iconst (v := (0 : Int32)) hx hb dX8_rightlyTold_23 (by decide) ?_
  replace h := lt_e h
  obtain ⟨x8_674, ex8_674, h⟩ := h
  refine top_i ex8_674 ?_
  refine lv_istore (lv' := [(8, .int x8_674), (7, .int a4), (6, .int x6_661), (0, .ref th), (1, .ref a1), (2, .int a2), (3, .ref a3), (4, .int a4), (5, .int a5)]) hx hb dX8_rightlyTold_24 hl (by decide) (rfl) (fun ls hl => ?_)
  refine W.widen (k := (1 + (63 - 63) * 12)) (n := (64 + (63 - 63) * 768)) (by omega) (by omega) ?_
  exact L26  63 (Nat.le_refl _) th a1 a2 a5 x6_661 a4 x8_674 P_670 h _ _ _ (lv_sub hl [3, 4, 5, 8, 2, 1, 0] rfl) w
def hm_X8_way_34 (t0 : TS)  (P : PS) : Option (Int32 × PS) := some ((-1 : Int32), P)
def hm_X8_way_56 (t0 : TS) (o0 : Nat) (x2 : Int32) (x4 : Int32) (x5 : Int32) (o6 : Nat) (o7 : Nat) (P : PS) : Option (Int32 × PS) := bd (hm_X8_rightlyTold t0  P o0 o6 x2 o7 x4 x5) (fun r_202 P_201 => ck (kk P o0 9) (some (r_202, P_201)))
def hm_X8_way (t0 : TS) (P : PS) (th : Nat) (a1 : Int32) (a2 : Int32) (a3 : Int32) (a4 : Int32) (a5 : Int32) : Option (Int32 × PS) := bd (hm_X8_tapeAt  P th a1) (fun o_306 P_305 => ck (kk P th 9) (bd (hm_X8_wordAt  P_305 th a3) (fun o_310 P_309 => ck (kk P_305 th 9) (nl o_306 (hm_X8_way_34 t0   P_309) (fun b_313 => nl o_310 (hm_X8_way_34 t0   P_309) (fun b_314 => bd (hm_X8_isOffer  P_309 a4 a5) (fun r_316 P_315 => if r_316 = (0 : Int32) then (hm_X8_way_34 t0   P_315) else (ck (kk P_315 b_313 7) (if (pI P_315 b_313 1) = (-1 : Int32) then (hm_X8_way_56 t0  th a2 a4 a5 b_313 b_314 P_315) else (if (pI P_315 b_313 1) = (0 : Int32) then (hm_X8_way_56 t0  th a2 a4 a5 b_313 b_314 P_315) else (some ((-12 : Int32), P_315))))))))))))
abbrev wu_X8_way : List Cond := .code yX8_way cX8_way 8 (some .int) :: wsL_law
theorem ud_X8_way : yX8_way.cls = RX8 ∧ yX8_way.cls ≠ "java/lang/invoke/MethodHandle" ∧ yX8_way.cls ≠ "java/lang/invoke/VarHandle" ∧ (parseMethodDescriptor yX8_way.desc).map (fun d => d.parameters.length) = some 5 := by decide +kernel
abbrev rmc_X8_way : Room := { frames := 9, cells := 1513, slots := 96832, locals := 224 }
set_option maxHeartbeats 4000000 in
set_option maxRecDepth 100000 in
theorem hcc_X8_way (l : Launch) (D : va_G) (cs : Nat → ClassId) (t0 : TS) (P0 T : PS) (th : Nat) (a1 : Int32) (a2 : Int32) (a3 : Int32) (a4 : Int32) (a5 : Int32) (r0 : Int32) (h : hm_X8_way t0 P0 th a1 a2 a3 a4 a5 = some (r0, T)) : MetCI l yX8_way wu_X8_way rmc_X8_way D cs t0 [.ref th, .int a1, .int a2, .int a3, .int a4, .int a5] P0 T r0 1513 96832 := by
  refine co_start (own := RX8) (ty := (some .int)) (cc := cX8_way) (maxL := 8) ⟨by decide, rfl⟩ rfl (Nat.le_of_ble_eq_true rfl) ?_
  intro p e s m args below meth c ls cx hnm hl w
  have hx := cx.1
  have hb := cx.2.1
  have hts := cx.2.2.2.1
  have hown := cx.2.2.2.2.1
  have hml := cx.2.2.2.2.2.2
  have hsub : ∀ w ∈ wsL_law, w ∈ wu_X8_way := fun _ hq => List.mem_cons_of_mem _ hq
  have hl : lv_has ls 8 [(0, .ref th), (1, .int a1), (2, .int a2), (3, .int a3), (4, .int a4), (5, .int a5)] := hl
  have J34 : ∀  (P : PS), hm_X8_way_34 t0   P = some (r0, T) → cGo p l e rmc_X8_way s m args below meth c 8 D cs t0 (pA P0) (cQI below D cs P0 args s 1513 96832 r0 T) 0 0 34 [] [] P := by
    intro  P h H locs ls hl w
    unfold hm_X8_way_34 at h
    refine lv_iconst (v := (-1 : Int32)) hx hb dX8_way_34 (by decide) ?_
    refine W.widen (k := 1513) (n := 96832) (Nat.le_of_ble_eq_true rfl) (Nat.le_of_ble_eq_true rfl) ?_
    exact cw_iret cx (rt_e h) w dX8_way_35
  have J56 : ∀ (o0 : Nat) (x2 : Int32) (x4 : Int32) (x5 : Int32) (o6 : Nat) (o7 : Nat) (P : PS), hm_X8_way_56 t0  o0 x2 x4 x5 o6 o7 P = some (r0, T) → cGo p l e rmc_X8_way s m args below meth c 8 D cs t0 (pA P0) (cQI below D cs P0 args s 1513 96832 r0 T) 0 0 56 [(0, .ref o0), (2, .int x2), (4, .int x4), (5, .int x5), (6, .ref o6), (7, .ref o7)] [] P := by
    intro o0 x2 x4 x5 o6 o7 P h H locs ls hl w
    unfold hm_X8_way_56 at h
    refine lv_aload_n hx hb dX8_way_56 rfl (lv_at hl 0 rfl) ?_
    refine lv_aload hx hb dX8_way_57 (lv_at hl 4 rfl) ?_
    refine lv_iload_n hx hb dX8_way_59 rfl (lv_at hl 1 rfl) ?_
    refine lv_aload hx hb dX8_way_60 (lv_at hl 5 rfl) ?_
    refine lv_iload hx hb dX8_way_62 (lv_at hl 2 rfl) ?_
    refine lv_iload hx hb dX8_way_64 (lv_at hl 3 rfl) ?_
    replace h := bd_e h
    obtain ⟨r_202, P_201, hc_203, h⟩ := h
    replace h := ck_e h
    obtain ⟨hk_204, h⟩ := h
    refine cc_i (cr_V (As := [.ref o6, .int x2, .ref o7, .int x4, .int x5]) (rest := []) cx (hcc_X8_rightlyTold l D cs t0  P P_201 o0 o6 x2 o7 x4 x5 r_202 hc_203) kT9 hk_204 (cwV 5 hts (uG uw_X8_rightlyTold ul_RX8_249 ui_X8_rightlyTold us_RX8_X8_rightlyTold un_RX8) rfl rfl rfl ud_X8_rightlyTold ⟨Nat.le_of_ble_eq_true rfl, Nat.le_of_ble_eq_true rfl⟩) w rfl hl.1 rfl (Nat.le_of_ble_eq_true rfl) dX8_way_66 ⟨(Nat.le_of_ble_eq_true rfl), (Nat.le_of_ble_eq_true rfl)⟩) (fun H locs w => ?_)
    refine W.widen (k := 1513) (n := 96832) (Nat.le_of_ble_eq_true rfl) (Nat.le_of_ble_eq_true rfl) ?_
    exact cw_iret cx (rt_e h) w dX8_way_69
  have hP0 : P0 = P0 := rfl
  unfold hm_X8_way at h
  refine lv_aload_n hx hb dX8_way_0 rfl (lv_at hl 0 rfl) ?_
  refine lv_iload_n hx hb dX8_way_1 rfl (lv_at hl 1 rfl) ?_
  replace h := bd_e h
  obtain ⟨o_306, P_305, hc_307, h⟩ := h
  replace h := ck_e h
  obtain ⟨hk_308, h⟩ := h
  refine cc_q (cr_V (As := [.int a1]) (rest := []) cx (hcc_X8_tapeAt l D cs t0  P0 P_305 th a1 o_306 hc_307) kT9 hk_308 (cwV 1 hts (uG uw_X8_tapeAt ul_RX8_242 ui_X8_tapeAt us_RX8_X8_tapeAt un_RX8) rfl rfl rfl ud_X8_tapeAt ⟨Nat.le_of_ble_eq_true rfl, Nat.le_of_ble_eq_true rfl⟩) w rfl hl.1 rfl (Nat.le_of_ble_eq_true rfl) dX8_way_2 ⟨(Nat.le_of_ble_eq_true rfl), (Nat.le_of_ble_eq_true rfl)⟩) (fun H locs w => ?_)
  refine lq_astore (lv' := [(6, va_rf o_306), (0, .ref th), (1, .int a1), (2, .int a2), (3, .int a3), (4, .int a4), (5, .int a5)]) hx hb dX8_way_5 hl (by decide) (fun v hv => by subst hv; exact (rfl)) (fun ls hl => ?_)
  refine lv_aload_n hx hb dX8_way_7 rfl (lv_at hl 1 rfl) ?_
  refine lv_iload_n hx hb dX8_way_8 rfl (lv_at hl 4 rfl) ?_
  replace h := bd_e h
  obtain ⟨o_310, P_309, hc_311, h⟩ := h
  replace h := ck_e h
  obtain ⟨hk_312, h⟩ := h
  refine cc_q (cr_V (As := [.int a3]) (rest := []) cx (hcc_X8_wordAt l D cs t0  P_305 P_309 th a3 o_310 hc_311) kT9 hk_312 (cwV 1 hts (uG uw_X8_wordAt ul_RX8_95 ui_X8_wordAt us_RX8_X8_wordAt un_RX8) rfl rfl rfl ud_X8_wordAt ⟨Nat.le_of_ble_eq_true rfl, Nat.le_of_ble_eq_true rfl⟩) w rfl hl.1 rfl (Nat.le_of_ble_eq_true rfl) dX8_way_9 ⟨(Nat.le_of_ble_eq_true rfl), (Nat.le_of_ble_eq_true rfl)⟩) (fun H locs w => ?_)
  refine lq_astore (lv' := [(7, va_rf o_310), (6, va_rf o_306), (0, .ref th), (1, .int a1), (2, .int a2), (3, .int a3), (4, .int a4), (5, .int a5)]) hx hb dX8_way_12 hl (by decide) (fun v hv => by subst hv; exact (by simp [List.filter, va_rf_cat])) (fun ls hl => ?_)
  refine lq_aload hx hb dX8_way_14 (lv_at hl 1 rfl) ?_
  cases o_306 with
  | none =>
    replace h := nl_n h
    have hl : lv_has ls 8 [(7, va_rf o_310), (6, .null), (0, .ref th), (1, .int a1), (2, .int a2), (3, .int a3), (4, .int a4), (5, .int a5)] := hl
    refine lv_ifnullN (tgt := 34) hx hb dX8_way_16 (by decide) ?_
    refine W.widen (k := 0) (n := 0) (Nat.le_of_ble_eq_true rfl) (Nat.le_of_ble_eq_true rfl) ?_
    exact J34   P_309 h _ _ _ (lv_sub hl [] rfl) w
  | some b_313 =>
    replace h := nl_s h
    have hl : lv_has ls 8 [(7, va_rf o_310), (6, .ref b_313), (0, .ref th), (1, .int a1), (2, .int a2), (3, .int a3), (4, .int a4), (5, .int a5)] := hl
    refine lv_ifnull hx hb dX8_way_16 ?_
    refine lq_aload hx hb dX8_way_19 (lv_at hl 0 rfl) ?_
    cases o_310 with
    | none =>
      replace h := nl_n h
      have hl : lv_has ls 8 [(7, .null), (6, .ref b_313), (0, .ref th), (1, .int a1), (2, .int a2), (3, .int a3), (4, .int a4), (5, .int a5)] := hl
      refine lv_ifnullN (tgt := 34) hx hb dX8_way_21 (by decide) ?_
      refine W.widen (k := 0) (n := 0) (Nat.le_of_ble_eq_true rfl) (Nat.le_of_ble_eq_true rfl) ?_
      exact J34   P_309 h _ _ _ (lv_sub hl [] rfl) w
    | some b_314 =>
      replace h := nl_s h
      have hl : lv_has ls 8 [(7, .ref b_314), (6, .ref b_313), (0, .ref th), (1, .int a1), (2, .int a2), (3, .int a3), (4, .int a4), (5, .int a5)] := hl
      refine lv_ifnull hx hb dX8_way_21 ?_
      refine lv_iload hx hb dX8_way_24 (lv_at hl 6 rfl) ?_
      refine lv_iload hx hb dX8_way_26 (lv_at hl 7 rfl) ?_
      replace h := bd_e h
      obtain ⟨r_316, P_315, hc_317, h⟩ := h
      refine cc_i (cr_S (As := [.int a4, .int a5]) (rest := []) cx (hcc_X8_isOffer l D cs t0  P_309 P_315 a4 a5 r_316 hc_317) (va_cwS 2 hts (uGS uw_X8_isOffer ul_RX8_166 ut_X8_isOffer un_RX8) rfl rfl rfl ud_X8_isOffer.2 ⟨Nat.le_of_ble_eq_true rfl, Nat.le_of_ble_eq_true rfl⟩) w rfl hl.1 rfl (Nat.le_of_ble_eq_true rfl) dX8_way_28 ⟨(Nat.le_of_ble_eq_true rfl), (Nat.le_of_ble_eq_true rfl)⟩) (fun H locs w => ?_)
      refine lv_if_ne (tgt := 36) hx hb dX8_way_31 (by decide) (fun q => ?_) (fun q => ?_)
      · replace h := br_n q h
        refine lv_aload hx hb dX8_way_36 (lv_at hl 1 rfl) ?_
        replace h := ck_e h
        obtain ⟨hk_318, h⟩ := h
        refine cw_getIN cx hsub w kT7 hk_318 1 (by decide) (host := "HeardWords") (by decide +kernel) dX8_way_38 ?_
        refine lv_iconst (v := (-1 : Int32)) hx hb dX8_way_41 (by decide) ?_
        refine lv_icmp_eq (tgt := 56) hx hb dX8_way_42 (by decide) (fun q => ?_) (fun q => ?_)
        · replace h := br_p q h
          refine W.widen (k := 0) (n := 0) (Nat.le_of_ble_eq_true rfl) (Nat.le_of_ble_eq_true rfl) ?_
          exact J56  th a2 a4 a5 b_313 b_314 P_315 h _ _ _ (lv_sub hl [2, 4, 6, 7, 1, 0] rfl) w
        · replace h := br_n q h
          refine lv_aload hx hb dX8_way_45 (lv_at hl 1 rfl) ?_
          refine cw_getIN cx hsub w kT7 hk_318 1 (by decide) (host := "HeardWords") (by decide +kernel) dX8_way_47 ?_
          refine lv_if_eq (tgt := 56) hx hb dX8_way_50 (by decide) (fun q => ?_) (fun q => ?_)
          · replace h := br_p q h
            refine W.widen (k := 0) (n := 0) (Nat.le_of_ble_eq_true rfl) (Nat.le_of_ble_eq_true rfl) ?_
            exact J56  th a2 a4 a5 b_313 b_314 P_315 h _ _ _ (lv_sub hl [2, 4, 6, 7, 1, 0] rfl) w
          · replace h := br_n q h
            refine lv_bipush (v := (-12 : Int32)) hx hb dX8_way_53 (by decide) ?_
            refine W.widen (k := 1513) (n := 96832) (Nat.le_of_ble_eq_true rfl) (Nat.le_of_ble_eq_true rfl) ?_
            exact cw_iret cx (rt_e h) w dX8_way_55
      · replace h := br_p q h
        refine W.widen (k := 0) (n := 0) (Nat.le_of_ble_eq_true rfl) (Nat.le_of_ble_eq_true rfl) ?_
        exact J34   P_315 h _ _ _ (lv_sub hl [] rfl) w
def hm_X8_shift_24  (P : PS) : Option (Int32 × PS) := some ((-1 : Int32), P)
def hm_X8_shift_44  (P : PS) : Option (Int32 × PS) := some ((-11 : Int32), P)
def hm_X8_shift_86  (P : PS) : Option (Int32 × PS) := some ((-13 : Int32), P)
def hm_X8_shift (P : PS) (th : Nat) (a1 : Int32) (a2 : Int32) (a3 : Int32) (a4 : Int32) (a5 : Int32) : Option (Int32 × PS) := bd (hm_X8_tapeAt  P th a1) (fun o_402 P_401 => ck (kk P th 9) (bd (hm_X8_tapeAt  P_401 th a3) (fun o_406 P_405 => ck (kk P_401 th 9) (nl o_402 (hm_X8_shift_24   P_405) (fun b_409 => nl o_406 (hm_X8_shift_24   P_405) (fun b_410 => ck (kk P_405 b_409 7) (if (pI P_405 b_409 1) = (-1 : Int32) then (hm_X8_shift_44   P_405) else (ck (kk P_405 b_410 7) (if (pI P_405 b_410 1) = (-1 : Int32) then (hm_X8_shift_44   P_405) else (if (pI P_405 b_409 1) = (pI P_405 b_410 1) then (bd (hm_X6_hasStretch  P_405 b_409 a2 a5) (fun r_414 P_413 => if r_414 = (0 : Int32) then (hm_X8_shift_86   P_413) else (bd (hm_X6_hasStretch  P_413 b_410 a4 a5) (fun r_417 P_416 => ck (kk P_413 b_410 7) (if r_417 = (0 : Int32) then (hm_X8_shift_86   P_416) else (ck (kk P_416 b_409 7) (nn (pR P_416 b_409 0) (fun b_421 => ck (kk P_416 b_410 7) (nn (pR P_416 b_410 0) (fun b_423 => ck (kk P_416 b_421 13) (ck (kk P_416 b_423 13) (ck (cpk (pN P_416 b_421) (pN P_416 b_423) a2 a4 a5) (lt_ (pCl P_416 b_421 b_423 (a2).toNatClampNeg (a4).toNatClampNeg (a5).toNatClampNeg) (fun P_427 => some (a5, P_427))))))))))))))) else (some ((-12 : Int32), P_405))))))))))))
abbrev wu_X8_shift : List Cond := .code yX8_shift cX8_shift 8 (some .int) :: wsL_law
theorem ud_X8_shift : yX8_shift.cls = RX8 ∧ yX8_shift.cls ≠ "java/lang/invoke/MethodHandle" ∧ yX8_shift.cls ≠ "java/lang/invoke/VarHandle" ∧ (parseMethodDescriptor yX8_shift.desc).map (fun d => d.parameters.length) = some 5 := by decide +kernel
abbrev rmc_X8_shift : Room := { frames := 1, cells := 0, slots := 0, locals := 40 }
set_option maxHeartbeats 4000000 in
set_option maxRecDepth 100000 in
theorem hcc_X8_shift (l : Launch) (D : va_G) (cs : Nat → ClassId) (t0 : TS) (P0 T : PS) (th : Nat) (a1 : Int32) (a2 : Int32) (a3 : Int32) (a4 : Int32) (a5 : Int32) (r0 : Int32) (h : hm_X8_shift P0 th a1 a2 a3 a4 a5 = some (r0, T)) : MetCI l yX8_shift wu_X8_shift rmc_X8_shift D cs t0 [.ref th, .int a1, .int a2, .int a3, .int a4, .int a5] P0 T r0 0 0 := by
  refine co_start (own := RX8) (ty := (some .int)) (cc := cX8_shift) (maxL := 8) ⟨by decide, rfl⟩ rfl (Nat.le_of_ble_eq_true rfl) ?_
  intro p e s m args below meth c ls cx hnm hl w
  have hx := cx.1
  have hb := cx.2.1
  have hts := cx.2.2.2.1
  have hown := cx.2.2.2.2.1
  have hml := cx.2.2.2.2.2.2
  have hsub : ∀ w ∈ wsL_law, w ∈ wu_X8_shift := fun _ hq => List.mem_cons_of_mem _ hq
  have hl : lv_has ls 8 [(0, .ref th), (1, .int a1), (2, .int a2), (3, .int a3), (4, .int a4), (5, .int a5)] := hl
  have J24 : ∀  (P : PS), hm_X8_shift_24   P = some (r0, T) → cGo p l e rmc_X8_shift s m args below meth c 8 D cs t0 (pA P0) (cQI below D cs P0 args s 0 0 r0 T) 0 0 24 [] [] P := by
    intro  P h H locs ls hl w
    unfold hm_X8_shift_24 at h
    refine lv_iconst (v := (-1 : Int32)) hx hb dX8_shift_24 (by decide) ?_
    exact cw_iret cx (rt_e h) w dX8_shift_25
  have J44 : ∀  (P : PS), hm_X8_shift_44   P = some (r0, T) → cGo p l e rmc_X8_shift s m args below meth c 8 D cs t0 (pA P0) (cQI below D cs P0 args s 0 0 r0 T) 0 0 44 [] [] P := by
    intro  P h H locs ls hl w
    unfold hm_X8_shift_44 at h
    refine lv_bipush (v := (-11 : Int32)) hx hb dX8_shift_44 (by decide) ?_
    exact cw_iret cx (rt_e h) w dX8_shift_46
  have J86 : ∀  (P : PS), hm_X8_shift_86   P = some (r0, T) → cGo p l e rmc_X8_shift s m args below meth c 8 D cs t0 (pA P0) (cQI below D cs P0 args s 0 0 r0 T) 0 0 86 [] [] P := by
    intro  P h H locs ls hl w
    unfold hm_X8_shift_86 at h
    refine lv_bipush (v := (-13 : Int32)) hx hb dX8_shift_86 (by decide) ?_
    exact cw_iret cx (rt_e h) w dX8_shift_88
  have hP0 : P0 = P0 := rfl
  unfold hm_X8_shift at h
  refine lv_aload_n hx hb dX8_shift_0 rfl (lv_at hl 0 rfl) ?_
  refine lv_iload_n hx hb dX8_shift_1 rfl (lv_at hl 1 rfl) ?_
  replace h := bd_e h
  obtain ⟨o_402, P_401, hc_403, h⟩ := h
  replace h := ck_e h
  obtain ⟨hk_404, h⟩ := h
  refine cc_q (cr_V (As := [.int a1]) (rest := []) cx (hcc_X8_tapeAt l D cs t0  P0 P_401 th a1 o_402 hc_403) kT9 hk_404 (cwV 1 hts (uG uw_X8_tapeAt ul_RX8_242 ui_X8_tapeAt us_RX8_X8_tapeAt un_RX8) rfl rfl rfl ud_X8_tapeAt ⟨Nat.le_of_ble_eq_true rfl, Nat.le_of_ble_eq_true rfl⟩) w rfl hl.1 rfl (Nat.le_of_ble_eq_true rfl) dX8_shift_2 ⟨(Nat.le_of_ble_eq_true rfl), (Nat.le_of_ble_eq_true rfl)⟩) (fun H locs w => ?_)
  refine lq_astore (lv' := [(6, va_rf o_402), (0, .ref th), (1, .int a1), (2, .int a2), (3, .int a3), (4, .int a4), (5, .int a5)]) hx hb dX8_shift_5 hl (by decide) (fun v hv => by subst hv; exact (rfl)) (fun ls hl => ?_)
  refine lv_aload_n hx hb dX8_shift_7 rfl (lv_at hl 1 rfl) ?_
  refine lv_iload_n hx hb dX8_shift_8 rfl (lv_at hl 4 rfl) ?_
  replace h := bd_e h
  obtain ⟨o_406, P_405, hc_407, h⟩ := h
  replace h := ck_e h
  obtain ⟨hk_408, h⟩ := h
  refine cc_q (cr_V (As := [.int a3]) (rest := []) cx (hcc_X8_tapeAt l D cs t0  P_401 P_405 th a3 o_406 hc_407) kT9 hk_408 (cwV 1 hts (uG uw_X8_tapeAt ul_RX8_242 ui_X8_tapeAt us_RX8_X8_tapeAt un_RX8) rfl rfl rfl ud_X8_tapeAt ⟨Nat.le_of_ble_eq_true rfl, Nat.le_of_ble_eq_true rfl⟩) w rfl hl.1 rfl (Nat.le_of_ble_eq_true rfl) dX8_shift_9 ⟨(Nat.le_of_ble_eq_true rfl), (Nat.le_of_ble_eq_true rfl)⟩) (fun H locs w => ?_)
  refine lq_astore (lv' := [(7, va_rf o_406), (6, va_rf o_402), (0, .ref th), (1, .int a1), (2, .int a2), (3, .int a3), (4, .int a4), (5, .int a5)]) hx hb dX8_shift_12 hl (by decide) (fun v hv => by subst hv; exact (by simp [List.filter, va_rf_cat])) (fun ls hl => ?_)
  refine lq_aload hx hb dX8_shift_14 (lv_at hl 1 rfl) ?_
  cases o_402 with
  | none =>
    replace h := nl_n h
    have hl : lv_has ls 8 [(7, va_rf o_406), (6, .null), (0, .ref th), (1, .int a1), (2, .int a2), (3, .int a3), (4, .int a4), (5, .int a5)] := hl
    refine lv_ifnullN (tgt := 24) hx hb dX8_shift_16 (by decide) ?_
    exact J24   P_405 h _ _ _ (lv_sub hl [] rfl) w
  | some b_409 =>
    replace h := nl_s h
    have hl : lv_has ls 8 [(7, va_rf o_406), (6, .ref b_409), (0, .ref th), (1, .int a1), (2, .int a2), (3, .int a3), (4, .int a4), (5, .int a5)] := hl
    refine lv_ifnull hx hb dX8_shift_16 ?_
    refine lq_aload hx hb dX8_shift_19 (lv_at hl 0 rfl) ?_
    cases o_406 with
    | none =>
      replace h := nl_n h
      have hl : lv_has ls 8 [(7, .null), (6, .ref b_409), (0, .ref th), (1, .int a1), (2, .int a2), (3, .int a3), (4, .int a4), (5, .int a5)] := hl
      refine lv_ifnonnullN hx hb dX8_shift_21 ?_
      exact J24   P_405 h _ _ _ (lv_sub hl [] rfl) w
    | some b_410 =>
      replace h := nl_s h
      have hl : lv_has ls 8 [(7, .ref b_410), (6, .ref b_409), (0, .ref th), (1, .int a1), (2, .int a2), (3, .int a3), (4, .int a4), (5, .int a5)] := hl
      refine lv_ifnonnull (tgt := 26) hx hb dX8_shift_21 (by decide) ?_
      refine lv_aload hx hb dX8_shift_26 (lv_at hl 1 rfl) ?_
      replace h := ck_e h
      obtain ⟨hk_411, h⟩ := h
      refine cw_getIN cx hsub w kT7 hk_411 1 (by decide) (host := "HeardWords") (by decide +kernel) dX8_shift_28 ?_
      refine lv_iconst (v := (-1 : Int32)) hx hb dX8_shift_31 (by decide) ?_
      refine lv_icmp_eq (tgt := 44) hx hb dX8_shift_32 (by decide) (fun q => ?_) (fun q => ?_)
      · replace h := br_p q h
        exact J44   P_405 h _ _ _ (lv_sub hl [] rfl) w
      · replace h := br_n q h
        refine lv_aload hx hb dX8_shift_35 (lv_at hl 0 rfl) ?_
        replace h := ck_e h
        obtain ⟨hk_412, h⟩ := h
        refine cw_getIN cx hsub w kT7 hk_412 1 (by decide) (host := "HeardWords") (by decide +kernel) dX8_shift_37 ?_
        refine lv_iconst (v := (-1 : Int32)) hx hb dX8_shift_40 (by decide) ?_
        refine lv_icmp_ne (tgt := 47) hx hb dX8_shift_41 (by decide) (fun q => ?_) (fun q => ?_)
        · replace h := br_n q h
          refine lv_aload hx hb dX8_shift_47 (lv_at hl 1 rfl) ?_
          refine cw_getIN cx hsub w kT7 hk_411 1 (by decide) (host := "HeardWords") (by decide +kernel) dX8_shift_49 ?_
          refine lv_aload hx hb dX8_shift_52 (lv_at hl 0 rfl) ?_
          refine cw_getIN cx hsub w kT7 hk_412 1 (by decide) (host := "HeardWords") (by decide +kernel) dX8_shift_54 ?_
          refine lv_icmp_eq (tgt := 63) hx hb dX8_shift_57 (by decide) (fun q => ?_) (fun q => ?_)
          · replace h := br_p q h
            refine lv_aload hx hb dX8_shift_63 (lv_at hl 1 rfl) ?_
            refine lv_iload_n hx hb dX8_shift_65 rfl (lv_at hl 4 rfl) ?_
            refine lv_iload hx hb dX8_shift_66 (lv_at hl 7 rfl) ?_
            replace h := bd_e h
            obtain ⟨r_414, P_413, hc_415, h⟩ := h
            refine cc_i (cr_VN (As := [.int a2, .int a5]) (rest := []) cx (hcc_X6_hasStretch l D cs t0  P_405 P_413 b_409 a2 a5 r_414 hc_415) kT7 hk_411 ⟨va_cnB (host := "HeardWords") 2 hts (uGB uw_X6_hasStretch) rfl rfl rfl (w.2.2.2.2.2.2.1.2.1 ("HeardWords", 292, yX6_hasStretch, "HeardWords") (by decide +kernel)) (hts _ (hsub _ un_RX6)) ud_X6_hasStretch.2 ⟨Nat.le_of_ble_eq_true rfl, Nat.le_of_ble_eq_true rfl⟩, hts _ (hsub _ ui_X6_hasStretch), hts _ (hsub _ us_RX6_X6_hasStretch)⟩ w rfl hl.1 rfl (Nat.le_of_ble_eq_true rfl) dX8_shift_68 ⟨(Nat.le_of_ble_eq_true rfl), (Nat.le_of_ble_eq_true rfl)⟩) (fun H locs w => ?_)
            refine lv_if_eq (tgt := 86) hx hb dX8_shift_71 (by decide) (fun q => ?_) (fun q => ?_)
            · replace h := br_p q h
              exact J86   P_413 h _ _ _ (lv_sub hl [] rfl) w
            · replace h := br_n q h
              refine lv_aload hx hb dX8_shift_74 (lv_at hl 0 rfl) ?_
              refine lv_iload hx hb dX8_shift_76 (lv_at hl 6 rfl) ?_
              refine lv_iload hx hb dX8_shift_78 (lv_at hl 7 rfl) ?_
              replace h := bd_e h
              obtain ⟨r_417, P_416, hc_418, h⟩ := h
              replace h := ck_e h
              obtain ⟨hk_419, h⟩ := h
              refine cc_i (cr_VN (As := [.int a4, .int a5]) (rest := []) cx (hcc_X6_hasStretch l D cs t0  P_413 P_416 b_410 a4 a5 r_417 hc_418) kT7 hk_419 ⟨va_cnB (host := "HeardWords") 2 hts (uGB uw_X6_hasStretch) rfl rfl rfl (w.2.2.2.2.2.2.1.2.1 ("HeardWords", 292, yX6_hasStretch, "HeardWords") (by decide +kernel)) (hts _ (hsub _ un_RX6)) ud_X6_hasStretch.2 ⟨Nat.le_of_ble_eq_true rfl, Nat.le_of_ble_eq_true rfl⟩, hts _ (hsub _ ui_X6_hasStretch), hts _ (hsub _ us_RX6_X6_hasStretch)⟩ w rfl hl.1 rfl (Nat.le_of_ble_eq_true rfl) dX8_shift_80 ⟨(Nat.le_of_ble_eq_true rfl), (Nat.le_of_ble_eq_true rfl)⟩) (fun H locs w => ?_)
              refine lv_if_ne (tgt := 89) hx hb dX8_shift_83 (by decide) (fun q => ?_) (fun q => ?_)
              · replace h := br_n q h
                refine lv_aload hx hb dX8_shift_89 (lv_at hl 1 rfl) ?_
                replace h := ck_e h
                obtain ⟨hk_420, h⟩ := h
                replace h := nn_e h
                obtain ⟨b_421, hbb_421, h⟩ := h
                refine cw_getSN cx hsub w kT7 hk_420 0 (by decide) hbb_421 (host := "HeardWords") (by decide +kernel) dX8_shift_91 ?_
                refine lv_iload_n hx hb dX8_shift_94 rfl (lv_at hl 4 rfl) ?_
                refine lv_aload hx hb dX8_shift_95 (lv_at hl 0 rfl) ?_
                replace h := ck_e h
                obtain ⟨hk_422, h⟩ := h
                replace h := nn_e h
                obtain ⟨b_423, hbb_423, h⟩ := h
                refine cw_getSN cx hsub w kT7 hk_422 0 (by decide) hbb_423 (host := "HeardWords") (by decide +kernel) dX8_shift_97 ?_
                refine lv_iload hx hb dX8_shift_100 (lv_at hl 6 rfl) ?_
                refine lv_iload hx hb dX8_shift_102 (lv_at hl 7 rfl) ?_
                replace h := ck_e h
                obtain ⟨hk_424, h⟩ := h
                replace h := ck_e h
                obtain ⟨hk_425, h⟩ := h
                replace h := ck_e h
                obtain ⟨hq_426, h⟩ := h
                replace h := lt_e h
                obtain ⟨P_427, eP_427, h⟩ := h
                refine cw_copyl cx hsub w hl.1 ul_RX8_299 hk_424 hk_425 hq_426 eP_427 (Nat.le_of_ble_eq_true rfl) (Nat.le_of_ble_eq_true rfl) dX8_shift_104 (fun H locs w => ?_)
                refine lv_iload hx hb dX8_shift_107 (lv_at hl 7 rfl) ?_
                exact cw_iret cx (rt_e h) w dX8_shift_109
              · replace h := br_p q h
                exact J86   P_416 h _ _ _ (lv_sub hl [] rfl) w
          · replace h := br_n q h
            refine lv_bipush (v := (-12 : Int32)) hx hb dX8_shift_60 (by decide) ?_
            exact cw_iret cx (rt_e h) w dX8_shift_62
        · replace h := br_p q h
          exact J44   P_405 h _ _ _ (lv_sub hl [] rfl) w
