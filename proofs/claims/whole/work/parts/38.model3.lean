def mm_isPlan_6 (k6 : Int32 → Int32 → Int32 → MS → Option (Int32 × MS)) (x1 : Int32) (x2 : Int32) (x3 : Int32) (S : MS) : Option (Int32 × MS) := if x1 ≤ x3 then (some ((1 : Int32), S)) else (ck (vin x3 5) (ck (vin (S.2.1 31 (x3).toNatClampNeg) 5) (lt_ ((S.2.1 30 ((S.2.1 31 (x3).toNatClampNeg)).toNatClampNeg)) (fun x4_103 => bd (mm_isHeard S x4_103 (0 : Int32) x2) (fun r_105 S_104 => if r_105 = (0 : Int32) then (some ((0 : Int32), S_104)) else (ck (vin x4_103 14) (lt_ (mP S_104 24 ((S_104.1 24) ||| (S_104.2.1 6 (x4_103).toNatClampNeg))) (fun S_108 => ck (vin x4_103 14) (ck (vin (S_108.2.1 5 (x4_103).toNatClampNeg) 8) (ck (vin (S_108.2.1 5 (x4_103).toNatClampNeg) 8) (lt_ (mR S_108 27 ((S_108.2.1 5 (x4_103).toNatClampNeg)).toNatClampNeg ((S_108.2.1 27 ((S_108.2.1 5 (x4_103).toNatClampNeg)).toNatClampNeg) + (1 : Int32))) (fun S_112 => lt_ (x3 + (1 : Int32)) (fun x3_113 => k6 x1 x2 x3_113 S_112)))))))))))))
def mm_isPlan_6L : Nat → Int32 → Int32 → Int32 → MS → Option (Int32 × MS)
  | 0, _, _, _, _ => none
  | n + 1, x1, x2, x3, S => mm_isPlan_6  (mm_isPlan_6L  n) x1 x2 x3 S
def mm_isPlan (S : MS) (a1 : Int32) (a2 : Int32) : Option (Int32 × MS) := bd (mm_asItIs S ) (fun _ S_214 => lt_ ((0 : Int32)) (fun x3_217 => mm_isPlan_6L  4000 a1 a2 x3_217 S_214))
abbrev wu_X9_isPlan : List Cond := .code yX9_isPlan cX9_isPlan 5 (some .boolean) :: wsL_law
theorem ud_X9_isPlan : yX9_isPlan.cls = RX9 ∧ yX9_isPlan.cls ≠ "java/lang/invoke/MethodHandle" ∧ yX9_isPlan.cls ≠ "java/lang/invoke/VarHandle" ∧ (parseMethodDescriptor yX9_isPlan.desc).map (fun d => d.parameters.length) = some 2 := by decide +kernel
abbrev rmX9_isPlan : Room := { frames := 8, cells := 0, slots := 0, locals := 192 }
set_option maxHeartbeats 4000000 in
set_option maxRecDepth 100000 in
theorem cc_isPlan (l : Launch) (D : va_G) (cs : Nat → ClassId) (ad : Nat → Nat) (S T : MS) (a1 : Int32) (a2 : Int32) (r0 : Int32) (h : mm_isPlan S a1 a2 = some (r0, T)) : MetI l yX9_isPlan wu_X9_isPlan rmX9_isPlan D cs ad [.int a1, .int a2] S T r0 := by
  refine mo_I (ty := .boolean) (cc := cX9_isPlan) (maxL := 5) ⟨by decide, rfl⟩ rfl (Nat.le_of_ble_eq_true rfl) ?_
  intro p e s m args below meth c ls cx hl w
  have hx := cx.1
  have hb := cx.2.1
  have hts := cx.2.2.2.1
  have hown := cx.2.2.2.2.1
  have hin : ∀ w ∈ wsX90, w ∈ wu_X9_isPlan := fun _ hq => List.mem_cons_of_mem _ (inlX9 _ hq)
  have hl : lv_has ls 5 [(0, .ref (ad 100)), (1, .int a1), (2, .int a2)] := hl
  have L6 : ∀ (n : Nat) (x1 : Int32) (x2 : Int32) (x3 : Int32) (S : MS), mm_isPlan_6L  n x1 x2 x3 S = some (r0, T) → mGo p l e rmX9_isPlan s m args below meth c 5 D cs ad (mQI below D cs ad args s r0 T) 6 [(0, .ref (ad 100)), (1, .int x1), (2, .int x2), (3, .int x3)] [] S := by
    intro n
    induction n with
    | zero =>
      intro x1 x2 x3 S h
      have h : none = some (r0, T) := h
      cases h
    | succ n hk6 =>
      intro x1 x2 x3 S h H locs ls hl w
      have h : mm_isPlan_6  (mm_isPlan_6L  n) x1 x2 x3 S = some (r0, T) := h
      generalize mm_isPlan_6L  n = k6 at h hk6
      unfold mm_isPlan_6 at h
      refine lv_iload_n hx hb dX9_isPlan_6 rfl (lv_at hl 3 rfl) ?_
      refine lv_iload_n hx hb dX9_isPlan_7 rfl (lv_at hl 1 rfl) ?_
      refine lv_icmp_ge (tgt := 75) hx hb dX9_isPlan_8 (by decide) (fun q => ?_) (fun q => ?_)
      · have h := br_p q h
        refine lv_iconst (v := (1 : Int32)) hx hb dX9_isPlan_75 (by decide) ?_
        exact mw_zret cx (Or.inr rfl) (rt_e h) w dX9_isPlan_76
      · have h := br_n q h
        refine lv_aload_n hx hb dX9_isPlan_11 rfl (lv_at hl 0 rfl) ?_
        refine mw_getR cx hin w 30 (by decide) (List.mem_cons_of_mem _ uf_RX9_102) dX9_isPlan_12 ?_
        refine lv_aload_n hx hb dX9_isPlan_15 rfl (lv_at hl 0 rfl) ?_
        refine mw_getR cx hin w 31 (by decide) (List.mem_cons_of_mem _ uf_RX9_105) dX9_isPlan_16 ?_
        refine lv_iload_n hx hb dX9_isPlan_19 rfl (lv_at hl 3 rfl) ?_
        obtain ⟨hq_101, h⟩ := ck_e h
        refine mw_iald cx w 19 31 5 (by decide) hq_101 dX9_isPlan_20 ?_
        obtain ⟨hq_102, h⟩ := ck_e h
        refine mw_iald cx w 18 30 5 (by decide) hq_102 dX9_isPlan_21 ?_
        obtain ⟨x4_103, ex4_103, h⟩ := lt_e h
        refine top_i ex4_103 ?_
        refine lv_istore (lv' := [(4, .int x4_103), (0, .ref (ad 100)), (1, .int x1), (2, .int x2), (3, .int x3)]) hx hb dX9_isPlan_22 hl (by decide) rfl (fun ls hl => ?_)
        refine lv_aload_n hx hb dX9_isPlan_24 rfl (lv_at hl 1 rfl) ?_
        refine lv_iload hx hb dX9_isPlan_25 (lv_at hl 0 rfl) ?_
        refine lv_iconst (v := (0 : Int32)) hx hb dX9_isPlan_27 (by decide) ?_
        refine lv_iload_n hx hb dX9_isPlan_28 rfl (lv_at hl 3 rfl) ?_
        obtain ⟨r_105, S_104, hc_106, h⟩ := bd_e h
        refine mw_calli (As := [.int x4_103, .int (0 : Int32), .int x2]) (rest := []) cx (cc_isHeard l D cs ad S S_104 x4_103 (0 : Int32) x2 r_105 hc_106) (cwV 3 hts (uG uw_X9_isHeard ul_RX9_237 ui_X9_isHeard us_RX9_X9_isHeard un_RX9) rfl rfl rfl ud_X9_isHeard ⟨Nat.le_of_ble_eq_true rfl, Nat.le_of_ble_eq_true rfl⟩) w rfl hl.1 rfl (Nat.le_of_ble_eq_true rfl) dX9_isPlan_29 (fun H locs w => ?_)
        refine lv_if_ne (tgt := 37) hx hb dX9_isPlan_32 (by decide) (fun q => ?_) (fun q => ?_)
        · have h := br_n q h
          refine lv_aload_n hx hb dX9_isPlan_37 rfl (lv_at hl 1 rfl) ?_
          refine lv_dup hx hb dX9_isPlan_38 rfl ?_
          refine mw_getI cx hin w 24 (by decide) (List.mem_cons_of_mem _ uf_RX9_83) dX9_isPlan_39 ?_
          refine lv_aload_n hx hb dX9_isPlan_42 rfl (lv_at hl 1 rfl) ?_
          refine mw_getR cx hin w 6 (by decide) (List.mem_cons_of_mem _ uf_RX9_29) dX9_isPlan_43 ?_
          refine lv_iload hx hb dX9_isPlan_46 (lv_at hl 0 rfl) ?_
          obtain ⟨hq_107, h⟩ := ck_e h
          refine mw_iald cx w 3 6 14 (by decide) hq_107 dX9_isPlan_48 ?_
          refine lv_ior hx hb dX9_isPlan_49 ?_
          obtain ⟨S_108, eS_108, h⟩ := lt_e h
          refine mw_putI cx hin w 24 eS_108 (by decide +kernel) (List.mem_cons_of_mem _ uf_RX9_83) dX9_isPlan_50 (fun H locs w => ?_)
          refine lv_aload_n hx hb dX9_isPlan_53 rfl (lv_at hl 1 rfl) ?_
          refine mw_getR cx hin w 27 (by decide) (List.mem_cons_of_mem _ uf_RX9_92) dX9_isPlan_54 ?_
          refine lv_aload_n hx hb dX9_isPlan_57 rfl (lv_at hl 1 rfl) ?_
          refine mw_getR cx hin w 5 (by decide) (List.mem_cons_of_mem _ uf_RX9_26) dX9_isPlan_58 ?_
          refine lv_iload hx hb dX9_isPlan_61 (lv_at hl 0 rfl) ?_
          obtain ⟨hq_109, h⟩ := ck_e h
          refine mw_iald cx w 2 5 14 (by decide) hq_109 dX9_isPlan_63 ?_
          refine lv_dup2_11 hx hb dX9_isPlan_64 rfl rfl ?_
          obtain ⟨hq_110, h⟩ := ck_e h
          refine mw_iald cx w 15 27 8 (by decide) hq_110 dX9_isPlan_65 ?_
          refine lv_iconst (v := (1 : Int32)) hx hb dX9_isPlan_66 (by decide) ?_
          refine lv_iadd hx hb dX9_isPlan_67 ?_
          obtain ⟨hq_111, h⟩ := ck_e h
          obtain ⟨S_112, eS_112, h⟩ := lt_e h
          refine mw_iast cx w 15 27 8 (by decide) hq_111 eS_112 dX9_isPlan_68 (fun H locs w => ?_)
          obtain ⟨x3_113, ex3_113, h⟩ := lt_e h
          refine lv_iinc (v := x3_113) (lv' := [(3, .int x3_113), (4, .int x4_103), (0, .ref (ad 100)), (1, .int x1), (2, .int x2)]) hx hb dX9_isPlan_69 hl (k := 4) rfl (by rw [ex3_113]; rfl) (by decide) rfl (fun ls hl => ?_)
          refine lv_goto (tgt := 6) hx hb dX9_isPlan_72 (by decide) ?_
          exact hk6 x1 x2 x3_113 S_112 h _ _ _ (lv_sub hl [2, 3, 4, 0] rfl) w
        · have h := br_p q h
          refine lv_iconst (v := (0 : Int32)) hx hb dX9_isPlan_35 (by decide) ?_
          exact mw_zret cx (Or.inl rfl) (rt_e h) w dX9_isPlan_36
  unfold mm_isPlan at h
  refine lv_aload_n hx hb dX9_isPlan_0 rfl (lv_at hl 0 rfl) ?_
  obtain ⟨r_215, S_214, hc_216, h⟩ := bd_e h
  refine mw_callv (As := []) (rest := []) cx (cc_asItIs l D cs ad S S_214  r_215 hc_216) (cwV 0 hts (uG uw_X9_asItIs ul_RX9_211 ui_X9_asItIs us_RX9_X9_asItIs un_RX9) rfl rfl rfl ud_X9_asItIs ⟨Nat.le_of_ble_eq_true rfl, Nat.le_of_ble_eq_true rfl⟩) w rfl hl.1 rfl (Nat.le_of_ble_eq_true rfl) dX9_isPlan_1 (fun H locs w => ?_)
  refine lv_iconst (v := (0 : Int32)) hx hb dX9_isPlan_4 (by decide) ?_
  obtain ⟨x3_217, ex3_217, h⟩ := lt_e h
  refine top_i ex3_217 ?_
  refine lv_istore_n (lv' := [(3, .int x3_217), (0, .ref (ad 100)), (1, .int a1), (2, .int a2)]) hx hb dX9_isPlan_5 rfl hl (by decide) rfl (fun ls hl => ?_)
  exact L6  4000 a1 a2 x3_217 S_214 h _ _ _ (lv_sub hl [1, 2, 3, 0] rfl) w
def mm_isOrder_10 (k10 : Int32 → Int32 → Int32 → Int32 → MS → Option (Int32 × MS)) (x2 : Int32) (x3 : Int32) (x4 : Int32) (x5 : Int32) (S : MS) : Option (Int32 × MS) := if x5 < (0 : Int32) then (bd (mm_ones S x4) (fun r_102 S_101 => if r_102 = x2 then (some ((1 : Int32), S_101)) else (some ((0 : Int32), S_101)))) else (ck (nz x2) (ck (vin x5 5) (lt_ (mR S 31 (x5).toNatClampNeg (x3 - x3 / x2 * x2)) (fun S_106 => ck (nz x2) (lt_ ((x3 / x2)) (fun x3_108 => ck (vin x5 5) (lt_ ((x4 ||| ((1 : Int32) <<< ((S_106.2.1 31 (x5).toNatClampNeg) &&& 31)))) (fun x4_110 => lt_ (x5 + (-1 : Int32)) (fun x5_111 => k10 x2 x3_108 x4_110 x5_111 S_106)))))))))
def mm_isOrder_10L : Nat → Int32 → Int32 → Int32 → Int32 → MS → Option (Int32 × MS)
  | 0, _, _, _, _, _ => none
  | n + 1, x2, x3, x4, x5, S => mm_isOrder_10  (mm_isOrder_10L  n) x2 x3 x4 x5 S
def mm_isOrder (S : MS) (a1 : Int32) (a2 : Int32) : Option (Int32 × MS) := lt_ ((0 : Int32)) (fun x4_212 => lt_ ((a2 - (1 : Int32))) (fun x5_213 => mm_isOrder_10L  4000 a2 a1 x4_212 x5_213 S))
abbrev wu_X9_isOrder : List Cond := .code yX9_isOrder cX9_isOrder 6 (some .boolean) :: wsL_law
theorem ud_X9_isOrder : yX9_isOrder.cls = RX9 ∧ yX9_isOrder.cls ≠ "java/lang/invoke/MethodHandle" ∧ yX9_isOrder.cls ≠ "java/lang/invoke/VarHandle" ∧ (parseMethodDescriptor yX9_isOrder.desc).map (fun d => d.parameters.length) = some 2 := by decide +kernel
abbrev rmX9_isOrder : Room := { frames := 1, cells := 0, slots := 0, locals := 23 }
set_option maxHeartbeats 4000000 in
set_option maxRecDepth 100000 in
theorem cc_isOrder (l : Launch) (D : va_G) (cs : Nat → ClassId) (ad : Nat → Nat) (S T : MS) (a1 : Int32) (a2 : Int32) (r0 : Int32) (h : mm_isOrder S a1 a2 = some (r0, T)) : MetI l yX9_isOrder wu_X9_isOrder rmX9_isOrder D cs ad [.int a1, .int a2] S T r0 := by
  refine mo_I (ty := .boolean) (cc := cX9_isOrder) (maxL := 6) ⟨by decide, rfl⟩ rfl (Nat.le_of_ble_eq_true rfl) ?_
  intro p e s m args below meth c ls cx hl w
  have hx := cx.1
  have hb := cx.2.1
  have hts := cx.2.2.2.1
  have hown := cx.2.2.2.2.1
  have hin : ∀ w ∈ wsX90, w ∈ wu_X9_isOrder := fun _ hq => List.mem_cons_of_mem _ (inlX9 _ hq)
  have hl : lv_has ls 6 [(0, .ref (ad 100)), (1, .int a1), (2, .int a2)] := hl
  have L10 : ∀ (n : Nat) (x2 : Int32) (x3 : Int32) (x4 : Int32) (x5 : Int32) (S : MS), mm_isOrder_10L  n x2 x3 x4 x5 S = some (r0, T) → mGo p l e rmX9_isOrder s m args below meth c 6 D cs ad (mQI below D cs ad args s r0 T) 10 [(0, .ref (ad 100)), (2, .int x2), (3, .int x3), (4, .int x4), (5, .int x5)] [] S := by
    intro n
    induction n with
    | zero =>
      intro x2 x3 x4 x5 S h
      have h : none = some (r0, T) := h
      cases h
    | succ n hk10 =>
      intro x2 x3 x4 x5 S h H locs ls hl w
      have h : mm_isOrder_10  (mm_isOrder_10L  n) x2 x3 x4 x5 S = some (r0, T) := h
      generalize mm_isOrder_10L  n = k10 at h hk10
      unfold mm_isOrder_10 at h
      refine lv_iload hx hb dX9_isOrder_10 (lv_at hl 4 rfl) ?_
      refine lv_if_lt (tgt := 49) hx hb dX9_isOrder_12 (by decide) (fun q => ?_) (fun q => ?_)
      · have h := br_p q h
        refine lv_aload_n hx hb dX9_isOrder_49 rfl (lv_at hl 0 rfl) ?_
        refine lv_iload hx hb dX9_isOrder_50 (lv_at hl 3 rfl) ?_
        obtain ⟨r_102, S_101, hc_103, h⟩ := bd_e h
        refine mw_calli (As := [.int x4]) (rest := []) cx (cc_ones l D cs ad S S_101 x4 r_102 hc_103) (cwV 1 hts (uG uw_X9_ones ul_RX9_240 ui_X9_ones us_RX9_X9_ones un_RX9) rfl rfl rfl ud_X9_ones ⟨Nat.le_of_ble_eq_true rfl, Nat.le_of_ble_eq_true rfl⟩) w rfl hl.1 rfl (Nat.le_of_ble_eq_true rfl) dX9_isOrder_52 (fun H locs w => ?_)
        refine lv_iload_n hx hb dX9_isOrder_55 rfl (lv_at hl 1 rfl) ?_
        refine lv_icmp_ne (tgt := 63) hx hb dX9_isOrder_56 (by decide) (fun q => ?_) (fun q => ?_)
        · have h := br_n q h
          refine lv_iconst (v := (0 : Int32)) hx hb dX9_isOrder_63 (by decide) ?_
          exact mw_zret cx (Or.inl rfl) (rt_e h) w dX9_isOrder_64
        · have h := br_p q h
          refine lv_iconst (v := (1 : Int32)) hx hb dX9_isOrder_59 (by decide) ?_
          refine lv_goto (tgt := 64) hx hb dX9_isOrder_60 (by decide) ?_
          exact mw_zret cx (Or.inr rfl) (rt_e h) w dX9_isOrder_64
      · have h := br_n q h
        refine lv_aload_n hx hb dX9_isOrder_15 rfl (lv_at hl 0 rfl) ?_
        refine mw_getR cx hin w 31 (by decide) (List.mem_cons_of_mem _ uf_RX9_105) dX9_isOrder_16 ?_
        refine lv_iload hx hb dX9_isOrder_19 (lv_at hl 4 rfl) ?_
        refine lv_iload_n hx hb dX9_isOrder_21 rfl (lv_at hl 2 rfl) ?_
        refine lv_iload_n hx hb dX9_isOrder_22 rfl (lv_at hl 1 rfl) ?_
        obtain ⟨hq_104, h⟩ := ck_e h
        refine lv_irem hx hb dX9_isOrder_23 (nz_e hq_104) ?_
        obtain ⟨hq_105, h⟩ := ck_e h
        obtain ⟨S_106, eS_106, h⟩ := lt_e h
        refine mw_iast cx w 19 31 5 (by decide) hq_105 eS_106 dX9_isOrder_24 (fun H locs w => ?_)
        refine lv_iload_n hx hb dX9_isOrder_25 rfl (lv_at hl 2 rfl) ?_
        refine lv_iload_n hx hb dX9_isOrder_26 rfl (lv_at hl 1 rfl) ?_
        obtain ⟨hq_107, h⟩ := ck_e h
        refine lv_idiv hx hb dX9_isOrder_27 (nz_e hq_107) ?_
        obtain ⟨x3_108, ex3_108, h⟩ := lt_e h
        refine top_i ex3_108 ?_
        refine lv_istore_n (lv' := [(3, .int x3_108), (0, .ref (ad 100)), (2, .int x2), (4, .int x4), (5, .int x5)]) hx hb dX9_isOrder_28 rfl hl (by decide) rfl (fun ls hl => ?_)
        refine lv_iload hx hb dX9_isOrder_29 (lv_at hl 3 rfl) ?_
        refine lv_iconst (v := (1 : Int32)) hx hb dX9_isOrder_31 (by decide) ?_
        refine lv_aload_n hx hb dX9_isOrder_32 rfl (lv_at hl 1 rfl) ?_
        refine mw_getR cx hin w 31 (by decide) (List.mem_cons_of_mem _ uf_RX9_105) dX9_isOrder_33 ?_
        refine lv_iload hx hb dX9_isOrder_36 (lv_at hl 4 rfl) ?_
        obtain ⟨hq_109, h⟩ := ck_e h
        refine mw_iald cx w 19 31 5 (by decide) hq_109 dX9_isOrder_38 ?_
        refine lv_ishl hx hb dX9_isOrder_39 ?_
        refine lv_ior hx hb dX9_isOrder_40 ?_
        obtain ⟨x4_110, ex4_110, h⟩ := lt_e h
        refine top_i ex4_110 ?_
        refine lv_istore (lv' := [(4, .int x4_110), (3, .int x3_108), (0, .ref (ad 100)), (2, .int x2), (5, .int x5)]) hx hb dX9_isOrder_41 hl (by decide) rfl (fun ls hl => ?_)
        obtain ⟨x5_111, ex5_111, h⟩ := lt_e h
        refine lv_iinc (v := x5_111) (lv' := [(5, .int x5_111), (4, .int x4_110), (3, .int x3_108), (0, .ref (ad 100)), (2, .int x2)]) hx hb dX9_isOrder_43 hl (k := 4) rfl (by rw [ex5_111]; rfl) (by decide) rfl (fun ls hl => ?_)
        refine lv_goto (tgt := 10) hx hb dX9_isOrder_46 (by decide) ?_
        exact hk10 x2 x3_108 x4_110 x5_111 S_106 h _ _ _ (lv_sub hl [3, 4, 2, 1, 0] rfl) w
  unfold mm_isOrder at h
  refine lv_iload_n hx hb dX9_isOrder_0 rfl (lv_at hl 1 rfl) ?_
  refine lv_istore_n (lv' := [(3, .int a1), (0, .ref (ad 100)), (1, .int a1), (2, .int a2)]) hx hb dX9_isOrder_1 rfl hl (by decide) rfl (fun ls hl => ?_)
  refine lv_iconst (v := (0 : Int32)) hx hb dX9_isOrder_2 (by decide) ?_
  obtain ⟨x4_212, ex4_212, h⟩ := lt_e h
  refine top_i ex4_212 ?_
  refine lv_istore (lv' := [(4, .int x4_212), (3, .int a1), (0, .ref (ad 100)), (1, .int a1), (2, .int a2)]) hx hb dX9_isOrder_3 hl (by decide) rfl (fun ls hl => ?_)
  refine lv_iload_n hx hb dX9_isOrder_5 rfl (lv_at hl 4 rfl) ?_
  refine lv_iconst (v := (1 : Int32)) hx hb dX9_isOrder_6 (by decide) ?_
  refine lv_isub hx hb dX9_isOrder_7 ?_
  obtain ⟨x5_213, ex5_213, h⟩ := lt_e h
  refine top_i ex5_213 ?_
  refine lv_istore (lv' := [(5, .int x5_213), (4, .int x4_212), (3, .int a1), (0, .ref (ad 100)), (1, .int a1), (2, .int a2)]) hx hb dX9_isOrder_8 hl (by decide) rfl (fun ls hl => ?_)
  exact L10  4000 a2 a1 x4_212 x5_213 S h _ _ _ (lv_sub hl [3, 5, 2, 1, 0] rfl) w
def mm_plan_13  (S : MS) : Option (Int32 × MS) := some ((-1 : Int32), S)
def mm_plan_41  (S : MS) : Option (Int32 × MS) := some ((-2 : Int32), S)
def mm_plan_87 (k53 : Int32 → Int32 → Int32 → Int32 → Int32 → Int32 → MS → Option (Int32 × MS)) (x1 : Int32) (x2 : Int32) (x3 : Int32) (x4 : Int32) (x5 : Int32) (x6 : Int32) (S : MS) : Option (Int32 × MS) := lt_ (x6 + (1 : Int32)) (fun x6_301 => k53 x1 x2 x3 x4 x5 x6_301 S)
def mm_plan_178 (k119 : Int32 → Int32 → Int32 → Int32 → Int32 → MS → Option (Int32 × MS)) (x2 : Int32) (x3 : Int32) (x4 : Int32) (x5 : Int32) (x6 : Int32) (S : MS) : Option (Int32 × MS) := lt_ (x6 + (1 : Int32)) (fun x6_402 => k119 x2 x3 x4 x5 x6_402 S)
def mm_plan_119 (k119 : Int32 → Int32 → Int32 → Int32 → Int32 → MS → Option (Int32 × MS)) (x2 : Int32) (x3 : Int32) (x4 : Int32) (x5 : Int32) (x6 : Int32) (S : MS) : Option (Int32 × MS) := if x5 ≤ x6 then (if x3 = (-1 : Int32) then (some ((0 : Int32), S)) else (some ((-1 : Int32), S))) else (bd (mm_isOrder S x6 x4) (fun r_504 S_503 => if r_504 = (0 : Int32) then (mm_plan_178 k119 x2 x3 x4 x5 x6 S_503) else (bd (mm_isPlan S_503 x4 x2) (fun r_507 S_506 => if r_507 = (0 : Int32) then (mm_plan_178 k119 x2 x3 x4 x5 x6 S_506) else (if x3 = (-1 : Int32) then (some ((1 : Int32), S_506)) else (if x4 ≤ x3 then (some ((-1 : Int32), S_506)) else (ck (vin x3 5) (ck (vin (S_506.2.1 31 (x3).toNatClampNeg) 5) (some ((S_506.2.1 30 ((S_506.2.1 31 (x3).toNatClampNeg)).toNatClampNeg), S_506))))))))))
def mm_plan_119L : Nat → Int32 → Int32 → Int32 → Int32 → Int32 → MS → Option (Int32 × MS)
  | 0, _, _, _, _, _, _ => none
  | n + 1, x2, x3, x4, x5, x6, S => mm_plan_119  (mm_plan_119L  n) x2 x3 x4 x5 x6 S
def mm_plan_96 (k96 : Int32 → Int32 → Int32 → Int32 → Int32 → MS → Option (Int32 × MS)) (x2 : Int32) (x3 : Int32) (x4 : Int32) (x5 : Int32) (x6 : Int32) (S : MS) : Option (Int32 × MS) := if x4 ≤ x6 then (lt_ ((0 : Int32)) (fun x6_611 => mm_plan_119L  4000 x2 x3 x4 x5 x6_611 S)) else (lt_ ((x5 * x4)) (fun x5_612 => lt_ (x6 + (1 : Int32)) (fun x6_613 => k96 x2 x3 x4 x5_612 x6_613 S)))
def mm_plan_96L : Nat → Int32 → Int32 → Int32 → Int32 → Int32 → MS → Option (Int32 × MS)
  | 0, _, _, _, _, _, _ => none
  | n + 1, x2, x3, x4, x5, x6, S => mm_plan_96  (mm_plan_96L  n) x2 x3 x4 x5 x6 S
def mm_plan_53 (k53 : Int32 → Int32 → Int32 → Int32 → Int32 → Int32 → MS → Option (Int32 × MS)) (x1 : Int32) (x2 : Int32) (x3 : Int32) (x4 : Int32) (x5 : Int32) (x6 : Int32) (S : MS) : Option (Int32 × MS) := if (S.1 0) ≤ x6 then (lt_ ((0 : Int32)) (fun x6_714 => mm_plan_96L  4000 x2 x3 x4 x5 x6_714 S)) else (bd (mm_has S x1 x6) (fun r_716 S_715 => if r_716 = (0 : Int32) then (mm_plan_87 k53 x1 x2 x3 x4 x5 x6 S_715) else (ck (vin x4 5) (lt_ (mR S_715 30 (x4).toNatClampNeg x6) (fun S_719 => lt_ (x4 + (1 : Int32)) (fun x4_720 => mm_plan_87 k53 x1 x2 x3 x4_720 x5 x6 S_719))))))
def mm_plan_53L : Nat → Int32 → Int32 → Int32 → Int32 → Int32 → Int32 → MS → Option (Int32 × MS)
  | 0, _, _, _, _, _, _, _ => none
  | n + 1, x1, x2, x3, x4, x5, x6, S => mm_plan_53  (mm_plan_53L  n) x1 x2 x3 x4 x5 x6 S
def mm_plan (S : MS) (a1 : Int32) (a2 : Int32) (a3 : Int32) : Option (Int32 × MS) := bd (mm_isLand S a2) (fun r_822 S_821 => if r_822 = (0 : Int32) then (mm_plan_13   S_821) else (if (-1 : Int32) ≤ a3 then (bd (mm_in S_821 a1 (1 : Int32) (((1 : Int32) <<< ((S_821.1 0) &&& 31)) - (1 : Int32))) (fun r_825 S_824 => if r_825 = (0 : Int32) then (mm_plan_41   S_824) else (bd (mm_ones S_824 a1) (fun r_828 S_827 => if r_828 ≤ (5 : Int32) then (lt_ ((0 : Int32)) (fun x4_830 => lt_ ((1 : Int32)) (fun x5_831 => lt_ ((0 : Int32)) (fun x6_832 => mm_plan_53L  4000 a1 a2 a3 x4_830 x5_831 x6_832 S_827)))) else (mm_plan_41   S_827))))) else (mm_plan_13   S_821)))
abbrev wu_X9_plan : List Cond := .code yX9_plan cX9_plan 7 (some .int) :: wsL_law
theorem ud_X9_plan : yX9_plan.cls = RX9 ∧ yX9_plan.cls ≠ "java/lang/invoke/MethodHandle" ∧ yX9_plan.cls ≠ "java/lang/invoke/VarHandle" ∧ (parseMethodDescriptor yX9_plan.desc).map (fun d => d.parameters.length) = some 3 := by decide +kernel
abbrev rmX9_plan : Room := { frames := 9, cells := 0, slots := 0, locals := 216 }
set_option maxHeartbeats 4000000 in
set_option maxRecDepth 100000 in
theorem cc_plan (l : Launch) (D : va_G) (cs : Nat → ClassId) (ad : Nat → Nat) (S T : MS) (a1 : Int32) (a2 : Int32) (a3 : Int32) (r0 : Int32) (h : mm_plan S a1 a2 a3 = some (r0, T)) : MetI l yX9_plan wu_X9_plan rmX9_plan D cs ad [.int a1, .int a2, .int a3] S T r0 := by
  refine mo_I (ty := .int) (cc := cX9_plan) (maxL := 7) ⟨by decide, rfl⟩ rfl (Nat.le_of_ble_eq_true rfl) ?_
  intro p e s m args below meth c ls cx hl w
  have hx := cx.1
  have hb := cx.2.1
  have hts := cx.2.2.2.1
  have hown := cx.2.2.2.2.1
  have hin : ∀ w ∈ wsX90, w ∈ wu_X9_plan := fun _ hq => List.mem_cons_of_mem _ (inlX9 _ hq)
  have hl : lv_has ls 7 [(0, .ref (ad 100)), (1, .int a1), (2, .int a2), (3, .int a3)] := hl
  have J13 : ∀  (S : MS), mm_plan_13   S = some (r0, T) → mGo p l e rmX9_plan s m args below meth c 7 D cs ad (mQI below D cs ad args s r0 T) 13 [] [] S := by
    intro  S h H locs ls hl w
    unfold mm_plan_13 at h
    refine lv_iconst (v := (-1 : Int32)) hx hb dX9_plan_13 (by decide) ?_
    exact mw_iret cx (rt_e h) w dX9_plan_14
  have J41 : ∀  (S : MS), mm_plan_41   S = some (r0, T) → mGo p l e rmX9_plan s m args below meth c 7 D cs ad (mQI below D cs ad args s r0 T) 41 [] [] S := by
    intro  S h H locs ls hl w
    unfold mm_plan_41 at h
    refine lv_bipush (v := (-2 : Int32)) hx hb dX9_plan_41 (by decide) ?_
    exact mw_iret cx (rt_e h) w dX9_plan_43
  have J87 : ∀ (k53 : Int32 → Int32 → Int32 → Int32 → Int32 → Int32 → MS → Option (Int32 × MS)) (hk53 : ∀ (x1 : Int32) (x2 : Int32) (x3 : Int32) (x4 : Int32) (x5 : Int32) (x6 : Int32) (S : MS), k53 x1 x2 x3 x4 x5 x6 S = some (r0, T) → mGo p l e rmX9_plan s m args below meth c 7 D cs ad (mQI below D cs ad args s r0 T) 53 [(0, .ref (ad 100)), (1, .int x1), (2, .int x2), (3, .int x3), (4, .int x4), (5, .int x5), (6, .int x6)] [] S) (x1 : Int32) (x2 : Int32) (x3 : Int32) (x4 : Int32) (x5 : Int32) (x6 : Int32) (S : MS), mm_plan_87 k53 x1 x2 x3 x4 x5 x6 S = some (r0, T) → mGo p l e rmX9_plan s m args below meth c 7 D cs ad (mQI below D cs ad args s r0 T) 87 [(0, .ref (ad 100)), (1, .int x1), (2, .int x2), (3, .int x3), (4, .int x4), (5, .int x5), (6, .int x6)] [] S := by
    intro k53 hk53 x1 x2 x3 x4 x5 x6 S h H locs ls hl w
    unfold mm_plan_87 at h
    obtain ⟨x6_301, ex6_301, h⟩ := lt_e h
    refine lv_iinc (v := x6_301) (lv' := [(6, .int x6_301), (0, .ref (ad 100)), (1, .int x1), (2, .int x2), (3, .int x3), (4, .int x4), (5, .int x5)]) hx hb dX9_plan_87 hl (k := 6) rfl (by rw [ex6_301]; rfl) (by decide) rfl (fun ls hl => ?_)
    refine lv_goto (tgt := 53) hx hb dX9_plan_90 (by decide) ?_
    exact hk53 x1 x2 x3 x4 x5 x6_301 S h _ _ _ (lv_sub hl [1, 2, 3, 4, 5, 6, 0] rfl) w
  have J178 : ∀ (k119 : Int32 → Int32 → Int32 → Int32 → Int32 → MS → Option (Int32 × MS)) (hk119 : ∀ (x2 : Int32) (x3 : Int32) (x4 : Int32) (x5 : Int32) (x6 : Int32) (S : MS), k119 x2 x3 x4 x5 x6 S = some (r0, T) → mGo p l e rmX9_plan s m args below meth c 7 D cs ad (mQI below D cs ad args s r0 T) 119 [(0, .ref (ad 100)), (2, .int x2), (3, .int x3), (4, .int x4), (5, .int x5), (6, .int x6)] [] S) (x2 : Int32) (x3 : Int32) (x4 : Int32) (x5 : Int32) (x6 : Int32) (S : MS), mm_plan_178 k119 x2 x3 x4 x5 x6 S = some (r0, T) → mGo p l e rmX9_plan s m args below meth c 7 D cs ad (mQI below D cs ad args s r0 T) 178 [(0, .ref (ad 100)), (2, .int x2), (3, .int x3), (4, .int x4), (5, .int x5), (6, .int x6)] [] S := by
    intro k119 hk119 x2 x3 x4 x5 x6 S h H locs ls hl w
    unfold mm_plan_178 at h
    obtain ⟨x6_402, ex6_402, h⟩ := lt_e h
    refine lv_iinc (v := x6_402) (lv' := [(6, .int x6_402), (0, .ref (ad 100)), (2, .int x2), (3, .int x3), (4, .int x4), (5, .int x5)]) hx hb dX9_plan_178 hl (k := 5) rfl (by rw [ex6_402]; rfl) (by decide) rfl (fun ls hl => ?_)
    refine lv_goto (tgt := 119) hx hb dX9_plan_181 (by decide) ?_
    exact hk119 x2 x3 x4 x5 x6_402 S h _ _ _ (lv_sub hl [1, 2, 3, 4, 5, 0] rfl) w
  have L119 : ∀ (n : Nat) (x2 : Int32) (x3 : Int32) (x4 : Int32) (x5 : Int32) (x6 : Int32) (S : MS), mm_plan_119L  n x2 x3 x4 x5 x6 S = some (r0, T) → mGo p l e rmX9_plan s m args below meth c 7 D cs ad (mQI below D cs ad args s r0 T) 119 [(0, .ref (ad 100)), (2, .int x2), (3, .int x3), (4, .int x4), (5, .int x5), (6, .int x6)] [] S := by
    intro n
    induction n with
    | zero =>
      intro x2 x3 x4 x5 x6 S h
      have h : none = some (r0, T) := h
      cases h
    | succ n hk119 =>
      intro x2 x3 x4 x5 x6 S h H locs ls hl w
      have h : mm_plan_119  (mm_plan_119L  n) x2 x3 x4 x5 x6 S = some (r0, T) := h
      generalize mm_plan_119L  n = k119 at h hk119
      unfold mm_plan_119 at h
      refine lv_iload hx hb dX9_plan_119 (lv_at hl 5 rfl) ?_
      refine lv_iload hx hb dX9_plan_121 (lv_at hl 4 rfl) ?_
      refine lv_icmp_ge (tgt := 184) hx hb dX9_plan_123 (by decide) (fun q => ?_) (fun q => ?_)
      · have h := br_p q h
        refine lv_iload_n hx hb dX9_plan_184 rfl (lv_at hl 2 rfl) ?_
        refine lv_iconst (v := (-1 : Int32)) hx hb dX9_plan_185 (by decide) ?_
        refine lv_icmp_ne (tgt := 193) hx hb dX9_plan_186 (by decide) (fun q => ?_) (fun q => ?_)
        · have h := br_n q h
          refine lv_iconst (v := (-1 : Int32)) hx hb dX9_plan_193 (by decide) ?_
          exact mw_iret cx (rt_e h) w dX9_plan_194
        · have h := br_p q h
          refine lv_iconst (v := (0 : Int32)) hx hb dX9_plan_189 (by decide) ?_
          refine lv_goto (tgt := 194) hx hb dX9_plan_190 (by decide) ?_
          exact mw_iret cx (rt_e h) w dX9_plan_194
      · have h := br_n q h
        refine lv_aload_n hx hb dX9_plan_126 rfl (lv_at hl 0 rfl) ?_
        refine lv_iload hx hb dX9_plan_127 (lv_at hl 5 rfl) ?_
        refine lv_iload hx hb dX9_plan_129 (lv_at hl 3 rfl) ?_
        obtain ⟨r_504, S_503, hc_505, h⟩ := bd_e h
        refine mw_calli (As := [.int x6, .int x4]) (rest := []) cx (cc_isOrder l D cs ad S S_503 x6 x4 r_504 hc_505) (cwV 2 hts (uG uw_X9_isOrder ul_RX9_246 ui_X9_isOrder us_RX9_X9_isOrder un_RX9) rfl rfl rfl ud_X9_isOrder ⟨Nat.le_of_ble_eq_true rfl, Nat.le_of_ble_eq_true rfl⟩) w rfl hl.1 rfl (Nat.le_of_ble_eq_true rfl) dX9_plan_131 (fun H locs w => ?_)
        refine lv_if_eq (tgt := 178) hx hb dX9_plan_134 (by decide) (fun q => ?_) (fun q => ?_)
        · have h := br_p q h
          exact J178 k119 hk119 x2 x3 x4 x5 x6 S_503 h _ _ _ (lv_sub hl [0, 1, 2, 3, 4, 5] rfl) w
        · have h := br_n q h
          refine lv_aload_n hx hb dX9_plan_137 rfl (lv_at hl 0 rfl) ?_
          refine lv_iload hx hb dX9_plan_138 (lv_at hl 3 rfl) ?_
          refine lv_iload_n hx hb dX9_plan_140 rfl (lv_at hl 1 rfl) ?_
          obtain ⟨r_507, S_506, hc_508, h⟩ := bd_e h
          refine mw_calli (As := [.int x4, .int x2]) (rest := []) cx (cc_isPlan l D cs ad S_503 S_506 x4 x2 r_507 hc_508) (cwV 2 hts (uG uw_X9_isPlan ul_RX9_249 ui_X9_isPlan us_RX9_X9_isPlan un_RX9) rfl rfl rfl ud_X9_isPlan ⟨Nat.le_of_ble_eq_true rfl, Nat.le_of_ble_eq_true rfl⟩) w rfl hl.1 rfl (Nat.le_of_ble_eq_true rfl) dX9_plan_141 (fun H locs w => ?_)
          refine lv_if_eq (tgt := 178) hx hb dX9_plan_144 (by decide) (fun q => ?_) (fun q => ?_)
          · have h := br_p q h
            exact J178 k119 hk119 x2 x3 x4 x5 x6 S_506 h _ _ _ (lv_sub hl [0, 1, 2, 3, 4, 5] rfl) w
          · have h := br_n q h
            refine lv_iload_n hx hb dX9_plan_147 rfl (lv_at hl 2 rfl) ?_
            refine lv_iconst (v := (-1 : Int32)) hx hb dX9_plan_148 (by decide) ?_
            refine lv_icmp_ne (tgt := 156) hx hb dX9_plan_149 (by decide) (fun q => ?_) (fun q => ?_)
            · have h := br_n q h
              refine lv_iload_n hx hb dX9_plan_156 rfl (lv_at hl 2 rfl) ?_
              refine lv_iload hx hb dX9_plan_157 (lv_at hl 3 rfl) ?_
              refine lv_icmp_ge (tgt := 176) hx hb dX9_plan_159 (by decide) (fun q => ?_) (fun q => ?_)
              · have h := br_p q h
                refine lv_iconst (v := (-1 : Int32)) hx hb dX9_plan_176 (by decide) ?_
                exact mw_iret cx (rt_e h) w dX9_plan_177
              · have h := br_n q h
                refine lv_aload_n hx hb dX9_plan_162 rfl (lv_at hl 0 rfl) ?_
                refine mw_getR cx hin w 30 (by decide) (List.mem_cons_of_mem _ uf_RX9_102) dX9_plan_163 ?_
                refine lv_aload_n hx hb dX9_plan_166 rfl (lv_at hl 0 rfl) ?_
                refine mw_getR cx hin w 31 (by decide) (List.mem_cons_of_mem _ uf_RX9_105) dX9_plan_167 ?_
                refine lv_iload_n hx hb dX9_plan_170 rfl (lv_at hl 2 rfl) ?_
                obtain ⟨hq_509, h⟩ := ck_e h
                refine mw_iald cx w 19 31 5 (by decide) hq_509 dX9_plan_171 ?_
                obtain ⟨hq_510, h⟩ := ck_e h
                refine mw_iald cx w 18 30 5 (by decide) hq_510 dX9_plan_172 ?_
                refine lv_goto (tgt := 177) hx hb dX9_plan_173 (by decide) ?_
                exact mw_iret cx (rt_e h) w dX9_plan_177
            · have h := br_p q h
              refine lv_iconst (v := (1 : Int32)) hx hb dX9_plan_152 (by decide) ?_
              refine lv_goto (tgt := 177) hx hb dX9_plan_153 (by decide) ?_
              exact mw_iret cx (rt_e h) w dX9_plan_177
  have L96 : ∀ (n : Nat) (x2 : Int32) (x3 : Int32) (x4 : Int32) (x5 : Int32) (x6 : Int32) (S : MS), mm_plan_96L  n x2 x3 x4 x5 x6 S = some (r0, T) → mGo p l e rmX9_plan s m args below meth c 7 D cs ad (mQI below D cs ad args s r0 T) 96 [(0, .ref (ad 100)), (2, .int x2), (3, .int x3), (4, .int x4), (5, .int x5), (6, .int x6)] [] S := by
    intro n
    induction n with
    | zero =>
      intro x2 x3 x4 x5 x6 S h
      have h : none = some (r0, T) := h
      cases h
    | succ n hk96 =>
      intro x2 x3 x4 x5 x6 S h H locs ls hl w
      have h : mm_plan_96  (mm_plan_96L  n) x2 x3 x4 x5 x6 S = some (r0, T) := h
      generalize mm_plan_96L  n = k96 at h hk96
      unfold mm_plan_96 at h
      refine lv_iload hx hb dX9_plan_96 (lv_at hl 5 rfl) ?_
      refine lv_iload hx hb dX9_plan_98 (lv_at hl 3 rfl) ?_
      refine lv_icmp_ge (tgt := 116) hx hb dX9_plan_100 (by decide) (fun q => ?_) (fun q => ?_)
      · have h := br_p q h
        refine lv_iconst (v := (0 : Int32)) hx hb dX9_plan_116 (by decide) ?_
        obtain ⟨x6_611, ex6_611, h⟩ := lt_e h
        refine top_i ex6_611 ?_
        refine lv_istore (lv' := [(6, .int x6_611), (0, .ref (ad 100)), (2, .int x2), (3, .int x3), (4, .int x4), (5, .int x5)]) hx hb dX9_plan_117 hl (by decide) rfl (fun ls hl => ?_)
        exact L119  4000 x2 x3 x4 x5 x6_611 S h _ _ _ (lv_sub hl [1, 2, 3, 4, 5, 0] rfl) w
      · have h := br_n q h
        refine lv_iload hx hb dX9_plan_103 (lv_at hl 4 rfl) ?_
        refine lv_iload hx hb dX9_plan_105 (lv_at hl 3 rfl) ?_
        refine lv_imul hx hb dX9_plan_107 ?_
        obtain ⟨x5_612, ex5_612, h⟩ := lt_e h
        refine top_i ex5_612 ?_
        refine lv_istore (lv' := [(5, .int x5_612), (0, .ref (ad 100)), (2, .int x2), (3, .int x3), (4, .int x4), (6, .int x6)]) hx hb dX9_plan_108 hl (by decide) rfl (fun ls hl => ?_)
        obtain ⟨x6_613, ex6_613, h⟩ := lt_e h
        refine lv_iinc (v := x6_613) (lv' := [(6, .int x6_613), (5, .int x5_612), (0, .ref (ad 100)), (2, .int x2), (3, .int x3), (4, .int x4)]) hx hb dX9_plan_110 hl (k := 5) rfl (by rw [ex6_613]; rfl) (by decide) rfl (fun ls hl => ?_)
        refine lv_goto (tgt := 96) hx hb dX9_plan_113 (by decide) ?_
        exact hk96 x2 x3 x4 x5_612 x6_613 S h _ _ _ (lv_sub hl [2, 3, 4, 5, 1, 0] rfl) w
  have L53 : ∀ (n : Nat) (x1 : Int32) (x2 : Int32) (x3 : Int32) (x4 : Int32) (x5 : Int32) (x6 : Int32) (S : MS), mm_plan_53L  n x1 x2 x3 x4 x5 x6 S = some (r0, T) → mGo p l e rmX9_plan s m args below meth c 7 D cs ad (mQI below D cs ad args s r0 T) 53 [(0, .ref (ad 100)), (1, .int x1), (2, .int x2), (3, .int x3), (4, .int x4), (5, .int x5), (6, .int x6)] [] S := by
    intro n
    induction n with
    | zero =>
      intro x1 x2 x3 x4 x5 x6 S h
      have h : none = some (r0, T) := h
      cases h
    | succ n hk53 =>
      intro x1 x2 x3 x4 x5 x6 S h H locs ls hl w
      have h : mm_plan_53  (mm_plan_53L  n) x1 x2 x3 x4 x5 x6 S = some (r0, T) := h
      generalize mm_plan_53L  n = k53 at h hk53
      unfold mm_plan_53 at h
      refine lv_iload hx hb dX9_plan_53 (lv_at hl 6 rfl) ?_
      refine lv_aload_n hx hb dX9_plan_55 rfl (lv_at hl 0 rfl) ?_
      refine mw_getI cx hin w 0 (by decide) (List.mem_cons_of_mem _ uf_RX9_7) dX9_plan_56 ?_
      refine lv_icmp_ge (tgt := 93) hx hb dX9_plan_59 (by decide) (fun q => ?_) (fun q => ?_)
      · have h := br_p q h
        refine lv_iconst (v := (0 : Int32)) hx hb dX9_plan_93 (by decide) ?_
        obtain ⟨x6_714, ex6_714, h⟩ := lt_e h
        refine top_i ex6_714 ?_
        refine lv_istore (lv' := [(6, .int x6_714), (0, .ref (ad 100)), (1, .int x1), (2, .int x2), (3, .int x3), (4, .int x4), (5, .int x5)]) hx hb dX9_plan_94 hl (by decide) rfl (fun ls hl => ?_)
        exact L96  4000 x2 x3 x4 x5 x6_714 S h _ _ _ (lv_sub hl [1, 3, 4, 5, 6, 0] rfl) w
      · have h := br_n q h
        refine lv_aload_n hx hb dX9_plan_62 rfl (lv_at hl 0 rfl) ?_
        refine lv_iload_n hx hb dX9_plan_63 rfl (lv_at hl 1 rfl) ?_
        refine lv_iload hx hb dX9_plan_64 (lv_at hl 6 rfl) ?_
        obtain ⟨r_716, S_715, hc_717, h⟩ := bd_e h
        refine mw_calli (As := [.int x1, .int x6]) (rest := []) cx (cc_has l D cs ad S S_715 x1 x6 r_716 hc_717) (cwV 2 hts (uG uw_X9_has ul_RX9_189 ui_X9_has us_RX9_X9_has un_RX9) rfl rfl rfl ud_X9_has ⟨Nat.le_of_ble_eq_true rfl, Nat.le_of_ble_eq_true rfl⟩) w rfl hl.1 rfl (Nat.le_of_ble_eq_true rfl) dX9_plan_66 (fun H locs w => ?_)
        refine lv_if_ne (tgt := 75) hx hb dX9_plan_69 (by decide) (fun q => ?_) (fun q => ?_)
        · have h := br_n q h
          refine lv_aload_n hx hb dX9_plan_75 rfl (lv_at hl 0 rfl) ?_
          refine mw_getR cx hin w 30 (by decide) (List.mem_cons_of_mem _ uf_RX9_102) dX9_plan_76 ?_
          refine lv_iload hx hb dX9_plan_79 (lv_at hl 4 rfl) ?_
          refine lv_iload hx hb dX9_plan_81 (lv_at hl 6 rfl) ?_
          obtain ⟨hq_718, h⟩ := ck_e h
          obtain ⟨S_719, eS_719, h⟩ := lt_e h
          refine mw_iast cx w 18 30 5 (by decide) hq_718 eS_719 dX9_plan_83 (fun H locs w => ?_)
          obtain ⟨x4_720, ex4_720, h⟩ := lt_e h
          refine lv_iinc (v := x4_720) (lv' := [(4, .int x4_720), (0, .ref (ad 100)), (1, .int x1), (2, .int x2), (3, .int x3), (5, .int x5), (6, .int x6)]) hx hb dX9_plan_84 hl (k := 4) rfl (by rw [ex4_720]; rfl) (by decide) rfl (fun ls hl => ?_)
          exact J87 k53 hk53 x1 x2 x3 x4_720 x5 x6 S_719 h _ _ _ (lv_sub hl [1, 2, 3, 4, 0, 5, 6] rfl) w
        · have h := br_p q h
          refine lv_goto (tgt := 87) hx hb dX9_plan_72 (by decide) ?_
          exact J87 k53 hk53 x1 x2 x3 x4 x5 x6 S_715 h _ _ _ (lv_sub hl [0, 1, 2, 3, 4, 5, 6] rfl) w
  unfold mm_plan at h
  refine lv_aload_n hx hb dX9_plan_0 rfl (lv_at hl 0 rfl) ?_
  refine lv_iload_n hx hb dX9_plan_1 rfl (lv_at hl 2 rfl) ?_
  obtain ⟨r_822, S_821, hc_823, h⟩ := bd_e h
  refine mw_calli (As := [.int a2]) (rest := []) cx (cc_isLand l D cs ad S S_821 a2 r_822 hc_823) (cwV 1 hts (uG uw_X9_isLand ul_RX9_177 ui_X9_isLand us_RX9_X9_isLand un_RX9) rfl rfl rfl ud_X9_isLand ⟨Nat.le_of_ble_eq_true rfl, Nat.le_of_ble_eq_true rfl⟩) w rfl hl.1 rfl (Nat.le_of_ble_eq_true rfl) dX9_plan_2 (fun H locs w => ?_)
  refine lv_if_eq (tgt := 13) hx hb dX9_plan_5 (by decide) (fun q => ?_) (fun q => ?_)
  · have h := br_p q h
    exact J13   S_821 h _ _ _ (lv_sub hl [] rfl) w
  · have h := br_n q h
    refine lv_iload_n hx hb dX9_plan_8 rfl (lv_at hl 3 rfl) ?_
    refine lv_iconst (v := (-1 : Int32)) hx hb dX9_plan_9 (by decide) ?_
    refine lv_icmp_ge (tgt := 15) hx hb dX9_plan_10 (by decide) (fun q => ?_) (fun q => ?_)
    · have h := br_p q h
      refine lv_aload_n hx hb dX9_plan_15 rfl (lv_at hl 0 rfl) ?_
      refine lv_iload_n hx hb dX9_plan_16 rfl (lv_at hl 1 rfl) ?_
      refine lv_iconst (v := (1 : Int32)) hx hb dX9_plan_17 (by decide) ?_
      refine lv_iconst (v := (1 : Int32)) hx hb dX9_plan_18 (by decide) ?_
      refine lv_aload_n hx hb dX9_plan_19 rfl (lv_at hl 0 rfl) ?_
      refine mw_getI cx hin w 0 (by decide) (List.mem_cons_of_mem _ uf_RX9_7) dX9_plan_20 ?_
      refine lv_ishl hx hb dX9_plan_23 ?_
      refine lv_iconst (v := (1 : Int32)) hx hb dX9_plan_24 (by decide) ?_
      refine lv_isub hx hb dX9_plan_25 ?_
      obtain ⟨r_825, S_824, hc_826, h⟩ := bd_e h
      refine mw_calli (As := [.int a1, .int (1 : Int32), .int (((1 : Int32) <<< ((S_821.1 0) &&& 31)) - (1 : Int32))]) (rest := []) cx (cc_in l D cs ad S_821 S_824 a1 (1 : Int32) (((1 : Int32) <<< ((S_821.1 0) &&& 31)) - (1 : Int32)) r_825 hc_826) (cwV 3 hts (uG uw_X9_in ul_RX9_133 ui_X9_in us_RX9_X9_in un_RX9) rfl rfl rfl ud_X9_in ⟨Nat.le_of_ble_eq_true rfl, Nat.le_of_ble_eq_true rfl⟩) w rfl hl.1 rfl (Nat.le_of_ble_eq_true rfl) dX9_plan_26 (fun H locs w => ?_)
      refine lv_if_eq (tgt := 41) hx hb dX9_plan_29 (by decide) (fun q => ?_) (fun q => ?_)
      · have h := br_p q h
        exact J41   S_824 h _ _ _ (lv_sub hl [] rfl) w
      · have h := br_n q h
        refine lv_aload_n hx hb dX9_plan_32 rfl (lv_at hl 0 rfl) ?_
        refine lv_iload_n hx hb dX9_plan_33 rfl (lv_at hl 1 rfl) ?_
        obtain ⟨r_828, S_827, hc_829, h⟩ := bd_e h
        refine mw_calli (As := [.int a1]) (rest := []) cx (cc_ones l D cs ad S_824 S_827 a1 r_828 hc_829) (cwV 1 hts (uG uw_X9_ones ul_RX9_240 ui_X9_ones us_RX9_X9_ones un_RX9) rfl rfl rfl ud_X9_ones ⟨Nat.le_of_ble_eq_true rfl, Nat.le_of_ble_eq_true rfl⟩) w rfl hl.1 rfl (Nat.le_of_ble_eq_true rfl) dX9_plan_34 (fun H locs w => ?_)
        refine lv_iconst (v := (5 : Int32)) hx hb dX9_plan_37 (by decide) ?_
        refine lv_icmp_le (tgt := 44) hx hb dX9_plan_38 (by decide) (fun q => ?_) (fun q => ?_)
        · have h := br_p q h
          refine lv_iconst (v := (0 : Int32)) hx hb dX9_plan_44 (by decide) ?_
          obtain ⟨x4_830, ex4_830, h⟩ := lt_e h
          refine top_i ex4_830 ?_
          refine lv_istore (lv' := [(4, .int x4_830), (0, .ref (ad 100)), (1, .int a1), (2, .int a2), (3, .int a3)]) hx hb dX9_plan_45 hl (by decide) rfl (fun ls hl => ?_)
          refine lv_iconst (v := (1 : Int32)) hx hb dX9_plan_47 (by decide) ?_
          obtain ⟨x5_831, ex5_831, h⟩ := lt_e h
          refine top_i ex5_831 ?_
          refine lv_istore (lv' := [(5, .int x5_831), (4, .int x4_830), (0, .ref (ad 100)), (1, .int a1), (2, .int a2), (3, .int a3)]) hx hb dX9_plan_48 hl (by decide) rfl (fun ls hl => ?_)
          refine lv_iconst (v := (0 : Int32)) hx hb dX9_plan_50 (by decide) ?_
          obtain ⟨x6_832, ex6_832, h⟩ := lt_e h
          refine top_i ex6_832 ?_
          refine lv_istore (lv' := [(6, .int x6_832), (5, .int x5_831), (4, .int x4_830), (0, .ref (ad 100)), (1, .int a1), (2, .int a2), (3, .int a3)]) hx hb dX9_plan_51 hl (by decide) rfl (fun ls hl => ?_)
          exact L53  4000 a1 a2 a3 x4_830 x5_831 x6_832 S_827 h _ _ _ (lv_sub hl [3, 4, 5, 6, 2, 1, 0] rfl) w
        · have h := br_n q h
          exact J41   S_827 h _ _ _ (lv_sub hl [] rfl) w
    · have h := br_n q h
      exact J13   S_821 h _ _ _ (lv_sub hl [] rfl) w
def mm_clash_100 (k25 : Int32 → Int32 → Int32 → Int32 → Int32 → Int32 → MS → Option (Int32 × MS)) (x1 : Int32) (x2 : Int32) (x3 : Int32) (x4 : Int32) (x5 : Int32) (x6 : Int32) (S : MS) : Option (Int32 × MS) := lt_ (x6 + (1 : Int32)) (fun x6_101 => k25 x1 x2 x3 x4 x5 x6_101 S)
def mm_clash_97 (k25 : Int32 → Int32 → Int32 → Int32 → Int32 → Int32 → MS → Option (Int32 × MS)) (x1 : Int32) (x2 : Int32) (x3 : Int32) (x4 : Int32) (x6 : Int32) (t0 : Int32) (t1 : Int32) (S : MS) : Option (Int32 × MS) := lt_ ((t0 + t1)) (fun x5_202 => mm_clash_100 k25 x1 x2 x3 x4 x5_202 x6 S)
def mm_clash_96 (k25 : Int32 → Int32 → Int32 → Int32 → Int32 → Int32 → MS → Option (Int32 × MS)) (x1 : Int32) (x2 : Int32) (x3 : Int32) (x4 : Int32) (x6 : Int32) (t0 : Int32) (S : MS) : Option (Int32 × MS) := mm_clash_97 k25 x1 x2 x3 x4 x6 t0 (0 : Int32) S
def mm_clash_70 (k25 : Int32 → Int32 → Int32 → Int32 → Int32 → Int32 → MS → Option (Int32 × MS)) (x1 : Int32) (x2 : Int32) (x3 : Int32) (x5 : Int32) (x6 : Int32) (x7 : Int32) (t0 : Int32) (t1 : Int32) (S : MS) : Option (Int32 × MS) := lt_ ((t0 + t1)) (fun x4_403 => if x7 = (0 : Int32) then (bd (mm_firstOf S x6 (1 : Int32) x1 x2) (fun r_405 S_404 => if r_405 < (0 : Int32) then (mm_clash_96 k25 x1 x2 x3 x4_403 x6 x5 S_404) else (mm_clash_97 k25 x1 x2 x3 x4_403 x6 x5 (1 : Int32) S_404))) else (mm_clash_96 k25 x1 x2 x3 x4_403 x6 x5 S))
def mm_clash_25 (k25 : Int32 → Int32 → Int32 → Int32 → Int32 → Int32 → MS → Option (Int32 × MS)) (x1 : Int32) (x2 : Int32) (x3 : Int32) (x4 : Int32) (x5 : Int32) (x6 : Int32) (S : MS) : Option (Int32 × MS) := if (S.1 9) ≤ x6 then (some ((x4 * x5), S)) else (ck (vin x6 10) (if (S.2.1 13 (x6).toNatClampNeg) = x3 then (bd (mm_keepsOut S x6 x1 x2) (fun r_509 S_508 => if r_509 = (0 : Int32) then (mm_clash_70 k25 x1 x2 x3 x5 x6 r_509 x4 (0 : Int32) S_508) else (mm_clash_70 k25 x1 x2 x3 x5 x6 r_509 x4 (1 : Int32) S_508))) else (mm_clash_100 k25 x1 x2 x3 x4 x5 x6 S)))
def mm_clash_25L : Nat → Int32 → Int32 → Int32 → Int32 → Int32 → Int32 → MS → Option (Int32 × MS)
  | 0, _, _, _, _, _, _, _ => none
  | n + 1, x1, x2, x3, x4, x5, x6, S => mm_clash_25  (mm_clash_25L  n) x1 x2 x3 x4 x5 x6 S
def mm_clash (S : MS) (a1 : Int32) (a2 : Int32) (a3 : Int32) : Option (Int32 × MS) := bd (mm_isLayer S a1 a2 a3) (fun r_612 S_611 => if r_612 = (0 : Int32) then (some ((-1 : Int32), S_611)) else (bd (mm_asItIs S_611 ) (fun _ S_614 => lt_ ((0 : Int32)) (fun x4_617 => lt_ ((0 : Int32)) (fun x5_618 => lt_ ((0 : Int32)) (fun x6_619 => mm_clash_25L  4000 a1 a2 a3 x4_617 x5_618 x6_619 S_614))))))
abbrev wu_X9_clash : List Cond := .code yX9_clash cX9_clash 8 (some .int) :: wsL_law
theorem ud_X9_clash : yX9_clash.cls = RX9 ∧ yX9_clash.cls ≠ "java/lang/invoke/MethodHandle" ∧ yX9_clash.cls ≠ "java/lang/invoke/VarHandle" ∧ (parseMethodDescriptor yX9_clash.desc).map (fun d => d.parameters.length) = some 3 := by decide +kernel
abbrev rmX9_clash : Room := { frames := 5, cells := 0, slots := 0, locals := 122 }
set_option maxHeartbeats 4000000 in
set_option maxRecDepth 100000 in
theorem cc_clash (l : Launch) (D : va_G) (cs : Nat → ClassId) (ad : Nat → Nat) (S T : MS) (a1 : Int32) (a2 : Int32) (a3 : Int32) (r0 : Int32) (h : mm_clash S a1 a2 a3 = some (r0, T)) : MetI l yX9_clash wu_X9_clash rmX9_clash D cs ad [.int a1, .int a2, .int a3] S T r0 := by
  refine mo_I (ty := .int) (cc := cX9_clash) (maxL := 8) ⟨by decide, rfl⟩ rfl (Nat.le_of_ble_eq_true rfl) ?_
  intro p e s m args below meth c ls cx hl w
  have hx := cx.1
  have hb := cx.2.1
  have hts := cx.2.2.2.1
  have hown := cx.2.2.2.2.1
  have hin : ∀ w ∈ wsX90, w ∈ wu_X9_clash := fun _ hq => List.mem_cons_of_mem _ (inlX9 _ hq)
  have hl : lv_has ls 8 [(0, .ref (ad 100)), (1, .int a1), (2, .int a2), (3, .int a3)] := hl
  have J100 : ∀ (k25 : Int32 → Int32 → Int32 → Int32 → Int32 → Int32 → MS → Option (Int32 × MS)) (hk25 : ∀ (x1 : Int32) (x2 : Int32) (x3 : Int32) (x4 : Int32) (x5 : Int32) (x6 : Int32) (S : MS), k25 x1 x2 x3 x4 x5 x6 S = some (r0, T) → mGo p l e rmX9_clash s m args below meth c 8 D cs ad (mQI below D cs ad args s r0 T) 25 [(0, .ref (ad 100)), (1, .int x1), (2, .int x2), (3, .int x3), (4, .int x4), (5, .int x5), (6, .int x6)] [] S) (x1 : Int32) (x2 : Int32) (x3 : Int32) (x4 : Int32) (x5 : Int32) (x6 : Int32) (S : MS), mm_clash_100 k25 x1 x2 x3 x4 x5 x6 S = some (r0, T) → mGo p l e rmX9_clash s m args below meth c 8 D cs ad (mQI below D cs ad args s r0 T) 100 [(0, .ref (ad 100)), (1, .int x1), (2, .int x2), (3, .int x3), (4, .int x4), (5, .int x5), (6, .int x6)] [] S := by
    intro k25 hk25 x1 x2 x3 x4 x5 x6 S h H locs ls hl w
    unfold mm_clash_100 at h
    obtain ⟨x6_101, ex6_101, h⟩ := lt_e h
    refine lv_iinc (v := x6_101) (lv' := [(6, .int x6_101), (0, .ref (ad 100)), (1, .int x1), (2, .int x2), (3, .int x3), (4, .int x4), (5, .int x5)]) hx hb dX9_clash_100 hl (k := 6) rfl (by rw [ex6_101]; rfl) (by decide) rfl (fun ls hl => ?_)
    refine lv_goto (tgt := 25) hx hb dX9_clash_103 (by decide) ?_
    exact hk25 x1 x2 x3 x4 x5 x6_101 S h _ _ _ (lv_sub hl [1, 2, 3, 4, 5, 6, 0] rfl) w
  have J97 : ∀ (k25 : Int32 → Int32 → Int32 → Int32 → Int32 → Int32 → MS → Option (Int32 × MS)) (hk25 : ∀ (x1 : Int32) (x2 : Int32) (x3 : Int32) (x4 : Int32) (x5 : Int32) (x6 : Int32) (S : MS), k25 x1 x2 x3 x4 x5 x6 S = some (r0, T) → mGo p l e rmX9_clash s m args below meth c 8 D cs ad (mQI below D cs ad args s r0 T) 25 [(0, .ref (ad 100)), (1, .int x1), (2, .int x2), (3, .int x3), (4, .int x4), (5, .int x5), (6, .int x6)] [] S) (x1 : Int32) (x2 : Int32) (x3 : Int32) (x4 : Int32) (x6 : Int32) (t0 : Int32) (t1 : Int32) (S : MS), mm_clash_97 k25 x1 x2 x3 x4 x6 t0 t1 S = some (r0, T) → mGo p l e rmX9_clash s m args below meth c 8 D cs ad (mQI below D cs ad args s r0 T) 97 [(0, .ref (ad 100)), (1, .int x1), (2, .int x2), (3, .int x3), (4, .int x4), (6, .int x6)] [.int t1, .int t0] S := by
    intro k25 hk25 x1 x2 x3 x4 x6 t0 t1 S h H locs ls hl w
    unfold mm_clash_97 at h
    refine lv_iadd hx hb dX9_clash_97 ?_
    obtain ⟨x5_202, ex5_202, h⟩ := lt_e h
    refine top_i ex5_202 ?_
    refine lv_istore (lv' := [(5, .int x5_202), (0, .ref (ad 100)), (1, .int x1), (2, .int x2), (3, .int x3), (4, .int x4), (6, .int x6)]) hx hb dX9_clash_98 hl (by decide) rfl (fun ls hl => ?_)
    exact J100 k25 hk25 x1 x2 x3 x4 x5_202 x6 S h _ _ _ (lv_sub hl [1, 2, 3, 4, 5, 0, 6] rfl) w
  have J96 : ∀ (k25 : Int32 → Int32 → Int32 → Int32 → Int32 → Int32 → MS → Option (Int32 × MS)) (hk25 : ∀ (x1 : Int32) (x2 : Int32) (x3 : Int32) (x4 : Int32) (x5 : Int32) (x6 : Int32) (S : MS), k25 x1 x2 x3 x4 x5 x6 S = some (r0, T) → mGo p l e rmX9_clash s m args below meth c 8 D cs ad (mQI below D cs ad args s r0 T) 25 [(0, .ref (ad 100)), (1, .int x1), (2, .int x2), (3, .int x3), (4, .int x4), (5, .int x5), (6, .int x6)] [] S) (x1 : Int32) (x2 : Int32) (x3 : Int32) (x4 : Int32) (x6 : Int32) (t0 : Int32) (S : MS), mm_clash_96 k25 x1 x2 x3 x4 x6 t0 S = some (r0, T) → mGo p l e rmX9_clash s m args below meth c 8 D cs ad (mQI below D cs ad args s r0 T) 96 [(0, .ref (ad 100)), (1, .int x1), (2, .int x2), (3, .int x3), (4, .int x4), (6, .int x6)] [.int t0] S := by
    intro k25 hk25 x1 x2 x3 x4 x6 t0 S h H locs ls hl w
    unfold mm_clash_96 at h
    refine lv_iconst (v := (0 : Int32)) hx hb dX9_clash_96 (by decide) ?_
    exact J97 k25 hk25 x1 x2 x3 x4 x6 t0 (0 : Int32) S h _ _ _ (lv_sub hl [0, 1, 2, 3, 4, 5] rfl) w
  have J70 : ∀ (k25 : Int32 → Int32 → Int32 → Int32 → Int32 → Int32 → MS → Option (Int32 × MS)) (hk25 : ∀ (x1 : Int32) (x2 : Int32) (x3 : Int32) (x4 : Int32) (x5 : Int32) (x6 : Int32) (S : MS), k25 x1 x2 x3 x4 x5 x6 S = some (r0, T) → mGo p l e rmX9_clash s m args below meth c 8 D cs ad (mQI below D cs ad args s r0 T) 25 [(0, .ref (ad 100)), (1, .int x1), (2, .int x2), (3, .int x3), (4, .int x4), (5, .int x5), (6, .int x6)] [] S) (x1 : Int32) (x2 : Int32) (x3 : Int32) (x5 : Int32) (x6 : Int32) (x7 : Int32) (t0 : Int32) (t1 : Int32) (S : MS), mm_clash_70 k25 x1 x2 x3 x5 x6 x7 t0 t1 S = some (r0, T) → mGo p l e rmX9_clash s m args below meth c 8 D cs ad (mQI below D cs ad args s r0 T) 70 [(0, .ref (ad 100)), (1, .int x1), (2, .int x2), (3, .int x3), (5, .int x5), (6, .int x6), (7, .int x7)] [.int t1, .int t0] S := by
    intro k25 hk25 x1 x2 x3 x5 x6 x7 t0 t1 S h H locs ls hl w
    unfold mm_clash_70 at h
    refine lv_iadd hx hb dX9_clash_70 ?_
    obtain ⟨x4_403, ex4_403, h⟩ := lt_e h
    refine top_i ex4_403 ?_
    refine lv_istore (lv' := [(4, .int x4_403), (0, .ref (ad 100)), (1, .int x1), (2, .int x2), (3, .int x3), (5, .int x5), (6, .int x6), (7, .int x7)]) hx hb dX9_clash_71 hl (by decide) rfl (fun ls hl => ?_)
    refine lv_iload hx hb dX9_clash_73 (lv_at hl 5 rfl) ?_
    refine lv_iload hx hb dX9_clash_75 (lv_at hl 7 rfl) ?_
    refine lv_if_ne (tgt := 96) hx hb dX9_clash_77 (by decide) (fun q => ?_) (fun q => ?_)
    · have h := br_n q h
      exact J96 k25 hk25 x1 x2 x3 x4_403 x6 x5 S h _ _ _ (lv_sub hl [1, 2, 3, 4, 0, 6] rfl) w
    · have h := br_p q h
      refine lv_aload_n hx hb dX9_clash_80 rfl (lv_at hl 1 rfl) ?_
      refine lv_iload hx hb dX9_clash_81 (lv_at hl 6 rfl) ?_
      refine lv_iconst (v := (1 : Int32)) hx hb dX9_clash_83 (by decide) ?_
      refine lv_iload_n hx hb dX9_clash_84 rfl (lv_at hl 2 rfl) ?_
      refine lv_iload_n hx hb dX9_clash_85 rfl (lv_at hl 3 rfl) ?_
      obtain ⟨r_405, S_404, hc_406, h⟩ := bd_e h
      refine mw_calli (As := [.int x6, .int (1 : Int32), .int x1, .int x2]) (rest := [.int x5]) cx (cc_firstOf l D cs ad S S_404 x6 (1 : Int32) x1 x2 r_405 hc_406) (cwV 4 hts (uG uw_X9_firstOf ul_RX9_198 ui_X9_firstOf us_RX9_X9_firstOf un_RX9) rfl rfl rfl ud_X9_firstOf ⟨Nat.le_of_ble_eq_true rfl, Nat.le_of_ble_eq_true rfl⟩) w rfl hl.1 rfl (Nat.le_of_ble_eq_true rfl) dX9_clash_86 (fun H locs w => ?_)
      refine lv_if_lt (tgt := 96) hx hb dX9_clash_89 (by decide) (fun q => ?_) (fun q => ?_)
      · have h := br_p q h
        exact J96 k25 hk25 x1 x2 x3 x4_403 x6 x5 S_404 h _ _ _ (lv_sub hl [1, 2, 3, 4, 0, 6] rfl) w
      · have h := br_n q h
        refine lv_iconst (v := (1 : Int32)) hx hb dX9_clash_92 (by decide) ?_
        refine lv_goto (tgt := 97) hx hb dX9_clash_93 (by decide) ?_
        exact J97 k25 hk25 x1 x2 x3 x4_403 x6 x5 (1 : Int32) S_404 h _ _ _ (lv_sub hl [1, 2, 3, 4, 0, 6] rfl) w
  have L25 : ∀ (n : Nat) (x1 : Int32) (x2 : Int32) (x3 : Int32) (x4 : Int32) (x5 : Int32) (x6 : Int32) (S : MS), mm_clash_25L  n x1 x2 x3 x4 x5 x6 S = some (r0, T) → mGo p l e rmX9_clash s m args below meth c 8 D cs ad (mQI below D cs ad args s r0 T) 25 [(0, .ref (ad 100)), (1, .int x1), (2, .int x2), (3, .int x3), (4, .int x4), (5, .int x5), (6, .int x6)] [] S := by
    intro n
    induction n with
    | zero =>
      intro x1 x2 x3 x4 x5 x6 S h
      have h : none = some (r0, T) := h
      cases h
    | succ n hk25 =>
      intro x1 x2 x3 x4 x5 x6 S h H locs ls hl w
      have h : mm_clash_25  (mm_clash_25L  n) x1 x2 x3 x4 x5 x6 S = some (r0, T) := h
      generalize mm_clash_25L  n = k25 at h hk25
      unfold mm_clash_25 at h
      refine lv_iload hx hb dX9_clash_25 (lv_at hl 6 rfl) ?_
      refine lv_aload_n hx hb dX9_clash_27 rfl (lv_at hl 0 rfl) ?_
      refine mw_getI cx hin w 9 (by decide) (List.mem_cons_of_mem _ uf_RX9_38) dX9_clash_28 ?_
      refine lv_icmp_ge (tgt := 106) hx hb dX9_clash_31 (by decide) (fun q => ?_) (fun q => ?_)
      · have h := br_p q h
        refine lv_iload hx hb dX9_clash_106 (lv_at hl 4 rfl) ?_
        refine lv_iload hx hb dX9_clash_108 (lv_at hl 5 rfl) ?_
        refine lv_imul hx hb dX9_clash_110 ?_
        exact mw_iret cx (rt_e h) w dX9_clash_111
      · have h := br_n q h
        refine lv_aload_n hx hb dX9_clash_34 rfl (lv_at hl 0 rfl) ?_
        refine mw_getR cx hin w 13 (by decide) (List.mem_cons_of_mem _ uf_RX9_50) dX9_clash_35 ?_
        refine lv_iload hx hb dX9_clash_38 (lv_at hl 6 rfl) ?_
        obtain ⟨hq_507, h⟩ := ck_e h
        refine mw_iald cx w 7 13 10 (by decide) hq_507 dX9_clash_40 ?_
        refine lv_iload_n hx hb dX9_clash_41 rfl (lv_at hl 3 rfl) ?_
        refine lv_icmp_eq (tgt := 48) hx hb dX9_clash_42 (by decide) (fun q => ?_) (fun q => ?_)
        · have h := br_p q h
          refine lv_aload_n hx hb dX9_clash_48 rfl (lv_at hl 0 rfl) ?_
          refine lv_iload hx hb dX9_clash_49 (lv_at hl 6 rfl) ?_
          refine lv_iload_n hx hb dX9_clash_51 rfl (lv_at hl 1 rfl) ?_
          refine lv_iload_n hx hb dX9_clash_52 rfl (lv_at hl 2 rfl) ?_
          obtain ⟨r_509, S_508, hc_510, h⟩ := bd_e h
          refine mw_calli (As := [.int x6, .int x1, .int x2]) (rest := []) cx (cc_keepsOut l D cs ad S S_508 x6 x1 x2 r_509 hc_510) (cwV 3 hts (uG uw_X9_keepsOut ul_RX9_217 ui_X9_keepsOut us_RX9_X9_keepsOut un_RX9) rfl rfl rfl ud_X9_keepsOut ⟨Nat.le_of_ble_eq_true rfl, Nat.le_of_ble_eq_true rfl⟩) w rfl hl.1 rfl (Nat.le_of_ble_eq_true rfl) dX9_clash_53 (fun H locs w => ?_)
          refine lv_istore (lv' := [(7, .int r_509), (0, .ref (ad 100)), (1, .int x1), (2, .int x2), (3, .int x3), (4, .int x4), (5, .int x5), (6, .int x6)]) hx hb dX9_clash_56 hl (by decide) rfl (fun ls hl => ?_)
          refine lv_iload hx hb dX9_clash_58 (lv_at hl 5 rfl) ?_
          refine lv_iload hx hb dX9_clash_60 (lv_at hl 0 rfl) ?_
          refine lv_if_eq (tgt := 69) hx hb dX9_clash_62 (by decide) (fun q => ?_) (fun q => ?_)
          · have h := br_p q h
            refine lv_iconst (v := (0 : Int32)) hx hb dX9_clash_69 (by decide) ?_
            exact J70 k25 hk25 x1 x2 x3 x5 x6 r_509 x4 (0 : Int32) S_508 h _ _ _ (lv_sub hl [1, 2, 3, 4, 6, 7, 0] rfl) w
          · have h := br_n q h
            refine lv_iconst (v := (1 : Int32)) hx hb dX9_clash_65 (by decide) ?_
            refine lv_goto (tgt := 70) hx hb dX9_clash_66 (by decide) ?_
            exact J70 k25 hk25 x1 x2 x3 x5 x6 r_509 x4 (1 : Int32) S_508 h _ _ _ (lv_sub hl [1, 2, 3, 4, 6, 7, 0] rfl) w
        · have h := br_n q h
          refine lv_goto (tgt := 100) hx hb dX9_clash_45 (by decide) ?_
          exact J100 k25 hk25 x1 x2 x3 x4 x5 x6 S h _ _ _ (lv_sub hl [0, 1, 2, 3, 4, 5, 6] rfl) w
  unfold mm_clash at h
  refine lv_aload_n hx hb dX9_clash_0 rfl (lv_at hl 0 rfl) ?_
  refine lv_iload_n hx hb dX9_clash_1 rfl (lv_at hl 1 rfl) ?_
  refine lv_iload_n hx hb dX9_clash_2 rfl (lv_at hl 2 rfl) ?_
  refine lv_iload_n hx hb dX9_clash_3 rfl (lv_at hl 3 rfl) ?_
  obtain ⟨r_612, S_611, hc_613, h⟩ := bd_e h
  refine mw_calli (As := [.int a1, .int a2, .int a3]) (rest := []) cx (cc_isLayer l D cs ad S S_611 a1 a2 a3 r_612 hc_613) (cwV 3 hts (uG uw_X9_isLayer ul_RX9_234 ui_X9_isLayer us_RX9_X9_isLayer un_RX9) rfl rfl rfl ud_X9_isLayer ⟨Nat.le_of_ble_eq_true rfl, Nat.le_of_ble_eq_true rfl⟩) w rfl hl.1 rfl (Nat.le_of_ble_eq_true rfl) dX9_clash_4 (fun H locs w => ?_)
  refine lv_if_ne (tgt := 12) hx hb dX9_clash_7 (by decide) (fun q => ?_) (fun q => ?_)
  · have h := br_n q h
    refine lv_aload_n hx hb dX9_clash_12 rfl (lv_at hl 0 rfl) ?_
    obtain ⟨r_615, S_614, hc_616, h⟩ := bd_e h
    refine mw_callv (As := []) (rest := []) cx (cc_asItIs l D cs ad S_611 S_614  r_615 hc_616) (cwV 0 hts (uG uw_X9_asItIs ul_RX9_211 ui_X9_asItIs us_RX9_X9_asItIs un_RX9) rfl rfl rfl ud_X9_asItIs ⟨Nat.le_of_ble_eq_true rfl, Nat.le_of_ble_eq_true rfl⟩) w rfl hl.1 rfl (Nat.le_of_ble_eq_true rfl) dX9_clash_13 (fun H locs w => ?_)
    refine lv_iconst (v := (0 : Int32)) hx hb dX9_clash_16 (by decide) ?_
    obtain ⟨x4_617, ex4_617, h⟩ := lt_e h
    refine top_i ex4_617 ?_
    refine lv_istore (lv' := [(4, .int x4_617), (0, .ref (ad 100)), (1, .int a1), (2, .int a2), (3, .int a3)]) hx hb dX9_clash_17 hl (by decide) rfl (fun ls hl => ?_)
    refine lv_iconst (v := (0 : Int32)) hx hb dX9_clash_19 (by decide) ?_
    obtain ⟨x5_618, ex5_618, h⟩ := lt_e h
    refine top_i ex5_618 ?_
    refine lv_istore (lv' := [(5, .int x5_618), (4, .int x4_617), (0, .ref (ad 100)), (1, .int a1), (2, .int a2), (3, .int a3)]) hx hb dX9_clash_20 hl (by decide) rfl (fun ls hl => ?_)
    refine lv_iconst (v := (0 : Int32)) hx hb dX9_clash_22 (by decide) ?_
    obtain ⟨x6_619, ex6_619, h⟩ := lt_e h
    refine top_i ex6_619 ?_
    refine lv_istore (lv' := [(6, .int x6_619), (5, .int x5_618), (4, .int x4_617), (0, .ref (ad 100)), (1, .int a1), (2, .int a2), (3, .int a3)]) hx hb dX9_clash_23 hl (by decide) rfl (fun ls hl => ?_)
    exact L25  4000 a1 a2 a3 x4_617 x5_618 x6_619 S_614 h _ _ _ (lv_sub hl [3, 4, 5, 6, 2, 1, 0] rfl) w
  · have h := br_p q h
    refine lv_iconst (v := (-1 : Int32)) hx hb dX9_clash_10 (by decide) ?_
    exact mw_iret cx (rt_e h) w dX9_clash_11
def mm_silent_16  (S : MS) : Option (Int32 × MS) := some ((-1 : Int32), S)
def mm_silent_84 (k27 : Int32 → Int32 → Int32 → Int32 → MS → Option (Int32 × MS)) (k42 : Int32 → Int32 → Int32 → Int32 → Int32 → Int32 → MS → Option (Int32 × MS)) (x1 : Int32) (x2 : Int32) (x3 : Int32) (x4 : Int32) (x6 : Int32) (t0 : Int32) (S : MS) : Option (Int32 × MS) := lt_ (x6 + (1 : Int32)) (fun x6_201 => k42 x1 x2 x3 x4 t0 x6_201 S)
def mm_silent_79 (k27 : Int32 → Int32 → Int32 → Int32 → MS → Option (Int32 × MS)) (k42 : Int32 → Int32 → Int32 → Int32 → Int32 → Int32 → MS → Option (Int32 × MS)) (x1 : Int32) (x2 : Int32) (x3 : Int32) (x4 : Int32) (x6 : Int32) (S : MS) : Option (Int32 × MS) := mm_silent_84 k27 k42 x1 x2 x3 x4 x6 (1 : Int32) S
def mm_silent_83 (k27 : Int32 → Int32 → Int32 → Int32 → MS → Option (Int32 × MS)) (k42 : Int32 → Int32 → Int32 → Int32 → Int32 → Int32 → MS → Option (Int32 × MS)) (x1 : Int32) (x2 : Int32) (x3 : Int32) (x4 : Int32) (x6 : Int32) (S : MS) : Option (Int32 × MS) := mm_silent_84 k27 k42 x1 x2 x3 x4 x6 (0 : Int32) S
def mm_silent_106 (k27 : Int32 → Int32 → Int32 → Int32 → MS → Option (Int32 × MS)) (x1 : Int32) (x2 : Int32) (x4 : Int32) (t0 : Int32) (t1 : Int32) (S : MS) : Option (Int32 × MS) := lt_ ((t0 ||| t1)) (fun x3_502 => lt_ (x4 + (1 : Int32)) (fun x4_503 => k27 x1 x2 x3_502 x4_503 S))
def mm_silent_42 (k27 : Int32 → Int32 → Int32 → Int32 → MS → Option (Int32 × MS)) (k42 : Int32 → Int32 → Int32 → Int32 → Int32 → Int32 → MS → Option (Int32 × MS)) (x1 : Int32) (x2 : Int32) (x3 : Int32) (x4 : Int32) (x5 : Int32) (x6 : Int32) (S : MS) : Option (Int32 × MS) := if (S.1 9) ≤ x6 then (if x5 = (0 : Int32) then (mm_silent_106 k27 x1 x2 x4 x3 ((1 : Int32) <<< (x4 &&& 31)) S) else (mm_silent_106 k27 x1 x2 x4 x3 (0 : Int32) S)) else (if x5 = (0 : Int32) then (ck (vin x6 10) (if (S.2.1 13 (x6).toNatClampNeg) = x2 then (bd (mm_meetsIt S x6 x4 x1) (fun r_606 S_605 => if r_606 = (0 : Int32) then (mm_silent_83 k27 k42 x1 x2 x3 x4 x6 S_605) else (mm_silent_79 k27 k42 x1 x2 x3 x4 x6 S_605))) else (mm_silent_83 k27 k42 x1 x2 x3 x4 x6 S))) else (mm_silent_79 k27 k42 x1 x2 x3 x4 x6 S))
def mm_silent_42L (k27 : Int32 → Int32 → Int32 → Int32 → MS → Option (Int32 × MS)) : Nat → Int32 → Int32 → Int32 → Int32 → Int32 → Int32 → MS → Option (Int32 × MS)
  | 0, _, _, _, _, _, _, _ => none
  | n + 1, x1, x2, x3, x4, x5, x6, S => mm_silent_42 k27 (mm_silent_42L k27 n) x1 x2 x3 x4 x5 x6 S
def mm_silent_27 (k27 : Int32 → Int32 → Int32 → Int32 → MS → Option (Int32 × MS)) (x1 : Int32) (x2 : Int32) (x3 : Int32) (x4 : Int32) (S : MS) : Option (Int32 × MS) := if (S.1 0) ≤ x4 then (some (x3, S)) else (lt_ ((0 : Int32)) (fun x5_708 => lt_ ((0 : Int32)) (fun x6_709 => mm_silent_42L k27 4000 x1 x2 x3 x4 x5_708 x6_709 S)))
def mm_silent_27L : Nat → Int32 → Int32 → Int32 → Int32 → MS → Option (Int32 × MS)
  | 0, _, _, _, _, _ => none
  | n + 1, x1, x2, x3, x4, S => mm_silent_27  (mm_silent_27L  n) x1 x2 x3 x4 S
def mm_silent (S : MS) (a1 : Int32) (a2 : Int32) : Option (Int32 × MS) := bd (mm_isEnd S a1) (fun r_811 S_810 => if r_811 = (0 : Int32) then (mm_silent_16   S_810) else (bd (mm_isLand S_810 a2) (fun r_814 S_813 => if r_814 = (0 : Int32) then (mm_silent_16   S_813) else (bd (mm_asItIs S_813 ) (fun _ S_816 => lt_ ((0 : Int32)) (fun x3_819 => lt_ ((0 : Int32)) (fun x4_820 => mm_silent_27L  4000 a1 a2 x3_819 x4_820 S_816)))))))
abbrev wu_X9_silent : List Cond := .code yX9_silent cX9_silent 7 (some .int) :: wsL_law
theorem ud_X9_silent : yX9_silent.cls = RX9 ∧ yX9_silent.cls ≠ "java/lang/invoke/MethodHandle" ∧ yX9_silent.cls ≠ "java/lang/invoke/VarHandle" ∧ (parseMethodDescriptor yX9_silent.desc).map (fun d => d.parameters.length) = some 2 := by decide +kernel
abbrev rmX9_silent : Room := { frames := 4, cells := 0, slots := 0, locals := 98 }
set_option maxHeartbeats 4000000 in
set_option maxRecDepth 100000 in
theorem cc_silent (l : Launch) (D : va_G) (cs : Nat → ClassId) (ad : Nat → Nat) (S T : MS) (a1 : Int32) (a2 : Int32) (r0 : Int32) (h : mm_silent S a1 a2 = some (r0, T)) : MetI l yX9_silent wu_X9_silent rmX9_silent D cs ad [.int a1, .int a2] S T r0 := by
  refine mo_I (ty := .int) (cc := cX9_silent) (maxL := 7) ⟨by decide, rfl⟩ rfl (Nat.le_of_ble_eq_true rfl) ?_
  intro p e s m args below meth c ls cx hl w
  have hx := cx.1
  have hb := cx.2.1
  have hts := cx.2.2.2.1
  have hown := cx.2.2.2.2.1
  have hin : ∀ w ∈ wsX90, w ∈ wu_X9_silent := fun _ hq => List.mem_cons_of_mem _ (inlX9 _ hq)
  have hl : lv_has ls 7 [(0, .ref (ad 100)), (1, .int a1), (2, .int a2)] := hl
  have J16 : ∀  (S : MS), mm_silent_16   S = some (r0, T) → mGo p l e rmX9_silent s m args below meth c 7 D cs ad (mQI below D cs ad args s r0 T) 16 [] [] S := by
    intro  S h H locs ls hl w
    unfold mm_silent_16 at h
    refine lv_iconst (v := (-1 : Int32)) hx hb dX9_silent_16 (by decide) ?_
    exact mw_iret cx (rt_e h) w dX9_silent_17
  have J84 : ∀ (k27 : Int32 → Int32 → Int32 → Int32 → MS → Option (Int32 × MS)) (hk27 : ∀ (x1 : Int32) (x2 : Int32) (x3 : Int32) (x4 : Int32) (S : MS), k27 x1 x2 x3 x4 S = some (r0, T) → mGo p l e rmX9_silent s m args below meth c 7 D cs ad (mQI below D cs ad args s r0 T) 27 [(0, .ref (ad 100)), (1, .int x1), (2, .int x2), (3, .int x3), (4, .int x4)] [] S) (k42 : Int32 → Int32 → Int32 → Int32 → Int32 → Int32 → MS → Option (Int32 × MS)) (hk42 : ∀ (x1 : Int32) (x2 : Int32) (x3 : Int32) (x4 : Int32) (x5 : Int32) (x6 : Int32) (S : MS), k42 x1 x2 x3 x4 x5 x6 S = some (r0, T) → mGo p l e rmX9_silent s m args below meth c 7 D cs ad (mQI below D cs ad args s r0 T) 42 [(0, .ref (ad 100)), (1, .int x1), (2, .int x2), (3, .int x3), (4, .int x4), (5, .int x5), (6, .int x6)] [] S) (x1 : Int32) (x2 : Int32) (x3 : Int32) (x4 : Int32) (x6 : Int32) (t0 : Int32) (S : MS), mm_silent_84 k27 k42 x1 x2 x3 x4 x6 t0 S = some (r0, T) → mGo p l e rmX9_silent s m args below meth c 7 D cs ad (mQI below D cs ad args s r0 T) 84 [(0, .ref (ad 100)), (1, .int x1), (2, .int x2), (3, .int x3), (4, .int x4), (6, .int x6)] [.int t0] S := by
    intro k27 hk27 k42 hk42 x1 x2 x3 x4 x6 t0 S h H locs ls hl w
    unfold mm_silent_84 at h
    refine lv_istore (lv' := [(5, .int t0), (0, .ref (ad 100)), (1, .int x1), (2, .int x2), (3, .int x3), (4, .int x4), (6, .int x6)]) hx hb dX9_silent_84 hl (by decide) rfl (fun ls hl => ?_)
    obtain ⟨x6_201, ex6_201, h⟩ := lt_e h
    refine lv_iinc (v := x6_201) (lv' := [(6, .int x6_201), (5, .int t0), (0, .ref (ad 100)), (1, .int x1), (2, .int x2), (3, .int x3), (4, .int x4)]) hx hb dX9_silent_86 hl (k := 6) rfl (by rw [ex6_201]; rfl) (by decide) rfl (fun ls hl => ?_)
    refine lv_goto (tgt := 42) hx hb dX9_silent_89 (by decide) ?_
    exact hk42 x1 x2 x3 x4 t0 x6_201 S h _ _ _ (lv_sub hl [2, 3, 4, 5, 6, 1, 0] rfl) w
  have J79 : ∀ (k27 : Int32 → Int32 → Int32 → Int32 → MS → Option (Int32 × MS)) (hk27 : ∀ (x1 : Int32) (x2 : Int32) (x3 : Int32) (x4 : Int32) (S : MS), k27 x1 x2 x3 x4 S = some (r0, T) → mGo p l e rmX9_silent s m args below meth c 7 D cs ad (mQI below D cs ad args s r0 T) 27 [(0, .ref (ad 100)), (1, .int x1), (2, .int x2), (3, .int x3), (4, .int x4)] [] S) (k42 : Int32 → Int32 → Int32 → Int32 → Int32 → Int32 → MS → Option (Int32 × MS)) (hk42 : ∀ (x1 : Int32) (x2 : Int32) (x3 : Int32) (x4 : Int32) (x5 : Int32) (x6 : Int32) (S : MS), k42 x1 x2 x3 x4 x5 x6 S = some (r0, T) → mGo p l e rmX9_silent s m args below meth c 7 D cs ad (mQI below D cs ad args s r0 T) 42 [(0, .ref (ad 100)), (1, .int x1), (2, .int x2), (3, .int x3), (4, .int x4), (5, .int x5), (6, .int x6)] [] S) (x1 : Int32) (x2 : Int32) (x3 : Int32) (x4 : Int32) (x6 : Int32) (S : MS), mm_silent_79 k27 k42 x1 x2 x3 x4 x6 S = some (r0, T) → mGo p l e rmX9_silent s m args below meth c 7 D cs ad (mQI below D cs ad args s r0 T) 79 [(0, .ref (ad 100)), (1, .int x1), (2, .int x2), (3, .int x3), (4, .int x4), (6, .int x6)] [] S := by
    intro k27 hk27 k42 hk42 x1 x2 x3 x4 x6 S h H locs ls hl w
    unfold mm_silent_79 at h
    refine lv_iconst (v := (1 : Int32)) hx hb dX9_silent_79 (by decide) ?_
    refine lv_goto (tgt := 84) hx hb dX9_silent_80 (by decide) ?_
    exact J84 k27 hk27 k42 hk42 x1 x2 x3 x4 x6 (1 : Int32) S h _ _ _ (lv_sub hl [0, 1, 2, 3, 4, 5] rfl) w
  have J83 : ∀ (k27 : Int32 → Int32 → Int32 → Int32 → MS → Option (Int32 × MS)) (hk27 : ∀ (x1 : Int32) (x2 : Int32) (x3 : Int32) (x4 : Int32) (S : MS), k27 x1 x2 x3 x4 S = some (r0, T) → mGo p l e rmX9_silent s m args below meth c 7 D cs ad (mQI below D cs ad args s r0 T) 27 [(0, .ref (ad 100)), (1, .int x1), (2, .int x2), (3, .int x3), (4, .int x4)] [] S) (k42 : Int32 → Int32 → Int32 → Int32 → Int32 → Int32 → MS → Option (Int32 × MS)) (hk42 : ∀ (x1 : Int32) (x2 : Int32) (x3 : Int32) (x4 : Int32) (x5 : Int32) (x6 : Int32) (S : MS), k42 x1 x2 x3 x4 x5 x6 S = some (r0, T) → mGo p l e rmX9_silent s m args below meth c 7 D cs ad (mQI below D cs ad args s r0 T) 42 [(0, .ref (ad 100)), (1, .int x1), (2, .int x2), (3, .int x3), (4, .int x4), (5, .int x5), (6, .int x6)] [] S) (x1 : Int32) (x2 : Int32) (x3 : Int32) (x4 : Int32) (x6 : Int32) (S : MS), mm_silent_83 k27 k42 x1 x2 x3 x4 x6 S = some (r0, T) → mGo p l e rmX9_silent s m args below meth c 7 D cs ad (mQI below D cs ad args s r0 T) 83 [(0, .ref (ad 100)), (1, .int x1), (2, .int x2), (3, .int x3), (4, .int x4), (6, .int x6)] [] S := by
    intro k27 hk27 k42 hk42 x1 x2 x3 x4 x6 S h H locs ls hl w
    unfold mm_silent_83 at h
    refine lv_iconst (v := (0 : Int32)) hx hb dX9_silent_83 (by decide) ?_
    exact J84 k27 hk27 k42 hk42 x1 x2 x3 x4 x6 (0 : Int32) S h _ _ _ (lv_sub hl [0, 1, 2, 3, 4, 5] rfl) w
  have J106 : ∀ (k27 : Int32 → Int32 → Int32 → Int32 → MS → Option (Int32 × MS)) (hk27 : ∀ (x1 : Int32) (x2 : Int32) (x3 : Int32) (x4 : Int32) (S : MS), k27 x1 x2 x3 x4 S = some (r0, T) → mGo p l e rmX9_silent s m args below meth c 7 D cs ad (mQI below D cs ad args s r0 T) 27 [(0, .ref (ad 100)), (1, .int x1), (2, .int x2), (3, .int x3), (4, .int x4)] [] S) (x1 : Int32) (x2 : Int32) (x4 : Int32) (t0 : Int32) (t1 : Int32) (S : MS), mm_silent_106 k27 x1 x2 x4 t0 t1 S = some (r0, T) → mGo p l e rmX9_silent s m args below meth c 7 D cs ad (mQI below D cs ad args s r0 T) 106 [(0, .ref (ad 100)), (1, .int x1), (2, .int x2), (4, .int x4)] [.int t1, .int t0] S := by
    intro k27 hk27 x1 x2 x4 t0 t1 S h H locs ls hl w
    unfold mm_silent_106 at h
    refine lv_ior hx hb dX9_silent_106 ?_
    obtain ⟨x3_502, ex3_502, h⟩ := lt_e h
    refine top_i ex3_502 ?_
    refine lv_istore_n (lv' := [(3, .int x3_502), (0, .ref (ad 100)), (1, .int x1), (2, .int x2), (4, .int x4)]) hx hb dX9_silent_107 rfl hl (by decide) rfl (fun ls hl => ?_)
    obtain ⟨x4_503, ex4_503, h⟩ := lt_e h
    refine lv_iinc (v := x4_503) (lv' := [(4, .int x4_503), (3, .int x3_502), (0, .ref (ad 100)), (1, .int x1), (2, .int x2)]) hx hb dX9_silent_108 hl (k := 4) rfl (by rw [ex4_503]; rfl) (by decide) rfl (fun ls hl => ?_)
    refine lv_goto (tgt := 27) hx hb dX9_silent_111 (by decide) ?_
    exact hk27 x1 x2 x3_502 x4_503 S h _ _ _ (lv_sub hl [2, 3, 4, 1, 0] rfl) w
  have L42 : ∀ (k27 : Int32 → Int32 → Int32 → Int32 → MS → Option (Int32 × MS)) (hk27 : ∀ (x1 : Int32) (x2 : Int32) (x3 : Int32) (x4 : Int32) (S : MS), k27 x1 x2 x3 x4 S = some (r0, T) → mGo p l e rmX9_silent s m args below meth c 7 D cs ad (mQI below D cs ad args s r0 T) 27 [(0, .ref (ad 100)), (1, .int x1), (2, .int x2), (3, .int x3), (4, .int x4)] [] S) (n : Nat) (x1 : Int32) (x2 : Int32) (x3 : Int32) (x4 : Int32) (x5 : Int32) (x6 : Int32) (S : MS), mm_silent_42L k27 n x1 x2 x3 x4 x5 x6 S = some (r0, T) → mGo p l e rmX9_silent s m args below meth c 7 D cs ad (mQI below D cs ad args s r0 T) 42 [(0, .ref (ad 100)), (1, .int x1), (2, .int x2), (3, .int x3), (4, .int x4), (5, .int x5), (6, .int x6)] [] S := by
    intro k27 hk27 n
    induction n with
    | zero =>
      intro x1 x2 x3 x4 x5 x6 S h
      have h : none = some (r0, T) := h
      cases h
    | succ n hk42 =>
      intro x1 x2 x3 x4 x5 x6 S h H locs ls hl w
      have h : mm_silent_42 k27 (mm_silent_42L k27 n) x1 x2 x3 x4 x5 x6 S = some (r0, T) := h
      generalize mm_silent_42L k27 n = k42 at h hk42
      unfold mm_silent_42 at h
      refine lv_iload hx hb dX9_silent_42 (lv_at hl 6 rfl) ?_
      refine lv_aload_n hx hb dX9_silent_44 rfl (lv_at hl 0 rfl) ?_
      refine mw_getI cx hin w 9 (by decide) (List.mem_cons_of_mem _ uf_RX9_38) dX9_silent_45 ?_
      refine lv_icmp_ge (tgt := 92) hx hb dX9_silent_48 (by decide) (fun q => ?_) (fun q => ?_)
      · have h := br_p q h
        refine lv_iload_n hx hb dX9_silent_92 rfl (lv_at hl 3 rfl) ?_
        refine lv_iload hx hb dX9_silent_93 (lv_at hl 5 rfl) ?_
        refine lv_if_eq (tgt := 102) hx hb dX9_silent_95 (by decide) (fun q => ?_) (fun q => ?_)
        · have h := br_p q h
          refine lv_iconst (v := (1 : Int32)) hx hb dX9_silent_102 (by decide) ?_
          refine lv_iload hx hb dX9_silent_103 (lv_at hl 4 rfl) ?_
          refine lv_ishl hx hb dX9_silent_105 ?_
          exact J106 k27 hk27 x1 x2 x4 x3 ((1 : Int32) <<< (x4 &&& 31)) S h _ _ _ (lv_sub hl [0, 1, 2, 4] rfl) w
        · have h := br_n q h
          refine lv_iconst (v := (0 : Int32)) hx hb dX9_silent_98 (by decide) ?_
          refine lv_goto (tgt := 106) hx hb dX9_silent_99 (by decide) ?_
          exact J106 k27 hk27 x1 x2 x4 x3 (0 : Int32) S h _ _ _ (lv_sub hl [0, 1, 2, 4] rfl) w
      · have h := br_n q h
        refine lv_iload hx hb dX9_silent_51 (lv_at hl 5 rfl) ?_
        refine lv_if_ne (tgt := 79) hx hb dX9_silent_53 (by decide) (fun q => ?_) (fun q => ?_)
        · have h := br_n q h
          exact J79 k27 hk27 k42 hk42 x1 x2 x3 x4 x6 S h _ _ _ (lv_sub hl [0, 1, 2, 3, 4, 6] rfl) w
        · have h := br_p q h
          refine lv_aload_n hx hb dX9_silent_56 rfl (lv_at hl 0 rfl) ?_
          refine mw_getR cx hin w 13 (by decide) (List.mem_cons_of_mem _ uf_RX9_50) dX9_silent_57 ?_
          refine lv_iload hx hb dX9_silent_60 (lv_at hl 6 rfl) ?_
          obtain ⟨hq_604, h⟩ := ck_e h
          refine mw_iald cx w 7 13 10 (by decide) hq_604 dX9_silent_62 ?_
          refine lv_iload_n hx hb dX9_silent_63 rfl (lv_at hl 2 rfl) ?_
          refine lv_icmp_ne (tgt := 83) hx hb dX9_silent_64 (by decide) (fun q => ?_) (fun q => ?_)
          · have h := br_n q h
            exact J83 k27 hk27 k42 hk42 x1 x2 x3 x4 x6 S h _ _ _ (lv_sub hl [0, 1, 2, 3, 4, 6] rfl) w
          · have h := br_p q h
            refine lv_aload_n hx hb dX9_silent_67 rfl (lv_at hl 0 rfl) ?_
            refine lv_iload hx hb dX9_silent_68 (lv_at hl 6 rfl) ?_
            refine lv_iload hx hb dX9_silent_70 (lv_at hl 4 rfl) ?_
            refine lv_iload_n hx hb dX9_silent_72 rfl (lv_at hl 1 rfl) ?_
            obtain ⟨r_606, S_605, hc_607, h⟩ := bd_e h
            refine mw_calli (As := [.int x6, .int x4, .int x1]) (rest := []) cx (cc_meetsIt l D cs ad S S_605 x6 x4 x1 r_606 hc_607) (cwV 3 hts (uG uw_X9_meetsIt ul_RX9_214 ui_X9_meetsIt us_RX9_X9_meetsIt un_RX9) rfl rfl rfl ud_X9_meetsIt ⟨Nat.le_of_ble_eq_true rfl, Nat.le_of_ble_eq_true rfl⟩) w rfl hl.1 rfl (Nat.le_of_ble_eq_true rfl) dX9_silent_73 (fun H locs w => ?_)
            refine lv_if_eq (tgt := 83) hx hb dX9_silent_76 (by decide) (fun q => ?_) (fun q => ?_)
            · have h := br_p q h
              exact J83 k27 hk27 k42 hk42 x1 x2 x3 x4 x6 S_605 h _ _ _ (lv_sub hl [0, 1, 2, 3, 4, 6] rfl) w
            · have h := br_n q h
              exact J79 k27 hk27 k42 hk42 x1 x2 x3 x4 x6 S_605 h _ _ _ (lv_sub hl [0, 1, 2, 3, 4, 6] rfl) w
  have L27 : ∀ (n : Nat) (x1 : Int32) (x2 : Int32) (x3 : Int32) (x4 : Int32) (S : MS), mm_silent_27L  n x1 x2 x3 x4 S = some (r0, T) → mGo p l e rmX9_silent s m args below meth c 7 D cs ad (mQI below D cs ad args s r0 T) 27 [(0, .ref (ad 100)), (1, .int x1), (2, .int x2), (3, .int x3), (4, .int x4)] [] S := by
    intro n
    induction n with
    | zero =>
      intro x1 x2 x3 x4 S h
      have h : none = some (r0, T) := h
      cases h
    | succ n hk27 =>
      intro x1 x2 x3 x4 S h H locs ls hl w
      have h : mm_silent_27  (mm_silent_27L  n) x1 x2 x3 x4 S = some (r0, T) := h
      generalize mm_silent_27L  n = k27 at h hk27
      unfold mm_silent_27 at h
      refine lv_iload hx hb dX9_silent_27 (lv_at hl 4 rfl) ?_
      refine lv_aload_n hx hb dX9_silent_29 rfl (lv_at hl 0 rfl) ?_
      refine mw_getI cx hin w 0 (by decide) (List.mem_cons_of_mem _ uf_RX9_7) dX9_silent_30 ?_
      refine lv_icmp_ge (tgt := 114) hx hb dX9_silent_33 (by decide) (fun q => ?_) (fun q => ?_)
      · have h := br_p q h
        refine lv_iload_n hx hb dX9_silent_114 rfl (lv_at hl 3 rfl) ?_
        exact mw_iret cx (rt_e h) w dX9_silent_115
      · have h := br_n q h
        refine lv_iconst (v := (0 : Int32)) hx hb dX9_silent_36 (by decide) ?_
        obtain ⟨x5_708, ex5_708, h⟩ := lt_e h
        refine top_i ex5_708 ?_
        refine lv_istore (lv' := [(5, .int x5_708), (0, .ref (ad 100)), (1, .int x1), (2, .int x2), (3, .int x3), (4, .int x4)]) hx hb dX9_silent_37 hl (by decide) rfl (fun ls hl => ?_)
        refine lv_iconst (v := (0 : Int32)) hx hb dX9_silent_39 (by decide) ?_
        obtain ⟨x6_709, ex6_709, h⟩ := lt_e h
        refine top_i ex6_709 ?_
        refine lv_istore (lv' := [(6, .int x6_709), (5, .int x5_708), (0, .ref (ad 100)), (1, .int x1), (2, .int x2), (3, .int x3), (4, .int x4)]) hx hb dX9_silent_40 hl (by decide) rfl (fun ls hl => ?_)
        exact L42 k27 hk27 4000 x1 x2 x3 x4 x5_708 x6_709 S h _ _ _ (lv_sub hl [2, 3, 4, 5, 6, 1, 0] rfl) w
  unfold mm_silent at h
  refine lv_aload_n hx hb dX9_silent_0 rfl (lv_at hl 0 rfl) ?_
  refine lv_iload_n hx hb dX9_silent_1 rfl (lv_at hl 1 rfl) ?_
  obtain ⟨r_811, S_810, hc_812, h⟩ := bd_e h
  refine mw_calli (As := [.int a1]) (rest := []) cx (cc_isEnd l D cs ad S S_810 a1 r_811 hc_812) (cwV 1 hts (uG uw_X9_isEnd ul_RX9_208 ui_X9_isEnd us_RX9_X9_isEnd un_RX9) rfl rfl rfl ud_X9_isEnd ⟨Nat.le_of_ble_eq_true rfl, Nat.le_of_ble_eq_true rfl⟩) w rfl hl.1 rfl (Nat.le_of_ble_eq_true rfl) dX9_silent_2 (fun H locs w => ?_)
  refine lv_if_eq (tgt := 16) hx hb dX9_silent_5 (by decide) (fun q => ?_) (fun q => ?_)
  · have h := br_p q h
    exact J16   S_810 h _ _ _ (lv_sub hl [] rfl) w
  · have h := br_n q h
    refine lv_aload_n hx hb dX9_silent_8 rfl (lv_at hl 0 rfl) ?_
    refine lv_iload_n hx hb dX9_silent_9 rfl (lv_at hl 2 rfl) ?_
    obtain ⟨r_814, S_813, hc_815, h⟩ := bd_e h
    refine mw_calli (As := [.int a2]) (rest := []) cx (cc_isLand l D cs ad S_810 S_813 a2 r_814 hc_815) (cwV 1 hts (uG uw_X9_isLand ul_RX9_177 ui_X9_isLand us_RX9_X9_isLand un_RX9) rfl rfl rfl ud_X9_isLand ⟨Nat.le_of_ble_eq_true rfl, Nat.le_of_ble_eq_true rfl⟩) w rfl hl.1 rfl (Nat.le_of_ble_eq_true rfl) dX9_silent_10 (fun H locs w => ?_)
    refine lv_if_ne (tgt := 18) hx hb dX9_silent_13 (by decide) (fun q => ?_) (fun q => ?_)
    · have h := br_n q h
      refine lv_aload_n hx hb dX9_silent_18 rfl (lv_at hl 0 rfl) ?_
      obtain ⟨r_817, S_816, hc_818, h⟩ := bd_e h
      refine mw_callv (As := []) (rest := []) cx (cc_asItIs l D cs ad S_813 S_816  r_817 hc_818) (cwV 0 hts (uG uw_X9_asItIs ul_RX9_211 ui_X9_asItIs us_RX9_X9_asItIs un_RX9) rfl rfl rfl ud_X9_asItIs ⟨Nat.le_of_ble_eq_true rfl, Nat.le_of_ble_eq_true rfl⟩) w rfl hl.1 rfl (Nat.le_of_ble_eq_true rfl) dX9_silent_19 (fun H locs w => ?_)
      refine lv_iconst (v := (0 : Int32)) hx hb dX9_silent_22 (by decide) ?_
      obtain ⟨x3_819, ex3_819, h⟩ := lt_e h
      refine top_i ex3_819 ?_
      refine lv_istore_n (lv' := [(3, .int x3_819), (0, .ref (ad 100)), (1, .int a1), (2, .int a2)]) hx hb dX9_silent_23 rfl hl (by decide) rfl (fun ls hl => ?_)
      refine lv_iconst (v := (0 : Int32)) hx hb dX9_silent_24 (by decide) ?_
      obtain ⟨x4_820, ex4_820, h⟩ := lt_e h
      refine top_i ex4_820 ?_
      refine lv_istore (lv' := [(4, .int x4_820), (3, .int x3_819), (0, .ref (ad 100)), (1, .int a1), (2, .int a2)]) hx hb dX9_silent_25 hl (by decide) rfl (fun ls hl => ?_)
      exact L27  4000 a1 a2 x3_819 x4_820 S_816 h _ _ _ (lv_sub hl [2, 3, 4, 1, 0] rfl) w
    · have h := br_p q h
      exact J16   S_813 h _ _ _ (lv_sub hl [] rfl) w
def mm_hangsOf_158 (k8 : Int32 → Int32 → Int32 → MS → Option (Int32 × MS)) (k59 : Int32 → Int32 → Int32 → Int32 → MS → Option (Int32 × MS)) (x1 : Int32) (x2 : Int32) (x3 : Int32) (x4 : Int32) (S : MS) : Option (Int32 × MS) := lt_ (x4 + (1 : Int32)) (fun x4_101 => k59 x1 x2 x3 x4_101 S)
def mm_hangsOf_156 (k8 : Int32 → Int32 → Int32 → MS → Option (Int32 × MS)) (k59 : Int32 → Int32 → Int32 → Int32 → MS → Option (Int32 × MS)) (x1 : Int32) (x3 : Int32) (x4 : Int32) (t0 : Int32) (t1 : Int32) (S : MS) : Option (Int32 × MS) := lt_ ((t0 + t1)) (fun x2_202 => mm_hangsOf_158 k8 k59 x1 x2_202 x3 x4 S)
def mm_hangsOf_120 (k8 : Int32 → Int32 → Int32 → MS → Option (Int32 × MS)) (k59 : Int32 → Int32 → Int32 → Int32 → MS → Option (Int32 × MS)) (x1 : Int32) (x2 : Int32) (x3 : Int32) (x4 : Int32) (t0 : Int32) (S : MS) : Option (Int32 × MS) := if x3 = (0 : Int32) then (ck (vin x4 56) (lt_ (mR S 32 (x4).toNatClampNeg (vp_nar .boolean t0)) (fun S_305 => mm_hangsOf_158 k8 k59 x1 x2 x3 x4 S_305))) else (ck (vin x4 56) (if t0 = (S.2.1 32 (x4).toNatClampNeg) then (mm_hangsOf_156 k8 k59 x1 x3 x4 x2 (0 : Int32) S) else (mm_hangsOf_156 k8 k59 x1 x3 x4 x2 (1 : Int32) S)))
def mm_hangsOf_115 (k8 : Int32 → Int32 → Int32 → MS → Option (Int32 × MS)) (k59 : Int32 → Int32 → Int32 → Int32 → MS → Option (Int32 × MS)) (x1 : Int32) (x2 : Int32) (x3 : Int32) (x4 : Int32) (S : MS) : Option (Int32 × MS) := mm_hangsOf_120 k8 k59 x1 x2 x3 x4 (1 : Int32) S
def mm_hangsOf_119 (k8 : Int32 → Int32 → Int32 → MS → Option (Int32 × MS)) (k59 : Int32 → Int32 → Int32 → Int32 → MS → Option (Int32 × MS)) (x1 : Int32) (x2 : Int32) (x3 : Int32) (x4 : Int32) (S : MS) : Option (Int32 × MS) := mm_hangsOf_120 k8 k59 x1 x2 x3 x4 (0 : Int32) S
def mm_hangsOf_59 (k8 : Int32 → Int32 → Int32 → MS → Option (Int32 × MS)) (k59 : Int32 → Int32 → Int32 → Int32 → MS → Option (Int32 × MS)) (x1 : Int32) (x2 : Int32) (x3 : Int32) (x4 : Int32) (S : MS) : Option (Int32 × MS) := if ((4 : Int32) * (S.1 0)) ≤ x4 then (lt_ (x3 + (1 : Int32)) (fun x3_606 => k8 x1 x2 x3_606 S)) else (lt_ ((x4 / (4 : Int32))) (fun x5_607 => lt_ ((x4 - x4 / (4 : Int32) * (4 : Int32))) (fun x6_608 => ck (vin x1 10) (bd (mm_keeper S x5_607 x6_608 (S.2.1 13 (x1).toNatClampNeg)) (fun r_611 S_610 => if (0 : Int32) ≤ r_611 then (mm_hangsOf_119 k8 k59 x1 x2 x3 x4 S_610) else (if x6_608 = (1 : Int32) then (mm_hangsOf_115 k8 k59 x1 x2 x3 x4 S_610) else (bd (mm_arePartsHeard S_610 x5_607 (0 : Int32)) (fun r_614 S_613 => if r_614 = (0 : Int32) then (mm_hangsOf_119 k8 k59 x1 x2 x3 x4 S_613) else (mm_hangsOf_115 k8 k59 x1 x2 x3 x4 S_613)))))))))
def mm_hangsOf_59L (k8 : Int32 → Int32 → Int32 → MS → Option (Int32 × MS)) : Nat → Int32 → Int32 → Int32 → Int32 → MS → Option (Int32 × MS)
  | 0, _, _, _, _, _ => none
  | n + 1, x1, x2, x3, x4, S => mm_hangsOf_59 k8 (mm_hangsOf_59L k8 n) x1 x2 x3 x4 S
def mm_hangsOf_39 (k8 : Int32 → Int32 → Int32 → MS → Option (Int32 × MS)) (x1 : Int32) (x2 : Int32) (x3 : Int32) (t1 : Int32) (S : MS) : Option (Int32 × MS) := lt_ (mP S 25 t1) (fun S_716 => ck (vin x1 10) (bd (mm_findHeard S_716 (S_716.1 0) (S_716.2.1 13 (x1).toNatClampNeg)) (fun _ S_718 => lt_ ((0 : Int32)) (fun x4_721 => mm_hangsOf_59L k8 4000 x1 x2 x3 x4_721 S_718))))
def mm_hangsOf_8 (k8 : Int32 → Int32 → Int32 → MS → Option (Int32 × MS)) (x1 : Int32) (x2 : Int32) (x3 : Int32) (S : MS) : Option (Int32 × MS) := if (2 : Int32) ≤ x3 then (some (x2, S)) else (if x3 = (0 : Int32) then (mm_hangsOf_39 k8 x1 x2 x3 ((S.1 2) &&& (((1 : Int32) <<< (x1 &&& 31)) ^^^ (-1 : Int32))) S) else (mm_hangsOf_39 k8 x1 x2 x3 ((S.1 2) ||| ((1 : Int32) <<< (x1 &&& 31))) S))
def mm_hangsOf_8L : Nat → Int32 → Int32 → Int32 → MS → Option (Int32 × MS)
  | 0, _, _, _, _ => none
  | n + 1, x1, x2, x3, S => mm_hangsOf_8  (mm_hangsOf_8L  n) x1 x2 x3 S
def mm_hangsOf (S : MS) (a1 : Int32) : Option (Int32 × MS) := bd (mm_asItIs S ) (fun _ S_922 => lt_ ((0 : Int32)) (fun x2_925 => lt_ ((0 : Int32)) (fun x3_926 => mm_hangsOf_8L  4000 a1 x2_925 x3_926 S_922)))
abbrev wu_X9_hangsOf : List Cond := .code yX9_hangsOf cX9_hangsOf 8 (some .int) :: wsL_law
theorem ud_X9_hangsOf : yX9_hangsOf.cls = RX9 ∧ yX9_hangsOf.cls ≠ "java/lang/invoke/MethodHandle" ∧ yX9_hangsOf.cls ≠ "java/lang/invoke/VarHandle" ∧ (parseMethodDescriptor yX9_hangsOf.desc).map (fun d => d.parameters.length) = some 1 := by decide +kernel
abbrev rmX9_hangsOf : Room := { frames := 7, cells := 0, slots := 0, locals := 169 }
set_option maxHeartbeats 4000000 in
set_option maxRecDepth 100000 in
theorem cc_hangsOf (l : Launch) (D : va_G) (cs : Nat → ClassId) (ad : Nat → Nat) (S T : MS) (a1 : Int32) (r0 : Int32) (h : mm_hangsOf S a1 = some (r0, T)) : MetI l yX9_hangsOf wu_X9_hangsOf rmX9_hangsOf D cs ad [.int a1] S T r0 := by
  refine mo_I (ty := .int) (cc := cX9_hangsOf) (maxL := 8) ⟨by decide, rfl⟩ rfl (Nat.le_of_ble_eq_true rfl) ?_
  intro p e s m args below meth c ls cx hl w
  have hx := cx.1
  have hb := cx.2.1
  have hts := cx.2.2.2.1
  have hown := cx.2.2.2.2.1
  have hin : ∀ w ∈ wsX90, w ∈ wu_X9_hangsOf := fun _ hq => List.mem_cons_of_mem _ (inlX9 _ hq)
  have hl : lv_has ls 8 [(0, .ref (ad 100)), (1, .int a1)] := hl
  have J158 : ∀ (k8 : Int32 → Int32 → Int32 → MS → Option (Int32 × MS)) (hk8 : ∀ (x1 : Int32) (x2 : Int32) (x3 : Int32) (S : MS), k8 x1 x2 x3 S = some (r0, T) → mGo p l e rmX9_hangsOf s m args below meth c 8 D cs ad (mQI below D cs ad args s r0 T) 8 [(0, .ref (ad 100)), (1, .int x1), (2, .int x2), (3, .int x3)] [] S) (k59 : Int32 → Int32 → Int32 → Int32 → MS → Option (Int32 × MS)) (hk59 : ∀ (x1 : Int32) (x2 : Int32) (x3 : Int32) (x4 : Int32) (S : MS), k59 x1 x2 x3 x4 S = some (r0, T) → mGo p l e rmX9_hangsOf s m args below meth c 8 D cs ad (mQI below D cs ad args s r0 T) 59 [(0, .ref (ad 100)), (1, .int x1), (2, .int x2), (3, .int x3), (4, .int x4)] [] S) (x1 : Int32) (x2 : Int32) (x3 : Int32) (x4 : Int32) (S : MS), mm_hangsOf_158 k8 k59 x1 x2 x3 x4 S = some (r0, T) → mGo p l e rmX9_hangsOf s m args below meth c 8 D cs ad (mQI below D cs ad args s r0 T) 158 [(0, .ref (ad 100)), (1, .int x1), (2, .int x2), (3, .int x3), (4, .int x4)] [] S := by
    intro k8 hk8 k59 hk59 x1 x2 x3 x4 S h H locs ls hl w
    unfold mm_hangsOf_158 at h
    obtain ⟨x4_101, ex4_101, h⟩ := lt_e h
    refine lv_iinc (v := x4_101) (lv' := [(4, .int x4_101), (0, .ref (ad 100)), (1, .int x1), (2, .int x2), (3, .int x3)]) hx hb dX9_hangsOf_158 hl (k := 4) rfl (by rw [ex4_101]; rfl) (by decide) rfl (fun ls hl => ?_)
    refine lv_goto (tgt := 59) hx hb dX9_hangsOf_161 (by decide) ?_
    exact hk59 x1 x2 x3 x4_101 S h _ _ _ (lv_sub hl [1, 2, 3, 4, 0] rfl) w
  have J156 : ∀ (k8 : Int32 → Int32 → Int32 → MS → Option (Int32 × MS)) (hk8 : ∀ (x1 : Int32) (x2 : Int32) (x3 : Int32) (S : MS), k8 x1 x2 x3 S = some (r0, T) → mGo p l e rmX9_hangsOf s m args below meth c 8 D cs ad (mQI below D cs ad args s r0 T) 8 [(0, .ref (ad 100)), (1, .int x1), (2, .int x2), (3, .int x3)] [] S) (k59 : Int32 → Int32 → Int32 → Int32 → MS → Option (Int32 × MS)) (hk59 : ∀ (x1 : Int32) (x2 : Int32) (x3 : Int32) (x4 : Int32) (S : MS), k59 x1 x2 x3 x4 S = some (r0, T) → mGo p l e rmX9_hangsOf s m args below meth c 8 D cs ad (mQI below D cs ad args s r0 T) 59 [(0, .ref (ad 100)), (1, .int x1), (2, .int x2), (3, .int x3), (4, .int x4)] [] S) (x1 : Int32) (x3 : Int32) (x4 : Int32) (t0 : Int32) (t1 : Int32) (S : MS), mm_hangsOf_156 k8 k59 x1 x3 x4 t0 t1 S = some (r0, T) → mGo p l e rmX9_hangsOf s m args below meth c 8 D cs ad (mQI below D cs ad args s r0 T) 156 [(0, .ref (ad 100)), (1, .int x1), (3, .int x3), (4, .int x4)] [.int t1, .int t0] S := by
    intro k8 hk8 k59 hk59 x1 x3 x4 t0 t1 S h H locs ls hl w
    unfold mm_hangsOf_156 at h
    refine lv_iadd hx hb dX9_hangsOf_156 ?_
    obtain ⟨x2_202, ex2_202, h⟩ := lt_e h
    refine top_i ex2_202 ?_
    refine lv_istore_n (lv' := [(2, .int x2_202), (0, .ref (ad 100)), (1, .int x1), (3, .int x3), (4, .int x4)]) hx hb dX9_hangsOf_157 rfl hl (by decide) rfl (fun ls hl => ?_)
    exact J158 k8 hk8 k59 hk59 x1 x2_202 x3 x4 S h _ _ _ (lv_sub hl [1, 2, 0, 3, 4] rfl) w
  have J120 : ∀ (k8 : Int32 → Int32 → Int32 → MS → Option (Int32 × MS)) (hk8 : ∀ (x1 : Int32) (x2 : Int32) (x3 : Int32) (S : MS), k8 x1 x2 x3 S = some (r0, T) → mGo p l e rmX9_hangsOf s m args below meth c 8 D cs ad (mQI below D cs ad args s r0 T) 8 [(0, .ref (ad 100)), (1, .int x1), (2, .int x2), (3, .int x3)] [] S) (k59 : Int32 → Int32 → Int32 → Int32 → MS → Option (Int32 × MS)) (hk59 : ∀ (x1 : Int32) (x2 : Int32) (x3 : Int32) (x4 : Int32) (S : MS), k59 x1 x2 x3 x4 S = some (r0, T) → mGo p l e rmX9_hangsOf s m args below meth c 8 D cs ad (mQI below D cs ad args s r0 T) 59 [(0, .ref (ad 100)), (1, .int x1), (2, .int x2), (3, .int x3), (4, .int x4)] [] S) (x1 : Int32) (x2 : Int32) (x3 : Int32) (x4 : Int32) (t0 : Int32) (S : MS), mm_hangsOf_120 k8 k59 x1 x2 x3 x4 t0 S = some (r0, T) → mGo p l e rmX9_hangsOf s m args below meth c 8 D cs ad (mQI below D cs ad args s r0 T) 120 [(0, .ref (ad 100)), (1, .int x1), (2, .int x2), (3, .int x3), (4, .int x4)] [.int t0] S := by
    intro k8 hk8 k59 hk59 x1 x2 x3 x4 t0 S h H locs ls hl w
    unfold mm_hangsOf_120 at h
    refine lv_istore (lv' := [(7, .int t0), (0, .ref (ad 100)), (1, .int x1), (2, .int x2), (3, .int x3), (4, .int x4)]) hx hb dX9_hangsOf_120 hl (by decide) rfl (fun ls hl => ?_)
    refine lv_iload_n hx hb dX9_hangsOf_122 rfl (lv_at hl 4 rfl) ?_
    refine lv_if_ne (tgt := 138) hx hb dX9_hangsOf_123 (by decide) (fun q => ?_) (fun q => ?_)
    · have h := br_n q h
      refine lv_iload_n hx hb dX9_hangsOf_138 rfl (lv_at hl 3 rfl) ?_
      refine lv_iload hx hb dX9_hangsOf_139 (lv_at hl 0 rfl) ?_
      refine lv_aload_n hx hb dX9_hangsOf_141 rfl (lv_at hl 1 rfl) ?_
      refine mw_getR cx hin w 32 (by decide) (List.mem_cons_of_mem _ uf_RX9_108) dX9_hangsOf_142 ?_
      refine lv_iload hx hb dX9_hangsOf_145 (lv_at hl 5 rfl) ?_
      obtain ⟨hq_303, h⟩ := ck_e h
      refine mw_zald cx w 20 32 56 (by decide) hq_303 dX9_hangsOf_147 ?_
      refine lv_icmp_ne (tgt := 155) hx hb dX9_hangsOf_148 (by decide) (fun q => ?_) (fun q => ?_)
      · have h := br_n q h
        refine lv_iconst (v := (1 : Int32)) hx hb dX9_hangsOf_155 (by decide) ?_
        exact J156 k8 hk8 k59 hk59 x1 x3 x4 x2 (1 : Int32) S h _ _ _ (lv_sub hl [1, 2, 4, 5] rfl) w
      · have h := br_p q h
        refine lv_iconst (v := (0 : Int32)) hx hb dX9_hangsOf_151 (by decide) ?_
        refine lv_goto (tgt := 156) hx hb dX9_hangsOf_152 (by decide) ?_
        exact J156 k8 hk8 k59 hk59 x1 x3 x4 x2 (0 : Int32) S h _ _ _ (lv_sub hl [1, 2, 4, 5] rfl) w
    · have h := br_p q h
      refine lv_aload_n hx hb dX9_hangsOf_126 rfl (lv_at hl 1 rfl) ?_
      refine mw_getR cx hin w 32 (by decide) (List.mem_cons_of_mem _ uf_RX9_108) dX9_hangsOf_127 ?_
      refine lv_iload hx hb dX9_hangsOf_130 (lv_at hl 5 rfl) ?_
      refine lv_iload hx hb dX9_hangsOf_132 (lv_at hl 0 rfl) ?_
      obtain ⟨hq_304, h⟩ := ck_e h
      obtain ⟨S_305, eS_305, h⟩ := lt_e h
      refine mw_zast cx w 20 32 56 (by decide) hq_304 eS_305 dX9_hangsOf_134 (fun H locs w => ?_)
      refine lv_goto (tgt := 158) hx hb dX9_hangsOf_135 (by decide) ?_
      exact J158 k8 hk8 k59 hk59 x1 x2 x3 x4 S_305 h _ _ _ (lv_sub hl [1, 2, 3, 4, 5] rfl) w
  have J115 : ∀ (k8 : Int32 → Int32 → Int32 → MS → Option (Int32 × MS)) (hk8 : ∀ (x1 : Int32) (x2 : Int32) (x3 : Int32) (S : MS), k8 x1 x2 x3 S = some (r0, T) → mGo p l e rmX9_hangsOf s m args below meth c 8 D cs ad (mQI below D cs ad args s r0 T) 8 [(0, .ref (ad 100)), (1, .int x1), (2, .int x2), (3, .int x3)] [] S) (k59 : Int32 → Int32 → Int32 → Int32 → MS → Option (Int32 × MS)) (hk59 : ∀ (x1 : Int32) (x2 : Int32) (x3 : Int32) (x4 : Int32) (S : MS), k59 x1 x2 x3 x4 S = some (r0, T) → mGo p l e rmX9_hangsOf s m args below meth c 8 D cs ad (mQI below D cs ad args s r0 T) 59 [(0, .ref (ad 100)), (1, .int x1), (2, .int x2), (3, .int x3), (4, .int x4)] [] S) (x1 : Int32) (x2 : Int32) (x3 : Int32) (x4 : Int32) (S : MS), mm_hangsOf_115 k8 k59 x1 x2 x3 x4 S = some (r0, T) → mGo p l e rmX9_hangsOf s m args below meth c 8 D cs ad (mQI below D cs ad args s r0 T) 115 [(0, .ref (ad 100)), (1, .int x1), (2, .int x2), (3, .int x3), (4, .int x4)] [] S := by
    intro k8 hk8 k59 hk59 x1 x2 x3 x4 S h H locs ls hl w
    unfold mm_hangsOf_115 at h
    refine lv_iconst (v := (1 : Int32)) hx hb dX9_hangsOf_115 (by decide) ?_
    refine lv_goto (tgt := 120) hx hb dX9_hangsOf_116 (by decide) ?_
    exact J120 k8 hk8 k59 hk59 x1 x2 x3 x4 (1 : Int32) S h _ _ _ (lv_sub hl [0, 1, 2, 3, 4] rfl) w
  have J119 : ∀ (k8 : Int32 → Int32 → Int32 → MS → Option (Int32 × MS)) (hk8 : ∀ (x1 : Int32) (x2 : Int32) (x3 : Int32) (S : MS), k8 x1 x2 x3 S = some (r0, T) → mGo p l e rmX9_hangsOf s m args below meth c 8 D cs ad (mQI below D cs ad args s r0 T) 8 [(0, .ref (ad 100)), (1, .int x1), (2, .int x2), (3, .int x3)] [] S) (k59 : Int32 → Int32 → Int32 → Int32 → MS → Option (Int32 × MS)) (hk59 : ∀ (x1 : Int32) (x2 : Int32) (x3 : Int32) (x4 : Int32) (S : MS), k59 x1 x2 x3 x4 S = some (r0, T) → mGo p l e rmX9_hangsOf s m args below meth c 8 D cs ad (mQI below D cs ad args s r0 T) 59 [(0, .ref (ad 100)), (1, .int x1), (2, .int x2), (3, .int x3), (4, .int x4)] [] S) (x1 : Int32) (x2 : Int32) (x3 : Int32) (x4 : Int32) (S : MS), mm_hangsOf_119 k8 k59 x1 x2 x3 x4 S = some (r0, T) → mGo p l e rmX9_hangsOf s m args below meth c 8 D cs ad (mQI below D cs ad args s r0 T) 119 [(0, .ref (ad 100)), (1, .int x1), (2, .int x2), (3, .int x3), (4, .int x4)] [] S := by
    intro k8 hk8 k59 hk59 x1 x2 x3 x4 S h H locs ls hl w
    unfold mm_hangsOf_119 at h
    refine lv_iconst (v := (0 : Int32)) hx hb dX9_hangsOf_119 (by decide) ?_
    exact J120 k8 hk8 k59 hk59 x1 x2 x3 x4 (0 : Int32) S h _ _ _ (lv_sub hl [0, 1, 2, 3, 4] rfl) w
  have L59 : ∀ (k8 : Int32 → Int32 → Int32 → MS → Option (Int32 × MS)) (hk8 : ∀ (x1 : Int32) (x2 : Int32) (x3 : Int32) (S : MS), k8 x1 x2 x3 S = some (r0, T) → mGo p l e rmX9_hangsOf s m args below meth c 8 D cs ad (mQI below D cs ad args s r0 T) 8 [(0, .ref (ad 100)), (1, .int x1), (2, .int x2), (3, .int x3)] [] S) (n : Nat) (x1 : Int32) (x2 : Int32) (x3 : Int32) (x4 : Int32) (S : MS), mm_hangsOf_59L k8 n x1 x2 x3 x4 S = some (r0, T) → mGo p l e rmX9_hangsOf s m args below meth c 8 D cs ad (mQI below D cs ad args s r0 T) 59 [(0, .ref (ad 100)), (1, .int x1), (2, .int x2), (3, .int x3), (4, .int x4)] [] S := by
    intro k8 hk8 n
    induction n with
    | zero =>
      intro x1 x2 x3 x4 S h
      have h : none = some (r0, T) := h
      cases h
    | succ n hk59 =>
      intro x1 x2 x3 x4 S h H locs ls hl w
      have h : mm_hangsOf_59 k8 (mm_hangsOf_59L k8 n) x1 x2 x3 x4 S = some (r0, T) := h
      generalize mm_hangsOf_59L k8 n = k59 at h hk59
      unfold mm_hangsOf_59 at h
      refine lv_iload hx hb dX9_hangsOf_59 (lv_at hl 4 rfl) ?_
      refine lv_iconst (v := (4 : Int32)) hx hb dX9_hangsOf_61 (by decide) ?_
      refine lv_aload_n hx hb dX9_hangsOf_62 rfl (lv_at hl 0 rfl) ?_
      refine mw_getI cx hin w 0 (by decide) (List.mem_cons_of_mem _ uf_RX9_7) dX9_hangsOf_63 ?_
      refine lv_imul hx hb dX9_hangsOf_66 ?_
      refine lv_icmp_ge (tgt := 164) hx hb dX9_hangsOf_67 (by decide) (fun q => ?_) (fun q => ?_)
      · have h := br_p q h
        obtain ⟨x3_606, ex3_606, h⟩ := lt_e h
        refine lv_iinc (v := x3_606) (lv' := [(3, .int x3_606), (0, .ref (ad 100)), (1, .int x1), (2, .int x2), (4, .int x4)]) hx hb dX9_hangsOf_164 hl (k := 3) rfl (by rw [ex3_606]; rfl) (by decide) rfl (fun ls hl => ?_)
        refine lv_goto (tgt := 8) hx hb dX9_hangsOf_167 (by decide) ?_
        exact hk8 x1 x2 x3_606 S h _ _ _ (lv_sub hl [1, 2, 3, 0] rfl) w
      · have h := br_n q h
        refine lv_iload hx hb dX9_hangsOf_70 (lv_at hl 4 rfl) ?_
        refine lv_iconst (v := (4 : Int32)) hx hb dX9_hangsOf_72 (by decide) ?_
        refine lv_idiv hx hb dX9_hangsOf_73 (by decide) ?_
        obtain ⟨x5_607, ex5_607, h⟩ := lt_e h
        refine top_i ex5_607 ?_
        refine lv_istore (lv' := [(5, .int x5_607), (0, .ref (ad 100)), (1, .int x1), (2, .int x2), (3, .int x3), (4, .int x4)]) hx hb dX9_hangsOf_74 hl (by decide) rfl (fun ls hl => ?_)
        refine lv_iload hx hb dX9_hangsOf_76 (lv_at hl 5 rfl) ?_
        refine lv_iconst (v := (4 : Int32)) hx hb dX9_hangsOf_78 (by decide) ?_
        refine lv_irem hx hb dX9_hangsOf_79 (by decide) ?_
        obtain ⟨x6_608, ex6_608, h⟩ := lt_e h
        refine top_i ex6_608 ?_
        refine lv_istore (lv' := [(6, .int x6_608), (5, .int x5_607), (0, .ref (ad 100)), (1, .int x1), (2, .int x2), (3, .int x3), (4, .int x4)]) hx hb dX9_hangsOf_80 hl (by decide) rfl (fun ls hl => ?_)
        refine lv_aload_n hx hb dX9_hangsOf_82 rfl (lv_at hl 2 rfl) ?_
        refine lv_iload hx hb dX9_hangsOf_83 (lv_at hl 1 rfl) ?_
        refine lv_iload hx hb dX9_hangsOf_85 (lv_at hl 0 rfl) ?_
        refine lv_aload_n hx hb dX9_hangsOf_87 rfl (lv_at hl 2 rfl) ?_
        refine mw_getR cx hin w 13 (by decide) (List.mem_cons_of_mem _ uf_RX9_50) dX9_hangsOf_88 ?_
        refine lv_iload_n hx hb dX9_hangsOf_91 rfl (lv_at hl 3 rfl) ?_
        obtain ⟨hq_609, h⟩ := ck_e h
        refine mw_iald cx w 7 13 10 (by decide) hq_609 dX9_hangsOf_92 ?_
        obtain ⟨r_611, S_610, hc_612, h⟩ := bd_e h
        refine mw_calli (As := [.int x5_607, .int x6_608, .int (S.2.1 13 (x1).toNatClampNeg)]) (rest := []) cx (cc_keeper l D cs ad S S_610 x5_607 x6_608 (S.2.1 13 (x1).toNatClampNeg) r_611 hc_612) (cwV 3 hts (uG uw_X9_keeper ul_RX9_227 ui_X9_keeper us_RX9_X9_keeper un_RX9) rfl rfl rfl ud_X9_keeper ⟨Nat.le_of_ble_eq_true rfl, Nat.le_of_ble_eq_true rfl⟩) w rfl hl.1 rfl (Nat.le_of_ble_eq_true rfl) dX9_hangsOf_93 (fun H locs w => ?_)
        refine lv_if_ge (tgt := 119) hx hb dX9_hangsOf_96 (by decide) (fun q => ?_) (fun q => ?_)
        · have h := br_p q h
          exact J119 k8 hk8 k59 hk59 x1 x2 x3 x4 S_610 h _ _ _ (lv_sub hl [2, 3, 4, 5, 6] rfl) w
        · have h := br_n q h
          refine lv_iload hx hb dX9_hangsOf_99 (lv_at hl 0 rfl) ?_
          refine lv_iconst (v := (1 : Int32)) hx hb dX9_hangsOf_101 (by decide) ?_
          refine lv_icmp_eq (tgt := 115) hx hb dX9_hangsOf_102 (by decide) (fun q => ?_) (fun q => ?_)
          · have h := br_p q h
            exact J115 k8 hk8 k59 hk59 x1 x2 x3 x4 S_610 h _ _ _ (lv_sub hl [2, 3, 4, 5, 6] rfl) w
          · have h := br_n q h
            refine lv_aload_n hx hb dX9_hangsOf_105 rfl (lv_at hl 2 rfl) ?_
            refine lv_iload hx hb dX9_hangsOf_106 (lv_at hl 1 rfl) ?_
            refine lv_iconst (v := (0 : Int32)) hx hb dX9_hangsOf_108 (by decide) ?_
            obtain ⟨r_614, S_613, hc_615, h⟩ := bd_e h
            refine mw_calli (As := [.int x5_607, .int (0 : Int32)]) (rest := []) cx (cc_arePartsHeard l D cs ad S_610 S_613 x5_607 (0 : Int32) r_614 hc_615) (cwV 2 hts (uG uw_X9_arePartsHeard ul_RX9_224 ui_X9_arePartsHeard us_RX9_X9_arePartsHeard un_RX9) rfl rfl rfl ud_X9_arePartsHeard ⟨Nat.le_of_ble_eq_true rfl, Nat.le_of_ble_eq_true rfl⟩) w rfl hl.1 rfl (Nat.le_of_ble_eq_true rfl) dX9_hangsOf_109 (fun H locs w => ?_)
            refine lv_if_eq (tgt := 119) hx hb dX9_hangsOf_112 (by decide) (fun q => ?_) (fun q => ?_)
            · have h := br_p q h
              exact J119 k8 hk8 k59 hk59 x1 x2 x3 x4 S_613 h _ _ _ (lv_sub hl [2, 3, 4, 5, 6] rfl) w
            · have h := br_n q h
              exact J115 k8 hk8 k59 hk59 x1 x2 x3 x4 S_613 h _ _ _ (lv_sub hl [2, 3, 4, 5, 6] rfl) w
  have J39 : ∀ (k8 : Int32 → Int32 → Int32 → MS → Option (Int32 × MS)) (hk8 : ∀ (x1 : Int32) (x2 : Int32) (x3 : Int32) (S : MS), k8 x1 x2 x3 S = some (r0, T) → mGo p l e rmX9_hangsOf s m args below meth c 8 D cs ad (mQI below D cs ad args s r0 T) 8 [(0, .ref (ad 100)), (1, .int x1), (2, .int x2), (3, .int x3)] [] S) (x1 : Int32) (x2 : Int32) (x3 : Int32) (t1 : Int32) (S : MS), mm_hangsOf_39 k8 x1 x2 x3 t1 S = some (r0, T) → mGo p l e rmX9_hangsOf s m args below meth c 8 D cs ad (mQI below D cs ad args s r0 T) 39 [(0, .ref (ad 100)), (1, .int x1), (2, .int x2), (3, .int x3)] [.int t1, .ref (ad 100)] S := by
    intro k8 hk8 x1 x2 x3 t1 S h H locs ls hl w
    unfold mm_hangsOf_39 at h
    obtain ⟨S_716, eS_716, h⟩ := lt_e h
    refine mw_putI cx hin w 25 eS_716 (by decide +kernel) (List.mem_cons_of_mem _ uf_RX9_86) dX9_hangsOf_39 (fun H locs w => ?_)
    refine lv_aload_n hx hb dX9_hangsOf_42 rfl (lv_at hl 0 rfl) ?_
    refine lv_aload_n hx hb dX9_hangsOf_43 rfl (lv_at hl 0 rfl) ?_
    refine mw_getI cx hin w 0 (by decide) (List.mem_cons_of_mem _ uf_RX9_7) dX9_hangsOf_44 ?_
    refine lv_aload_n hx hb dX9_hangsOf_47 rfl (lv_at hl 0 rfl) ?_
    refine mw_getR cx hin w 13 (by decide) (List.mem_cons_of_mem _ uf_RX9_50) dX9_hangsOf_48 ?_
    refine lv_iload_n hx hb dX9_hangsOf_51 rfl (lv_at hl 1 rfl) ?_
    obtain ⟨hq_717, h⟩ := ck_e h
    refine mw_iald cx w 7 13 10 (by decide) hq_717 dX9_hangsOf_52 ?_
    obtain ⟨r_719, S_718, hc_720, h⟩ := bd_e h
    refine mw_callv (As := [.int (S_716.1 0), .int (S_716.2.1 13 (x1).toNatClampNeg)]) (rest := []) cx (cc_findHeard l D cs ad S_716 S_718 (S_716.1 0) (S_716.2.1 13 (x1).toNatClampNeg) r_719 hc_720) (cwV 2 hts (uG uw_X9_findHeard ul_RX9_230 ui_X9_findHeard us_RX9_X9_findHeard un_RX9) rfl rfl rfl ud_X9_findHeard ⟨Nat.le_of_ble_eq_true rfl, Nat.le_of_ble_eq_true rfl⟩) w rfl hl.1 rfl (Nat.le_of_ble_eq_true rfl) dX9_hangsOf_53 (fun H locs w => ?_)
    refine lv_iconst (v := (0 : Int32)) hx hb dX9_hangsOf_56 (by decide) ?_
    obtain ⟨x4_721, ex4_721, h⟩ := lt_e h
    refine top_i ex4_721 ?_
    refine lv_istore (lv' := [(4, .int x4_721), (0, .ref (ad 100)), (1, .int x1), (2, .int x2), (3, .int x3)]) hx hb dX9_hangsOf_57 hl (by decide) rfl (fun ls hl => ?_)
    exact L59 k8 hk8 4000 x1 x2 x3 x4_721 S_718 h _ _ _ (lv_sub hl [1, 2, 3, 4, 0] rfl) w
  have L8 : ∀ (n : Nat) (x1 : Int32) (x2 : Int32) (x3 : Int32) (S : MS), mm_hangsOf_8L  n x1 x2 x3 S = some (r0, T) → mGo p l e rmX9_hangsOf s m args below meth c 8 D cs ad (mQI below D cs ad args s r0 T) 8 [(0, .ref (ad 100)), (1, .int x1), (2, .int x2), (3, .int x3)] [] S := by
    intro n
    induction n with
    | zero =>
      intro x1 x2 x3 S h
      have h : none = some (r0, T) := h
      cases h
    | succ n hk8 =>
      intro x1 x2 x3 S h H locs ls hl w
      have h : mm_hangsOf_8  (mm_hangsOf_8L  n) x1 x2 x3 S = some (r0, T) := h
      generalize mm_hangsOf_8L  n = k8 at h hk8
      unfold mm_hangsOf_8 at h
      refine lv_iload_n hx hb dX9_hangsOf_8 rfl (lv_at hl 3 rfl) ?_
      refine lv_iconst (v := (2 : Int32)) hx hb dX9_hangsOf_9 (by decide) ?_
      refine lv_icmp_ge (tgt := 170) hx hb dX9_hangsOf_10 (by decide) (fun q => ?_) (fun q => ?_)
      · have h := br_p q h
        refine lv_iload_n hx hb dX9_hangsOf_170 rfl (lv_at hl 2 rfl) ?_
        exact mw_iret cx (rt_e h) w dX9_hangsOf_171
      · have h := br_n q h
        refine lv_aload_n hx hb dX9_hangsOf_13 rfl (lv_at hl 0 rfl) ?_
        refine lv_iload_n hx hb dX9_hangsOf_14 rfl (lv_at hl 3 rfl) ?_
        refine lv_if_ne (tgt := 31) hx hb dX9_hangsOf_15 (by decide) (fun q => ?_) (fun q => ?_)
        · have h := br_n q h
          refine lv_aload_n hx hb dX9_hangsOf_31 rfl (lv_at hl 0 rfl) ?_
          refine mw_getI cx hin w 2 (by decide) (List.mem_cons_of_mem _ uf_RX9_16) dX9_hangsOf_32 ?_
          refine lv_iconst (v := (1 : Int32)) hx hb dX9_hangsOf_35 (by decide) ?_
          refine lv_iload_n hx hb dX9_hangsOf_36 rfl (lv_at hl 1 rfl) ?_
          refine lv_ishl hx hb dX9_hangsOf_37 ?_
          refine lv_ior hx hb dX9_hangsOf_38 ?_
          exact J39 k8 hk8 x1 x2 x3 ((S.1 2) ||| ((1 : Int32) <<< (x1 &&& 31))) S h _ _ _ (lv_sub hl [0, 1, 2, 3] rfl) w
        · have h := br_p q h
          refine lv_aload_n hx hb dX9_hangsOf_18 rfl (lv_at hl 0 rfl) ?_
          refine mw_getI cx hin w 2 (by decide) (List.mem_cons_of_mem _ uf_RX9_16) dX9_hangsOf_19 ?_
          refine lv_iconst (v := (1 : Int32)) hx hb dX9_hangsOf_22 (by decide) ?_
          refine lv_iload_n hx hb dX9_hangsOf_23 rfl (lv_at hl 1 rfl) ?_
          refine lv_ishl hx hb dX9_hangsOf_24 ?_
          refine lv_iconst (v := (-1 : Int32)) hx hb dX9_hangsOf_25 (by decide) ?_
          refine lv_ixor hx hb dX9_hangsOf_26 ?_
          refine lv_iand hx hb dX9_hangsOf_27 ?_
          refine lv_goto (tgt := 39) hx hb dX9_hangsOf_28 (by decide) ?_
          exact J39 k8 hk8 x1 x2 x3 ((S.1 2) &&& (((1 : Int32) <<< (x1 &&& 31)) ^^^ (-1 : Int32))) S h _ _ _ (lv_sub hl [0, 1, 2, 3] rfl) w
  unfold mm_hangsOf at h
  refine lv_aload_n hx hb dX9_hangsOf_0 rfl (lv_at hl 0 rfl) ?_
  obtain ⟨r_923, S_922, hc_924, h⟩ := bd_e h
  refine mw_callv (As := []) (rest := []) cx (cc_asItIs l D cs ad S S_922  r_923 hc_924) (cwV 0 hts (uG uw_X9_asItIs ul_RX9_211 ui_X9_asItIs us_RX9_X9_asItIs un_RX9) rfl rfl rfl ud_X9_asItIs ⟨Nat.le_of_ble_eq_true rfl, Nat.le_of_ble_eq_true rfl⟩) w rfl hl.1 rfl (Nat.le_of_ble_eq_true rfl) dX9_hangsOf_1 (fun H locs w => ?_)
  refine lv_iconst (v := (0 : Int32)) hx hb dX9_hangsOf_4 (by decide) ?_
  obtain ⟨x2_925, ex2_925, h⟩ := lt_e h
  refine top_i ex2_925 ?_
  refine lv_istore_n (lv' := [(2, .int x2_925), (0, .ref (ad 100)), (1, .int a1)]) hx hb dX9_hangsOf_5 rfl hl (by decide) rfl (fun ls hl => ?_)
  refine lv_iconst (v := (0 : Int32)) hx hb dX9_hangsOf_6 (by decide) ?_
  obtain ⟨x3_926, ex3_926, h⟩ := lt_e h
  refine top_i ex3_926 ?_
  refine lv_istore_n (lv' := [(3, .int x3_926), (2, .int x2_925), (0, .ref (ad 100)), (1, .int a1)]) hx hb dX9_hangsOf_7 rfl hl (by decide) rfl (fun ls hl => ?_)
  exact L8  4000 a1 x2_925 x3_926 S_922 h _ _ _ (lv_sub hl [2, 3, 1, 0] rfl) w
def mm_hangs (S : MS) (a1 : Int32) : Option (Int32 × MS) := bd (mm_isRule S a1) (fun r_102 S_101 => if r_102 = (0 : Int32) then (some ((-1 : Int32), S_101)) else (bd (mm_hangsOf S_101 a1) (fun r_105 S_104 => some (r_105, S_104))))
abbrev wu_X9_hangs : List Cond := .code yX9_hangs cX9_hangs 2 (some .int) :: wsL_law
theorem ud_X9_hangs : yX9_hangs.cls = RX9 ∧ yX9_hangs.cls ≠ "java/lang/invoke/MethodHandle" ∧ yX9_hangs.cls ≠ "java/lang/invoke/VarHandle" ∧ (parseMethodDescriptor yX9_hangs.desc).map (fun d => d.parameters.length) = some 1 := by decide +kernel
abbrev rmX9_hangs : Room := { frames := 8, cells := 0, slots := 0, locals := 196 }
set_option maxHeartbeats 4000000 in
set_option maxRecDepth 100000 in
theorem cc_hangs (l : Launch) (D : va_G) (cs : Nat → ClassId) (ad : Nat → Nat) (S T : MS) (a1 : Int32) (r0 : Int32) (h : mm_hangs S a1 = some (r0, T)) : MetI l yX9_hangs wu_X9_hangs rmX9_hangs D cs ad [.int a1] S T r0 := by
  refine mo_I (ty := .int) (cc := cX9_hangs) (maxL := 2) ⟨by decide, rfl⟩ rfl (Nat.le_of_ble_eq_true rfl) ?_
  intro p e s m args below meth c ls cx hl w
  have hx := cx.1
  have hb := cx.2.1
  have hts := cx.2.2.2.1
  have hown := cx.2.2.2.2.1
  have hl : lv_has ls 2 [(0, .ref (ad 100)), (1, .int a1)] := hl
  unfold mm_hangs at h
  refine lv_aload_n hx hb dX9_hangs_0 rfl (lv_at hl 0 rfl) ?_
  refine lv_iload_n hx hb dX9_hangs_1 rfl (lv_at hl 1 rfl) ?_
  obtain ⟨r_102, S_101, hc_103, h⟩ := bd_e h
  refine mw_calli (As := [.int a1]) (rest := []) cx (cc_isRule l D cs ad S S_101 a1 r_102 hc_103) (cwV 1 hts (uG uw_X9_isRule ul_RX9_205 ui_X9_isRule us_RX9_X9_isRule un_RX9) rfl rfl rfl ud_X9_isRule ⟨Nat.le_of_ble_eq_true rfl, Nat.le_of_ble_eq_true rfl⟩) w rfl hl.1 rfl (Nat.le_of_ble_eq_true rfl) dX9_hangs_2 (fun H locs w => ?_)
  refine lv_if_eq (tgt := 16) hx hb dX9_hangs_5 (by decide) (fun q => ?_) (fun q => ?_)
  · have h := br_p q h
    refine lv_iconst (v := (-1 : Int32)) hx hb dX9_hangs_16 (by decide) ?_
    exact mw_iret cx (rt_e h) w dX9_hangs_17
  · have h := br_n q h
    refine lv_aload_n hx hb dX9_hangs_8 rfl (lv_at hl 0 rfl) ?_
    refine lv_iload_n hx hb dX9_hangs_9 rfl (lv_at hl 1 rfl) ?_
    obtain ⟨r_105, S_104, hc_106, h⟩ := bd_e h
    refine mw_calli (As := [.int a1]) (rest := []) cx (cc_hangsOf l D cs ad S_101 S_104 a1 r_105 hc_106) (cwV 1 hts (uG uw_X9_hangsOf ul_RX9_252 ui_X9_hangsOf us_RX9_X9_hangsOf un_RX9) rfl rfl rfl ud_X9_hangsOf ⟨Nat.le_of_ble_eq_true rfl, Nat.le_of_ble_eq_true rfl⟩) w rfl hl.1 rfl (Nat.le_of_ble_eq_true rfl) dX9_hangs_10 (fun H locs w => ?_)
    refine lv_goto (tgt := 17) hx hb dX9_hangs_13 (by decide) ?_
    exact mw_iret cx (rt_e h) w dX9_hangs_17
def mm_most_36 (k7 : Int32 → Int32 → Int32 → MS → Option (Int32 × MS)) (x1 : Int32) (x2 : Int32) (x3 : Int32) (S : MS) : Option (Int32 × MS) := lt_ (x3 + (1 : Int32)) (fun x3_101 => k7 x1 x2 x3_101 S)
def mm_most_7 (k7 : Int32 → Int32 → Int32 → MS → Option (Int32 × MS)) (x1 : Int32) (x2 : Int32) (x3 : Int32) (S : MS) : Option (Int32 × MS) := if (S.1 9) ≤ x3 then (some (x1, S)) else (bd (mm_hangsOf S x3) (fun r_203 S_202 => if x2 < r_203 then (mm_most_36 k7 x3 r_203 x3 S_202) else (mm_most_36 k7 x1 x2 x3 S_202)))
def mm_most_7L : Nat → Int32 → Int32 → Int32 → MS → Option (Int32 × MS)
  | 0, _, _, _, _ => none
  | n + 1, x1, x2, x3, S => mm_most_7  (mm_most_7L  n) x1 x2 x3 S
def mm_most (S : MS)  : Option (Int32 × MS) := lt_ ((-5 : Int32)) (fun x1_305 => lt_ ((-1 : Int32)) (fun x2_306 => lt_ ((0 : Int32)) (fun x3_307 => mm_most_7L  4000 x1_305 x2_306 x3_307 S)))
abbrev wu_X9_most : List Cond := .code yX9_most cX9_most 5 (some .int) :: wsL_law
theorem ud_X9_most : yX9_most.cls = RX9 ∧ yX9_most.cls ≠ "java/lang/invoke/MethodHandle" ∧ yX9_most.cls ≠ "java/lang/invoke/VarHandle" ∧ (parseMethodDescriptor yX9_most.desc).map (fun d => d.parameters.length) = some 0 := by decide +kernel
abbrev rmX9_most : Room := { frames := 8, cells := 0, slots := 0, locals := 196 }
set_option maxHeartbeats 4000000 in
set_option maxRecDepth 100000 in
theorem cc_most (l : Launch) (D : va_G) (cs : Nat → ClassId) (ad : Nat → Nat) (S T : MS)  (r0 : Int32) (h : mm_most S  = some (r0, T)) : MetI l yX9_most wu_X9_most rmX9_most D cs ad [] S T r0 := by
  refine mo_I (ty := .int) (cc := cX9_most) (maxL := 5) ⟨by decide, rfl⟩ rfl (Nat.le_of_ble_eq_true rfl) ?_
  intro p e s m args below meth c ls cx hl w
  have hx := cx.1
  have hb := cx.2.1
  have hts := cx.2.2.2.1
  have hown := cx.2.2.2.2.1
  have hin : ∀ w ∈ wsX90, w ∈ wu_X9_most := fun _ hq => List.mem_cons_of_mem _ (inlX9 _ hq)
  have hl : lv_has ls 5 [(0, .ref (ad 100))] := hl
  have J36 : ∀ (k7 : Int32 → Int32 → Int32 → MS → Option (Int32 × MS)) (hk7 : ∀ (x1 : Int32) (x2 : Int32) (x3 : Int32) (S : MS), k7 x1 x2 x3 S = some (r0, T) → mGo p l e rmX9_most s m args below meth c 5 D cs ad (mQI below D cs ad args s r0 T) 7 [(0, .ref (ad 100)), (1, .int x1), (2, .int x2), (3, .int x3)] [] S) (x1 : Int32) (x2 : Int32) (x3 : Int32) (S : MS), mm_most_36 k7 x1 x2 x3 S = some (r0, T) → mGo p l e rmX9_most s m args below meth c 5 D cs ad (mQI below D cs ad args s r0 T) 36 [(0, .ref (ad 100)), (1, .int x1), (2, .int x2), (3, .int x3)] [] S := by
    intro k7 hk7 x1 x2 x3 S h H locs ls hl w
    unfold mm_most_36 at h
    obtain ⟨x3_101, ex3_101, h⟩ := lt_e h
    refine lv_iinc (v := x3_101) (lv' := [(3, .int x3_101), (0, .ref (ad 100)), (1, .int x1), (2, .int x2)]) hx hb dX9_most_36 hl (k := 3) rfl (by rw [ex3_101]; rfl) (by decide) rfl (fun ls hl => ?_)
    refine lv_goto (tgt := 7) hx hb dX9_most_39 (by decide) ?_
    exact hk7 x1 x2 x3_101 S h _ _ _ (lv_sub hl [1, 2, 3, 0] rfl) w
  have L7 : ∀ (n : Nat) (x1 : Int32) (x2 : Int32) (x3 : Int32) (S : MS), mm_most_7L  n x1 x2 x3 S = some (r0, T) → mGo p l e rmX9_most s m args below meth c 5 D cs ad (mQI below D cs ad args s r0 T) 7 [(0, .ref (ad 100)), (1, .int x1), (2, .int x2), (3, .int x3)] [] S := by
    intro n
    induction n with
    | zero =>
      intro x1 x2 x3 S h
      have h : none = some (r0, T) := h
      cases h
    | succ n hk7 =>
      intro x1 x2 x3 S h H locs ls hl w
      have h : mm_most_7  (mm_most_7L  n) x1 x2 x3 S = some (r0, T) := h
      generalize mm_most_7L  n = k7 at h hk7
      unfold mm_most_7 at h
      refine lv_iload_n hx hb dX9_most_7 rfl (lv_at hl 3 rfl) ?_
      refine lv_aload_n hx hb dX9_most_8 rfl (lv_at hl 0 rfl) ?_
      refine mw_getI cx hin w 9 (by decide) (List.mem_cons_of_mem _ uf_RX9_38) dX9_most_9 ?_
      refine lv_icmp_ge (tgt := 42) hx hb dX9_most_12 (by decide) (fun q => ?_) (fun q => ?_)
      · have h := br_p q h
        refine lv_iload_n hx hb dX9_most_42 rfl (lv_at hl 1 rfl) ?_
        exact mw_iret cx (rt_e h) w dX9_most_43
      · have h := br_n q h
        refine lv_aload_n hx hb dX9_most_15 rfl (lv_at hl 0 rfl) ?_
        refine lv_iload_n hx hb dX9_most_16 rfl (lv_at hl 3 rfl) ?_
        obtain ⟨r_203, S_202, hc_204, h⟩ := bd_e h
        refine mw_calli (As := [.int x3]) (rest := []) cx (cc_hangsOf l D cs ad S S_202 x3 r_203 hc_204) (cwV 1 hts (uG uw_X9_hangsOf ul_RX9_252 ui_X9_hangsOf us_RX9_X9_hangsOf un_RX9) rfl rfl rfl ud_X9_hangsOf ⟨Nat.le_of_ble_eq_true rfl, Nat.le_of_ble_eq_true rfl⟩) w rfl hl.1 rfl (Nat.le_of_ble_eq_true rfl) dX9_most_17 (fun H locs w => ?_)
        refine lv_istore (lv' := [(4, .int r_203), (0, .ref (ad 100)), (1, .int x1), (2, .int x2), (3, .int x3)]) hx hb dX9_most_20 hl (by decide) rfl (fun ls hl => ?_)
        refine lv_iload hx hb dX9_most_22 (lv_at hl 0 rfl) ?_
        refine lv_iload_n hx hb dX9_most_24 rfl (lv_at hl 3 rfl) ?_
        refine lv_icmp_gt (tgt := 31) hx hb dX9_most_25 (by decide) (fun q => ?_) (fun q => ?_)
        · have h := br_p q h
          refine lv_iload_n hx hb dX9_most_31 rfl (lv_at hl 4 rfl) ?_
          refine lv_istore_n (lv' := [(1, .int x3), (4, .int r_203), (0, .ref (ad 100)), (2, .int x2), (3, .int x3)]) hx hb dX9_most_32 rfl hl (by decide) rfl (fun ls hl => ?_)
          refine lv_iload hx hb dX9_most_33 (lv_at hl 1 rfl) ?_
          refine lv_istore_n (lv' := [(2, .int r_203), (1, .int x3), (4, .int r_203), (0, .ref (ad 100)), (3, .int x3)]) hx hb dX9_most_35 rfl hl (by decide) rfl (fun ls hl => ?_)
          exact J36 k7 hk7 x3 r_203 x3 S_202 h _ _ _ (lv_sub hl [3, 1, 0, 4] rfl) w
        · have h := br_n q h
          refine lv_goto (tgt := 36) hx hb dX9_most_28 (by decide) ?_
          exact J36 k7 hk7 x1 x2 x3 S_202 h _ _ _ (lv_sub hl [1, 2, 3, 4] rfl) w
  unfold mm_most at h
  refine lv_bipush (v := (-5 : Int32)) hx hb dX9_most_0 (by decide) ?_
  obtain ⟨x1_305, ex1_305, h⟩ := lt_e h
  refine top_i ex1_305 ?_
  refine lv_istore_n (lv' := [(1, .int x1_305), (0, .ref (ad 100))]) hx hb dX9_most_2 rfl hl (by decide) rfl (fun ls hl => ?_)
  refine lv_iconst (v := (-1 : Int32)) hx hb dX9_most_3 (by decide) ?_
  obtain ⟨x2_306, ex2_306, h⟩ := lt_e h
  refine top_i ex2_306 ?_
  refine lv_istore_n (lv' := [(2, .int x2_306), (1, .int x1_305), (0, .ref (ad 100))]) hx hb dX9_most_4 rfl hl (by decide) rfl (fun ls hl => ?_)
  refine lv_iconst (v := (0 : Int32)) hx hb dX9_most_5 (by decide) ?_
  obtain ⟨x3_307, ex3_307, h⟩ := lt_e h
  refine top_i ex3_307 ?_
  refine lv_istore_n (lv' := [(3, .int x3_307), (2, .int x2_306), (1, .int x1_305), (0, .ref (ad 100))]) hx hb dX9_most_6 rfl hl (by decide) rfl (fun ls hl => ?_)
  exact L7  4000 x1_305 x2_306 x3_307 S h _ _ _ (lv_sub hl [3, 2, 1, 0] rfl) w
def mm_beside_18  (S : MS) : Option (Int32 × MS) := some ((-1 : Int32), S)
def mm_beside_112 (k29 : Int32 → Int32 → Int32 → Int32 → MS → Option (Int32 × MS)) (x1 : Int32) (x2 : Int32) (x4 : Int32) (t0 : Int32) (t1 : Int32) (S : MS) : Option (Int32 × MS) := lt_ ((t0 ||| t1)) (fun x3_201 => lt_ (x4 + (1 : Int32)) (fun x4_202 => k29 x1 x2 x3_201 x4_202 S))
def mm_beside_104 (k29 : Int32 → Int32 → Int32 → Int32 → MS → Option (Int32 × MS)) (x1 : Int32) (x2 : Int32) (x4 : Int32) (t0 : Int32) (S : MS) : Option (Int32 × MS) := mm_beside_112 k29 x1 x2 x4 t0 ((1 : Int32) <<< (x4 &&& 31)) S
def mm_beside_111 (k29 : Int32 → Int32 → Int32 → Int32 → MS → Option (Int32 × MS)) (x1 : Int32) (x2 : Int32) (x4 : Int32) (t0 : Int32) (S : MS) : Option (Int32 × MS) := mm_beside_112 k29 x1 x2 x4 t0 (0 : Int32) S
def mm_beside_29 (k29 : Int32 → Int32 → Int32 → Int32 → MS → Option (Int32 × MS)) (x1 : Int32) (x2 : Int32) (x3 : Int32) (x4 : Int32) (S : MS) : Option (Int32 × MS) := if (S.1 0) ≤ x4 then (some (x3, S)) else (bd (mm_isHeard S x4 x1 (0 : Int32)) (fun r_504 S_503 => bd (mm_isHeard S_503 x4 x1 (1 : Int32)) (fun r_507 S_506 => if x2 = (0 : Int32) then (if r_504 = (0 : Int32) then (mm_beside_111 k29 x1 x2 x4 x3 S_506) else (if r_507 = (0 : Int32) then (mm_beside_104 k29 x1 x2 x4 x3 S_506) else (mm_beside_111 k29 x1 x2 x4 x3 S_506))) else (if x2 = (1 : Int32) then (if r_507 = (0 : Int32) then (mm_beside_111 k29 x1 x2 x4 x3 S_506) else (if r_504 = (0 : Int32) then (mm_beside_104 k29 x1 x2 x4 x3 S_506) else (mm_beside_111 k29 x1 x2 x4 x3 S_506))) else (if r_504 = (0 : Int32) then (mm_beside_111 k29 x1 x2 x4 x3 S_506) else (if r_507 = (0 : Int32) then (mm_beside_111 k29 x1 x2 x4 x3 S_506) else (mm_beside_104 k29 x1 x2 x4 x3 S_506)))))))
def mm_beside_29L : Nat → Int32 → Int32 → Int32 → Int32 → MS → Option (Int32 × MS)
  | 0, _, _, _, _, _ => none
  | n + 1, x1, x2, x3, x4, S => mm_beside_29  (mm_beside_29L  n) x1 x2 x3 x4 S
def mm_beside (S : MS) (a1 : Int32) (a2 : Int32) : Option (Int32 × MS) := bd (mm_isEnd S a1) (fun r_610 S_609 => if r_610 = (0 : Int32) then (mm_beside_18   S_609) else (bd (mm_in S_609 a2 (0 : Int32) (2 : Int32)) (fun r_613 S_612 => if r_613 = (0 : Int32) then (mm_beside_18   S_612) else (bd (mm_asItIs S_612 ) (fun _ S_615 => lt_ ((0 : Int32)) (fun x3_618 => lt_ ((0 : Int32)) (fun x4_619 => mm_beside_29L  4000 a1 a2 x3_618 x4_619 S_615)))))))
abbrev wu_X9_beside : List Cond := .code yX9_beside cX9_beside 7 (some .int) :: wsL_law
theorem ud_X9_beside : yX9_beside.cls = RX9 ∧ yX9_beside.cls ≠ "java/lang/invoke/MethodHandle" ∧ yX9_beside.cls ≠ "java/lang/invoke/VarHandle" ∧ (parseMethodDescriptor yX9_beside.desc).map (fun d => d.parameters.length) = some 2 := by decide +kernel
abbrev rmX9_beside : Room := { frames := 8, cells := 0, slots := 0, locals := 192 }
set_option maxHeartbeats 4000000 in
set_option maxRecDepth 100000 in
theorem cc_beside (l : Launch) (D : va_G) (cs : Nat → ClassId) (ad : Nat → Nat) (S T : MS) (a1 : Int32) (a2 : Int32) (r0 : Int32) (h : mm_beside S a1 a2 = some (r0, T)) : MetI l yX9_beside wu_X9_beside rmX9_beside D cs ad [.int a1, .int a2] S T r0 := by
  refine mo_I (ty := .int) (cc := cX9_beside) (maxL := 7) ⟨by decide, rfl⟩ rfl (Nat.le_of_ble_eq_true rfl) ?_
  intro p e s m args below meth c ls cx hl w
  have hx := cx.1
  have hb := cx.2.1
  have hts := cx.2.2.2.1
  have hown := cx.2.2.2.2.1
  have hin : ∀ w ∈ wsX90, w ∈ wu_X9_beside := fun _ hq => List.mem_cons_of_mem _ (inlX9 _ hq)
  have hl : lv_has ls 7 [(0, .ref (ad 100)), (1, .int a1), (2, .int a2)] := hl
  have J18 : ∀  (S : MS), mm_beside_18   S = some (r0, T) → mGo p l e rmX9_beside s m args below meth c 7 D cs ad (mQI below D cs ad args s r0 T) 18 [] [] S := by
    intro  S h H locs ls hl w
    unfold mm_beside_18 at h
    refine lv_iconst (v := (-1 : Int32)) hx hb dX9_beside_18 (by decide) ?_
    exact mw_iret cx (rt_e h) w dX9_beside_19
  have J112 : ∀ (k29 : Int32 → Int32 → Int32 → Int32 → MS → Option (Int32 × MS)) (hk29 : ∀ (x1 : Int32) (x2 : Int32) (x3 : Int32) (x4 : Int32) (S : MS), k29 x1 x2 x3 x4 S = some (r0, T) → mGo p l e rmX9_beside s m args below meth c 7 D cs ad (mQI below D cs ad args s r0 T) 29 [(0, .ref (ad 100)), (1, .int x1), (2, .int x2), (3, .int x3), (4, .int x4)] [] S) (x1 : Int32) (x2 : Int32) (x4 : Int32) (t0 : Int32) (t1 : Int32) (S : MS), mm_beside_112 k29 x1 x2 x4 t0 t1 S = some (r0, T) → mGo p l e rmX9_beside s m args below meth c 7 D cs ad (mQI below D cs ad args s r0 T) 112 [(0, .ref (ad 100)), (1, .int x1), (2, .int x2), (4, .int x4)] [.int t1, .int t0] S := by
    intro k29 hk29 x1 x2 x4 t0 t1 S h H locs ls hl w
    unfold mm_beside_112 at h
    refine lv_ior hx hb dX9_beside_112 ?_
    obtain ⟨x3_201, ex3_201, h⟩ := lt_e h
    refine top_i ex3_201 ?_
    refine lv_istore_n (lv' := [(3, .int x3_201), (0, .ref (ad 100)), (1, .int x1), (2, .int x2), (4, .int x4)]) hx hb dX9_beside_113 rfl hl (by decide) rfl (fun ls hl => ?_)
    obtain ⟨x4_202, ex4_202, h⟩ := lt_e h
    refine lv_iinc (v := x4_202) (lv' := [(4, .int x4_202), (3, .int x3_201), (0, .ref (ad 100)), (1, .int x1), (2, .int x2)]) hx hb dX9_beside_114 hl (k := 4) rfl (by rw [ex4_202]; rfl) (by decide) rfl (fun ls hl => ?_)
    refine lv_goto (tgt := 29) hx hb dX9_beside_117 (by decide) ?_
    exact hk29 x1 x2 x3_201 x4_202 S h _ _ _ (lv_sub hl [2, 3, 4, 1, 0] rfl) w
  have J104 : ∀ (k29 : Int32 → Int32 → Int32 → Int32 → MS → Option (Int32 × MS)) (hk29 : ∀ (x1 : Int32) (x2 : Int32) (x3 : Int32) (x4 : Int32) (S : MS), k29 x1 x2 x3 x4 S = some (r0, T) → mGo p l e rmX9_beside s m args below meth c 7 D cs ad (mQI below D cs ad args s r0 T) 29 [(0, .ref (ad 100)), (1, .int x1), (2, .int x2), (3, .int x3), (4, .int x4)] [] S) (x1 : Int32) (x2 : Int32) (x4 : Int32) (t0 : Int32) (S : MS), mm_beside_104 k29 x1 x2 x4 t0 S = some (r0, T) → mGo p l e rmX9_beside s m args below meth c 7 D cs ad (mQI below D cs ad args s r0 T) 104 [(0, .ref (ad 100)), (1, .int x1), (2, .int x2), (4, .int x4)] [.int t0] S := by
    intro k29 hk29 x1 x2 x4 t0 S h H locs ls hl w
    unfold mm_beside_104 at h
    refine lv_iconst (v := (1 : Int32)) hx hb dX9_beside_104 (by decide) ?_
    refine lv_iload hx hb dX9_beside_105 (lv_at hl 3 rfl) ?_
    refine lv_ishl hx hb dX9_beside_107 ?_
    refine lv_goto (tgt := 112) hx hb dX9_beside_108 (by decide) ?_
    exact J112 k29 hk29 x1 x2 x4 t0 ((1 : Int32) <<< (x4 &&& 31)) S h _ _ _ (lv_sub hl [0, 1, 2, 3] rfl) w
  have J111 : ∀ (k29 : Int32 → Int32 → Int32 → Int32 → MS → Option (Int32 × MS)) (hk29 : ∀ (x1 : Int32) (x2 : Int32) (x3 : Int32) (x4 : Int32) (S : MS), k29 x1 x2 x3 x4 S = some (r0, T) → mGo p l e rmX9_beside s m args below meth c 7 D cs ad (mQI below D cs ad args s r0 T) 29 [(0, .ref (ad 100)), (1, .int x1), (2, .int x2), (3, .int x3), (4, .int x4)] [] S) (x1 : Int32) (x2 : Int32) (x4 : Int32) (t0 : Int32) (S : MS), mm_beside_111 k29 x1 x2 x4 t0 S = some (r0, T) → mGo p l e rmX9_beside s m args below meth c 7 D cs ad (mQI below D cs ad args s r0 T) 111 [(0, .ref (ad 100)), (1, .int x1), (2, .int x2), (4, .int x4)] [.int t0] S := by
    intro k29 hk29 x1 x2 x4 t0 S h H locs ls hl w
    unfold mm_beside_111 at h
    refine lv_iconst (v := (0 : Int32)) hx hb dX9_beside_111 (by decide) ?_
    exact J112 k29 hk29 x1 x2 x4 t0 (0 : Int32) S h _ _ _ (lv_sub hl [0, 1, 2, 3] rfl) w
  have L29 : ∀ (n : Nat) (x1 : Int32) (x2 : Int32) (x3 : Int32) (x4 : Int32) (S : MS), mm_beside_29L  n x1 x2 x3 x4 S = some (r0, T) → mGo p l e rmX9_beside s m args below meth c 7 D cs ad (mQI below D cs ad args s r0 T) 29 [(0, .ref (ad 100)), (1, .int x1), (2, .int x2), (3, .int x3), (4, .int x4)] [] S := by
    intro n
    induction n with
    | zero =>
      intro x1 x2 x3 x4 S h
      have h : none = some (r0, T) := h
      cases h
    | succ n hk29 =>
      intro x1 x2 x3 x4 S h H locs ls hl w
      have h : mm_beside_29  (mm_beside_29L  n) x1 x2 x3 x4 S = some (r0, T) := h
      generalize mm_beside_29L  n = k29 at h hk29
      unfold mm_beside_29 at h
      refine lv_iload hx hb dX9_beside_29 (lv_at hl 4 rfl) ?_
      refine lv_aload_n hx hb dX9_beside_31 rfl (lv_at hl 0 rfl) ?_
      refine mw_getI cx hin w 0 (by decide) (List.mem_cons_of_mem _ uf_RX9_7) dX9_beside_32 ?_
      refine lv_icmp_ge (tgt := 120) hx hb dX9_beside_35 (by decide) (fun q => ?_) (fun q => ?_)
      · have h := br_p q h
        refine lv_iload_n hx hb dX9_beside_120 rfl (lv_at hl 3 rfl) ?_
        exact mw_iret cx (rt_e h) w dX9_beside_121
      · have h := br_n q h
        refine lv_aload_n hx hb dX9_beside_38 rfl (lv_at hl 0 rfl) ?_
        refine lv_iload hx hb dX9_beside_39 (lv_at hl 4 rfl) ?_
        refine lv_iload_n hx hb dX9_beside_41 rfl (lv_at hl 1 rfl) ?_
        refine lv_iconst (v := (0 : Int32)) hx hb dX9_beside_42 (by decide) ?_
        obtain ⟨r_504, S_503, hc_505, h⟩ := bd_e h
        refine mw_calli (As := [.int x4, .int x1, .int (0 : Int32)]) (rest := []) cx (cc_isHeard l D cs ad S S_503 x4 x1 (0 : Int32) r_504 hc_505) (cwV 3 hts (uG uw_X9_isHeard ul_RX9_237 ui_X9_isHeard us_RX9_X9_isHeard un_RX9) rfl rfl rfl ud_X9_isHeard ⟨Nat.le_of_ble_eq_true rfl, Nat.le_of_ble_eq_true rfl⟩) w rfl hl.1 rfl (Nat.le_of_ble_eq_true rfl) dX9_beside_43 (fun H locs w => ?_)
        refine lv_istore (lv' := [(5, .int r_504), (0, .ref (ad 100)), (1, .int x1), (2, .int x2), (3, .int x3), (4, .int x4)]) hx hb dX9_beside_46 hl (by decide) rfl (fun ls hl => ?_)
        refine lv_aload_n hx hb dX9_beside_48 rfl (lv_at hl 1 rfl) ?_
        refine lv_iload hx hb dX9_beside_49 (lv_at hl 5 rfl) ?_
        refine lv_iload_n hx hb dX9_beside_51 rfl (lv_at hl 2 rfl) ?_
        refine lv_iconst (v := (1 : Int32)) hx hb dX9_beside_52 (by decide) ?_
        obtain ⟨r_507, S_506, hc_508, h⟩ := bd_e h
        refine mw_calli (As := [.int x4, .int x1, .int (1 : Int32)]) (rest := []) cx (cc_isHeard l D cs ad S_503 S_506 x4 x1 (1 : Int32) r_507 hc_508) (cwV 3 hts (uG uw_X9_isHeard ul_RX9_237 ui_X9_isHeard us_RX9_X9_isHeard un_RX9) rfl rfl rfl ud_X9_isHeard ⟨Nat.le_of_ble_eq_true rfl, Nat.le_of_ble_eq_true rfl⟩) w rfl hl.1 rfl (Nat.le_of_ble_eq_true rfl) dX9_beside_53 (fun H locs w => ?_)
        refine lv_istore (lv' := [(6, .int r_507), (5, .int r_504), (0, .ref (ad 100)), (1, .int x1), (2, .int x2), (3, .int x3), (4, .int x4)]) hx hb dX9_beside_56 hl (by decide) rfl (fun ls hl => ?_)
        refine lv_iload_n hx hb dX9_beside_58 rfl (lv_at hl 5 rfl) ?_
        refine lv_iload_n hx hb dX9_beside_59 rfl (lv_at hl 4 rfl) ?_
        refine lv_if_ne (tgt := 76) hx hb dX9_beside_60 (by decide) (fun q => ?_) (fun q => ?_)
        · have h := br_n q h
          refine lv_iload_n hx hb dX9_beside_76 rfl (lv_at hl 4 rfl) ?_
          refine lv_iconst (v := (1 : Int32)) hx hb dX9_beside_77 (by decide) ?_
          refine lv_icmp_ne (tgt := 94) hx hb dX9_beside_78 (by decide) (fun q => ?_) (fun q => ?_)
          · have h := br_n q h
            refine lv_iload hx hb dX9_beside_94 (lv_at hl 1 rfl) ?_
            refine lv_if_eq (tgt := 111) hx hb dX9_beside_96 (by decide) (fun q => ?_) (fun q => ?_)
            · have h := br_p q h
              exact J111 k29 hk29 x1 x2 x4 x3 S_506 h _ _ _ (lv_sub hl [2, 3, 4, 6] rfl) w
            · have h := br_n q h
              refine lv_iload hx hb dX9_beside_99 (lv_at hl 0 rfl) ?_
              refine lv_if_eq (tgt := 111) hx hb dX9_beside_101 (by decide) (fun q => ?_) (fun q => ?_)
              · have h := br_p q h
                exact J111 k29 hk29 x1 x2 x4 x3 S_506 h _ _ _ (lv_sub hl [2, 3, 4, 6] rfl) w
              · have h := br_n q h
                exact J104 k29 hk29 x1 x2 x4 x3 S_506 h _ _ _ (lv_sub hl [2, 3, 4, 6] rfl) w
          · have h := br_p q h
            refine lv_iload hx hb dX9_beside_81 (lv_at hl 0 rfl) ?_
            refine lv_if_eq (tgt := 111) hx hb dX9_beside_83 (by decide) (fun q => ?_) (fun q => ?_)
            · have h := br_p q h
              exact J111 k29 hk29 x1 x2 x4 x3 S_506 h _ _ _ (lv_sub hl [2, 3, 4, 6] rfl) w
            · have h := br_n q h
              refine lv_iload hx hb dX9_beside_86 (lv_at hl 1 rfl) ?_
              refine lv_if_ne (tgt := 111) hx hb dX9_beside_88 (by decide) (fun q => ?_) (fun q => ?_)
              · have h := br_n q h
                exact J111 k29 hk29 x1 x2 x4 x3 S_506 h _ _ _ (lv_sub hl [2, 3, 4, 6] rfl) w
              · have h := br_p q h
                refine lv_goto (tgt := 104) hx hb dX9_beside_91 (by decide) ?_
                exact J104 k29 hk29 x1 x2 x4 x3 S_506 h _ _ _ (lv_sub hl [2, 3, 4, 6] rfl) w
        · have h := br_p q h
          refine lv_iload hx hb dX9_beside_63 (lv_at hl 1 rfl) ?_
          refine lv_if_eq (tgt := 111) hx hb dX9_beside_65 (by decide) (fun q => ?_) (fun q => ?_)
          · have h := br_p q h
            exact J111 k29 hk29 x1 x2 x4 x3 S_506 h _ _ _ (lv_sub hl [2, 3, 4, 6] rfl) w
          · have h := br_n q h
            refine lv_iload hx hb dX9_beside_68 (lv_at hl 0 rfl) ?_
            refine lv_if_ne (tgt := 111) hx hb dX9_beside_70 (by decide) (fun q => ?_) (fun q => ?_)
            · have h := br_n q h
              exact J111 k29 hk29 x1 x2 x4 x3 S_506 h _ _ _ (lv_sub hl [2, 3, 4, 6] rfl) w
            · have h := br_p q h
              refine lv_goto (tgt := 104) hx hb dX9_beside_73 (by decide) ?_
              exact J104 k29 hk29 x1 x2 x4 x3 S_506 h _ _ _ (lv_sub hl [2, 3, 4, 6] rfl) w
  unfold mm_beside at h
  refine lv_aload_n hx hb dX9_beside_0 rfl (lv_at hl 0 rfl) ?_
  refine lv_iload_n hx hb dX9_beside_1 rfl (lv_at hl 1 rfl) ?_
  obtain ⟨r_610, S_609, hc_611, h⟩ := bd_e h
  refine mw_calli (As := [.int a1]) (rest := []) cx (cc_isEnd l D cs ad S S_609 a1 r_610 hc_611) (cwV 1 hts (uG uw_X9_isEnd ul_RX9_208 ui_X9_isEnd us_RX9_X9_isEnd un_RX9) rfl rfl rfl ud_X9_isEnd ⟨Nat.le_of_ble_eq_true rfl, Nat.le_of_ble_eq_true rfl⟩) w rfl hl.1 rfl (Nat.le_of_ble_eq_true rfl) dX9_beside_2 (fun H locs w => ?_)
  refine lv_if_eq (tgt := 18) hx hb dX9_beside_5 (by decide) (fun q => ?_) (fun q => ?_)
  · have h := br_p q h
    exact J18   S_609 h _ _ _ (lv_sub hl [] rfl) w
  · have h := br_n q h
    refine lv_aload_n hx hb dX9_beside_8 rfl (lv_at hl 0 rfl) ?_
    refine lv_iload_n hx hb dX9_beside_9 rfl (lv_at hl 2 rfl) ?_
    refine lv_iconst (v := (0 : Int32)) hx hb dX9_beside_10 (by decide) ?_
    refine lv_iconst (v := (2 : Int32)) hx hb dX9_beside_11 (by decide) ?_
    obtain ⟨r_613, S_612, hc_614, h⟩ := bd_e h
    refine mw_calli (As := [.int a2, .int (0 : Int32), .int (2 : Int32)]) (rest := []) cx (cc_in l D cs ad S_609 S_612 a2 (0 : Int32) (2 : Int32) r_613 hc_614) (cwV 3 hts (uG uw_X9_in ul_RX9_133 ui_X9_in us_RX9_X9_in un_RX9) rfl rfl rfl ud_X9_in ⟨Nat.le_of_ble_eq_true rfl, Nat.le_of_ble_eq_true rfl⟩) w rfl hl.1 rfl (Nat.le_of_ble_eq_true rfl) dX9_beside_12 (fun H locs w => ?_)
    refine lv_if_ne (tgt := 20) hx hb dX9_beside_15 (by decide) (fun q => ?_) (fun q => ?_)
    · have h := br_n q h
      refine lv_aload_n hx hb dX9_beside_20 rfl (lv_at hl 0 rfl) ?_
      obtain ⟨r_616, S_615, hc_617, h⟩ := bd_e h
      refine mw_callv (As := []) (rest := []) cx (cc_asItIs l D cs ad S_612 S_615  r_616 hc_617) (cwV 0 hts (uG uw_X9_asItIs ul_RX9_211 ui_X9_asItIs us_RX9_X9_asItIs un_RX9) rfl rfl rfl ud_X9_asItIs ⟨Nat.le_of_ble_eq_true rfl, Nat.le_of_ble_eq_true rfl⟩) w rfl hl.1 rfl (Nat.le_of_ble_eq_true rfl) dX9_beside_21 (fun H locs w => ?_)
      refine lv_iconst (v := (0 : Int32)) hx hb dX9_beside_24 (by decide) ?_
      obtain ⟨x3_618, ex3_618, h⟩ := lt_e h
      refine top_i ex3_618 ?_
      refine lv_istore_n (lv' := [(3, .int x3_618), (0, .ref (ad 100)), (1, .int a1), (2, .int a2)]) hx hb dX9_beside_25 rfl hl (by decide) rfl (fun ls hl => ?_)
      refine lv_iconst (v := (0 : Int32)) hx hb dX9_beside_26 (by decide) ?_
      obtain ⟨x4_619, ex4_619, h⟩ := lt_e h
      refine top_i ex4_619 ?_
      refine lv_istore (lv' := [(4, .int x4_619), (3, .int x3_618), (0, .ref (ad 100)), (1, .int a1), (2, .int a2)]) hx hb dX9_beside_27 hl (by decide) rfl (fun ls hl => ?_)
      exact L29  4000 a1 a2 x3_618 x4_619 S_615 h _ _ _ (lv_sub hl [2, 3, 4, 1, 0] rfl) w
    · have h := br_p q h
      exact J18   S_612 h _ _ _ (lv_sub hl [] rfl) w
def mm_isTape (S : MS) (a1 : Int32) : Option (Int32 × MS) := bd (mm_in S a1 (0 : Int32) (5 : Int32)) (fun r_102 S_101 => ck (z01 r_102) (some (r_102, S_101)))
abbrev wu_X9_isTape : List Cond := .code yX9_isTape cX9_isTape 2 (some .boolean) :: wsL_law
theorem ud_X9_isTape : yX9_isTape.cls = RX9 ∧ yX9_isTape.cls ≠ "java/lang/invoke/MethodHandle" ∧ yX9_isTape.cls ≠ "java/lang/invoke/VarHandle" ∧ (parseMethodDescriptor yX9_isTape.desc).map (fun d => d.parameters.length) = some 1 := by decide +kernel
abbrev rmX9_isTape : Room := { frames := 1, cells := 0, slots := 0, locals := 23 }
set_option maxHeartbeats 4000000 in
set_option maxRecDepth 100000 in
theorem cc_isTape (l : Launch) (D : va_G) (cs : Nat → ClassId) (ad : Nat → Nat) (S T : MS) (a1 : Int32) (r0 : Int32) (h : mm_isTape S a1 = some (r0, T)) : MetI l yX9_isTape wu_X9_isTape rmX9_isTape D cs ad [.int a1] S T r0 := by
  refine mo_I (ty := .boolean) (cc := cX9_isTape) (maxL := 2) ⟨by decide, rfl⟩ rfl (Nat.le_of_ble_eq_true rfl) ?_
  intro p e s m args below meth c ls cx hl w
  have hx := cx.1
  have hb := cx.2.1
  have hts := cx.2.2.2.1
  have hown := cx.2.2.2.2.1
  have hl : lv_has ls 2 [(0, .ref (ad 100)), (1, .int a1)] := hl
  unfold mm_isTape at h
  refine lv_aload_n hx hb dX9_isTape_0 rfl (lv_at hl 0 rfl) ?_
  refine lv_iload_n hx hb dX9_isTape_1 rfl (lv_at hl 1 rfl) ?_
  refine lv_iconst (v := (0 : Int32)) hx hb dX9_isTape_2 (by decide) ?_
  refine lv_iconst (v := (5 : Int32)) hx hb dX9_isTape_3 (by decide) ?_
  obtain ⟨r_102, S_101, hc_103, h⟩ := bd_e h
  refine mw_calli (As := [.int a1, .int (0 : Int32), .int (5 : Int32)]) (rest := []) cx (cc_in l D cs ad S S_101 a1 (0 : Int32) (5 : Int32) r_102 hc_103) (cwV 3 hts (uG uw_X9_in ul_RX9_133 ui_X9_in us_RX9_X9_in un_RX9) rfl rfl rfl ud_X9_in ⟨Nat.le_of_ble_eq_true rfl, Nat.le_of_ble_eq_true rfl⟩) w rfl hl.1 rfl (Nat.le_of_ble_eq_true rfl) dX9_isTape_4 (fun H locs w => ?_)
  obtain ⟨hq_104, h⟩ := ck_e h
  exact mw_zret cx (z01_e hq_104) (rt_e h) w dX9_isTape_7
def mm_way_20  (S : MS) : Option (Int32 × MS) := some ((-1 : Int32), S)
def mm_way_168 (k55 : Int32 → Int32 → Int32 → Int32 → Int32 → Int32 → MS → Option (Int32 × MS)) (k75 : Int32 → Int32 → Int32 → Int32 → Int32 → Int32 → Int32 → Int32 → MS → Option (Int32 × MS)) (x1 : Int32) (x2 : Int32) (x5 : Int32) (x6 : Int32) (x7 : Int32) (x8 : Int32) (x9 : Int32) (x10 : Int32) (S : MS) : Option (Int32 × MS) := lt_ (x10 + (1 : Int32)) (fun x10_201 => k75 x1 x2 x5 x6 x7 x8 x9 x10_201 S)
def mm_way_127 (x7 : Int32) (S : MS) : Option (Int32 × MS) := some (((100 : Int32) + x7), S)
def mm_way_224 (k55 : Int32 → Int32 → Int32 → Int32 → Int32 → Int32 → MS → Option (Int32 × MS)) (x1 : Int32) (x2 : Int32) (x5 : Int32) (x6 : Int32) (x7 : Int32) (S : MS) : Option (Int32 × MS) := lt_ ((0 : Int32)) (fun x8_402 => if x7 = (0 : Int32) then (some ((0 : Int32), S)) else (k55 x1 x2 x5 x6 x7 x8_402 S))
def mm_way_185 (k55 : Int32 → Int32 → Int32 → Int32 → Int32 → Int32 → MS → Option (Int32 × MS)) (k185 : Int32 → Int32 → Int32 → Int32 → Int32 → Int32 → Int32 → Int32 → MS → Option (Int32 × MS)) (x1 : Int32) (x2 : Int32) (x5 : Int32) (x6 : Int32) (x7 : Int32) (x8 : Int32) (x9 : Int32) (x10 : Int32) (S : MS) : Option (Int32 × MS) := if x10 < (0 : Int32) then (mm_way_224 k55 x1 x2 x5 x6 x7 S) else (if x8 = (1 : Int32) then (mm_way_224 k55 x1 x2 x5 x6 x7 S) else (ck (vin (((4 : Int32) * x9) + x10) 56) (ck (vin x6 100) (lt_ (mR S 33 (x6).toNatClampNeg (S.2.1 8 ((((4 : Int32) * x9) + x10)).toNatClampNeg)) (fun S_505 => lt_ (x6 + (1 : Int32)) (fun x6_506 => lt_ (x10 + (-1 : Int32)) (fun x10_507 => k185 x1 x2 x5 x6_506 x7 x8 x9 x10_507 S_505)))))))
def mm_way_185L (k55 : Int32 → Int32 → Int32 → Int32 → Int32 → Int32 → MS → Option (Int32 × MS)) : Nat → Int32 → Int32 → Int32 → Int32 → Int32 → Int32 → Int32 → Int32 → MS → Option (Int32 × MS)
  | 0, _, _, _, _, _, _, _, _, _ => none
  | n + 1, x1, x2, x5, x6, x7, x8, x9, x10, S => mm_way_185 k55 (mm_way_185L k55 n) x1 x2 x5 x6 x7 x8 x9 x10 S
def mm_way_75 (k55 : Int32 → Int32 → Int32 → Int32 → Int32 → Int32 → MS → Option (Int32 × MS)) (k75 : Int32 → Int32 → Int32 → Int32 → Int32 → Int32 → Int32 → Int32 → MS → Option (Int32 × MS)) (x1 : Int32) (x2 : Int32) (x5 : Int32) (x6 : Int32) (x7 : Int32) (x8 : Int32) (x9 : Int32) (x10 : Int32) (S : MS) : Option (Int32 × MS) := if (S.1 9) ≤ x10 then (ck (vin x9 14) (lt_ (((S.2.1 7 (x9).toNatClampNeg) - (1 : Int32))) (fun x10_609 => mm_way_185L k55 4000 x1 x2 x5 x6 x7 x8 x9 x10_609 S))) else (ck (vin x10 10) (if (S.2.1 13 (x10).toNatClampNeg) = x5 then (ck (vin x1 6) (if (S.2.1 36 (x1).toNatClampNeg) < (0 : Int32) then (mm_way_127  x7 S) else (if x2 < (0 : Int32) then (mm_way_127  x7 S) else (ck (vin x1 6) (if x2 ≤ (((S.2.1 37 (x1).toNatClampNeg) - x7) - (1 : Int32)) then (ck (vin ((((60 : Int32) * x1) + x2) + x7) 360) (bd (mm_wayOf S x10 x9 x8) (fun r_615 S_614 => if (lg_cmp (S.2.2 38 (((((60 : Int32) * x1) + x2) + x7)).toNatClampNeg) (r_615).toInt64) = (0 : Int32) then (lt_ (x7 + (1 : Int32)) (fun x7_617 => mm_way_168 k55 k75 x1 x2 x5 x6 x7_617 x8 x9 x10 S_614)) else (some (x7, S_614))))) else (mm_way_127  x7 S)))))) else (mm_way_168 k55 k75 x1 x2 x5 x6 x7 x8 x9 x10 S)))
def mm_way_75L (k55 : Int32 → Int32 → Int32 → Int32 → Int32 → Int32 → MS → Option (Int32 × MS)) : Nat → Int32 → Int32 → Int32 → Int32 → Int32 → Int32 → Int32 → Int32 → MS → Option (Int32 × MS)
  | 0, _, _, _, _, _, _, _, _, _ => none
  | n + 1, x1, x2, x5, x6, x7, x8, x9, x10, S => mm_way_75 k55 (mm_way_75L k55 n) x1 x2 x5 x6 x7 x8 x9 x10 S
def mm_way_55 (k55 : Int32 → Int32 → Int32 → Int32 → Int32 → Int32 → MS → Option (Int32 × MS)) (x1 : Int32) (x2 : Int32) (x5 : Int32) (x6 : Int32) (x7 : Int32) (x8 : Int32) (S : MS) : Option (Int32 × MS) := if x6 ≤ (0 : Int32) then (some (x7, S)) else (lt_ (x6 + (-1 : Int32)) (fun x6_718 => ck (vin x6_718 100) (lt_ ((S.2.1 33 (x6_718).toNatClampNeg)) (fun x9_720 => lt_ ((0 : Int32)) (fun x10_721 => mm_way_75L k55 4000 x1 x2 x5 x6_718 x7 x8 x9_720 x10_721 S)))))
def mm_way_55L : Nat → Int32 → Int32 → Int32 → Int32 → Int32 → Int32 → MS → Option (Int32 × MS)
  | 0, _, _, _, _, _, _, _ => none
  | n + 1, x1, x2, x5, x6, x7, x8, S => mm_way_55  (mm_way_55L  n) x1 x2 x5 x6 x7 x8 S
def mm_way (S : MS) (a1 : Int32) (a2 : Int32) (a3 : Int32) (a4 : Int32) (a5 : Int32) : Option (Int32 × MS) := bd (mm_isTape S a1) (fun r_823 S_822 => if r_823 = (0 : Int32) then (mm_way_20   S_822) else (bd (mm_isLayer S_822 a3 a4 a5) (fun r_826 S_825 => if r_826 = (0 : Int32) then (mm_way_20   S_825) else (ck (vin a1 6) (if (S_825.2.1 36 (a1).toNatClampNeg) ≤ (0 : Int32) then (bd (mm_asItIs S_825 ) (fun _ S_829 => lt_ ((1 : Int32)) (fun x6_832 => lt_ ((0 : Int32)) (fun x7_833 => ck (vin (0 : Int32) 100) (lt_ (mR S_829 33 ((0 : Int32)).toNatClampNeg a3) (fun S_835 => mm_way_55L  4000 a1 a2 a5 x6_832 x7_833 a4 S_835)))))) else (some ((-12 : Int32), S_825)))))))
abbrev wu_X9_way : List Cond := .code yX9_way cX9_way 11 (some .int) :: wsL_law
theorem ud_X9_way : yX9_way.cls = RX9 ∧ yX9_way.cls ≠ "java/lang/invoke/MethodHandle" ∧ yX9_way.cls ≠ "java/lang/invoke/VarHandle" ∧ (parseMethodDescriptor yX9_way.desc).map (fun d => d.parameters.length) = some 5 := by decide +kernel
abbrev rmX9_way : Room := { frames := 5, cells := 0, slots := 0, locals := 122 }
set_option maxHeartbeats 4000000 in
set_option maxRecDepth 100000 in
theorem cc_way (l : Launch) (D : va_G) (cs : Nat → ClassId) (ad : Nat → Nat) (S T : MS) (a1 : Int32) (a2 : Int32) (a3 : Int32) (a4 : Int32) (a5 : Int32) (r0 : Int32) (h : mm_way S a1 a2 a3 a4 a5 = some (r0, T)) : MetI l yX9_way wu_X9_way rmX9_way D cs ad [.int a1, .int a2, .int a3, .int a4, .int a5] S T r0 := by
  refine mo_I (ty := .int) (cc := cX9_way) (maxL := 11) ⟨by decide, rfl⟩ rfl (Nat.le_of_ble_eq_true rfl) ?_
  intro p e s m args below meth c ls cx hl w
  have hx := cx.1
  have hb := cx.2.1
  have hts := cx.2.2.2.1
  have hown := cx.2.2.2.2.1
  have hin : ∀ w ∈ wsX90, w ∈ wu_X9_way := fun _ hq => List.mem_cons_of_mem _ (inlX9 _ hq)
  have hl : lv_has ls 11 [(0, .ref (ad 100)), (1, .int a1), (2, .int a2), (3, .int a3), (4, .int a4), (5, .int a5)] := hl
  have J20 : ∀  (S : MS), mm_way_20   S = some (r0, T) → mGo p l e rmX9_way s m args below meth c 11 D cs ad (mQI below D cs ad args s r0 T) 20 [] [] S := by
    intro  S h H locs ls hl w
    unfold mm_way_20 at h
    refine lv_iconst (v := (-1 : Int32)) hx hb dX9_way_20 (by decide) ?_
    exact mw_iret cx (rt_e h) w dX9_way_21
  have J168 : ∀ (k55 : Int32 → Int32 → Int32 → Int32 → Int32 → Int32 → MS → Option (Int32 × MS)) (hk55 : ∀ (x1 : Int32) (x2 : Int32) (x5 : Int32) (x6 : Int32) (x7 : Int32) (x8 : Int32) (S : MS), k55 x1 x2 x5 x6 x7 x8 S = some (r0, T) → mGo p l e rmX9_way s m args below meth c 11 D cs ad (mQI below D cs ad args s r0 T) 55 [(0, .ref (ad 100)), (1, .int x1), (2, .int x2), (5, .int x5), (6, .int x6), (7, .int x7), (8, .int x8)] [] S) (k75 : Int32 → Int32 → Int32 → Int32 → Int32 → Int32 → Int32 → Int32 → MS → Option (Int32 × MS)) (hk75 : ∀ (x1 : Int32) (x2 : Int32) (x5 : Int32) (x6 : Int32) (x7 : Int32) (x8 : Int32) (x9 : Int32) (x10 : Int32) (S : MS), k75 x1 x2 x5 x6 x7 x8 x9 x10 S = some (r0, T) → mGo p l e rmX9_way s m args below meth c 11 D cs ad (mQI below D cs ad args s r0 T) 75 [(0, .ref (ad 100)), (1, .int x1), (2, .int x2), (5, .int x5), (6, .int x6), (7, .int x7), (8, .int x8), (9, .int x9), (10, .int x10)] [] S) (x1 : Int32) (x2 : Int32) (x5 : Int32) (x6 : Int32) (x7 : Int32) (x8 : Int32) (x9 : Int32) (x10 : Int32) (S : MS), mm_way_168 k55 k75 x1 x2 x5 x6 x7 x8 x9 x10 S = some (r0, T) → mGo p l e rmX9_way s m args below meth c 11 D cs ad (mQI below D cs ad args s r0 T) 168 [(0, .ref (ad 100)), (1, .int x1), (2, .int x2), (5, .int x5), (6, .int x6), (7, .int x7), (8, .int x8), (9, .int x9), (10, .int x10)] [] S := by
    intro k55 hk55 k75 hk75 x1 x2 x5 x6 x7 x8 x9 x10 S h H locs ls hl w
    unfold mm_way_168 at h
    obtain ⟨x10_201, ex10_201, h⟩ := lt_e h
    refine lv_iinc (v := x10_201) (lv' := [(10, .int x10_201), (0, .ref (ad 100)), (1, .int x1), (2, .int x2), (5, .int x5), (6, .int x6), (7, .int x7), (8, .int x8), (9, .int x9)]) hx hb dX9_way_168 hl (k := 8) rfl (by rw [ex10_201]; rfl) (by decide) rfl (fun ls hl => ?_)
    refine lv_goto (tgt := 75) hx hb dX9_way_171 (by decide) ?_
    exact hk75 x1 x2 x5 x6 x7 x8 x9 x10_201 S h _ _ _ (lv_sub hl [1, 2, 3, 4, 5, 6, 7, 8, 0] rfl) w
  have J127 : ∀ (x7 : Int32) (S : MS), mm_way_127  x7 S = some (r0, T) → mGo p l e rmX9_way s m args below meth c 11 D cs ad (mQI below D cs ad args s r0 T) 127 [(7, .int x7)] [] S := by
    intro x7 S h H locs ls hl w
    unfold mm_way_127 at h
    refine lv_bipush (v := (100 : Int32)) hx hb dX9_way_127 (by decide) ?_
    refine lv_iload hx hb dX9_way_129 (lv_at hl 0 rfl) ?_
    refine lv_iadd hx hb dX9_way_131 ?_
    exact mw_iret cx (rt_e h) w dX9_way_132
  have J224 : ∀ (k55 : Int32 → Int32 → Int32 → Int32 → Int32 → Int32 → MS → Option (Int32 × MS)) (hk55 : ∀ (x1 : Int32) (x2 : Int32) (x5 : Int32) (x6 : Int32) (x7 : Int32) (x8 : Int32) (S : MS), k55 x1 x2 x5 x6 x7 x8 S = some (r0, T) → mGo p l e rmX9_way s m args below meth c 11 D cs ad (mQI below D cs ad args s r0 T) 55 [(0, .ref (ad 100)), (1, .int x1), (2, .int x2), (5, .int x5), (6, .int x6), (7, .int x7), (8, .int x8)] [] S) (x1 : Int32) (x2 : Int32) (x5 : Int32) (x6 : Int32) (x7 : Int32) (S : MS), mm_way_224 k55 x1 x2 x5 x6 x7 S = some (r0, T) → mGo p l e rmX9_way s m args below meth c 11 D cs ad (mQI below D cs ad args s r0 T) 224 [(0, .ref (ad 100)), (1, .int x1), (2, .int x2), (5, .int x5), (6, .int x6), (7, .int x7)] [] S := by
    intro k55 hk55 x1 x2 x5 x6 x7 S h H locs ls hl w
    unfold mm_way_224 at h
    refine lv_iconst (v := (0 : Int32)) hx hb dX9_way_224 (by decide) ?_
    obtain ⟨x8_402, ex8_402, h⟩ := lt_e h
    refine top_i ex8_402 ?_
    refine lv_istore (lv' := [(8, .int x8_402), (0, .ref (ad 100)), (1, .int x1), (2, .int x2), (5, .int x5), (6, .int x6), (7, .int x7)]) hx hb dX9_way_225 hl (by decide) rfl (fun ls hl => ?_)
    refine lv_iload hx hb dX9_way_227 (lv_at hl 6 rfl) ?_
    refine lv_if_ne (tgt := 234) hx hb dX9_way_229 (by decide) (fun q => ?_) (fun q => ?_)
    · have h := br_n q h
      refine lv_goto (tgt := 55) hx hb dX9_way_234 (by decide) ?_
      exact hk55 x1 x2 x5 x6 x7 x8_402 S h _ _ _ (lv_sub hl [1, 2, 3, 4, 5, 6, 0] rfl) w
    · have h := br_p q h
      refine lv_iconst (v := (0 : Int32)) hx hb dX9_way_232 (by decide) ?_
      exact mw_iret cx (rt_e h) w dX9_way_233
  have L185 : ∀ (k55 : Int32 → Int32 → Int32 → Int32 → Int32 → Int32 → MS → Option (Int32 × MS)) (hk55 : ∀ (x1 : Int32) (x2 : Int32) (x5 : Int32) (x6 : Int32) (x7 : Int32) (x8 : Int32) (S : MS), k55 x1 x2 x5 x6 x7 x8 S = some (r0, T) → mGo p l e rmX9_way s m args below meth c 11 D cs ad (mQI below D cs ad args s r0 T) 55 [(0, .ref (ad 100)), (1, .int x1), (2, .int x2), (5, .int x5), (6, .int x6), (7, .int x7), (8, .int x8)] [] S) (n : Nat) (x1 : Int32) (x2 : Int32) (x5 : Int32) (x6 : Int32) (x7 : Int32) (x8 : Int32) (x9 : Int32) (x10 : Int32) (S : MS), mm_way_185L k55 n x1 x2 x5 x6 x7 x8 x9 x10 S = some (r0, T) → mGo p l e rmX9_way s m args below meth c 11 D cs ad (mQI below D cs ad args s r0 T) 185 [(0, .ref (ad 100)), (1, .int x1), (2, .int x2), (5, .int x5), (6, .int x6), (7, .int x7), (8, .int x8), (9, .int x9), (10, .int x10)] [] S := by
    intro k55 hk55 n
    induction n with
    | zero =>
      intro x1 x2 x5 x6 x7 x8 x9 x10 S h
      have h : none = some (r0, T) := h
      cases h
    | succ n hk185 =>
      intro x1 x2 x5 x6 x7 x8 x9 x10 S h H locs ls hl w
      have h : mm_way_185 k55 (mm_way_185L k55 n) x1 x2 x5 x6 x7 x8 x9 x10 S = some (r0, T) := h
      generalize mm_way_185L k55 n = k185 at h hk185
      unfold mm_way_185 at h
      refine lv_iload hx hb dX9_way_185 (lv_at hl 8 rfl) ?_
      refine lv_if_lt (tgt := 224) hx hb dX9_way_187 (by decide) (fun q => ?_) (fun q => ?_)
      · have h := br_p q h
        exact J224 k55 hk55 x1 x2 x5 x6 x7 S h _ _ _ (lv_sub hl [0, 1, 2, 3, 4, 5] rfl) w
      · have h := br_n q h
        refine lv_iload hx hb dX9_way_190 (lv_at hl 6 rfl) ?_
        refine lv_iconst (v := (1 : Int32)) hx hb dX9_way_192 (by decide) ?_
        refine lv_icmp_eq (tgt := 224) hx hb dX9_way_193 (by decide) (fun q => ?_) (fun q => ?_)
        · have h := br_p q h
          exact J224 k55 hk55 x1 x2 x5 x6 x7 S h _ _ _ (lv_sub hl [0, 1, 2, 3, 4, 5] rfl) w
        · have h := br_n q h
          refine lv_aload_n hx hb dX9_way_196 rfl (lv_at hl 0 rfl) ?_
          refine mw_getR cx hin w 33 (by decide) (List.mem_cons_of_mem _ uf_RX9_111) dX9_way_197 ?_
          refine lv_iload hx hb dX9_way_200 (lv_at hl 4 rfl) ?_
          refine lv_aload_n hx hb dX9_way_202 rfl (lv_at hl 0 rfl) ?_
          refine mw_getR cx hin w 8 (by decide) (List.mem_cons_of_mem _ uf_RX9_35) dX9_way_203 ?_
          refine lv_iconst (v := (4 : Int32)) hx hb dX9_way_206 (by decide) ?_
          refine lv_iload hx hb dX9_way_207 (lv_at hl 7 rfl) ?_
          refine lv_imul hx hb dX9_way_209 ?_
          refine lv_iload hx hb dX9_way_210 (lv_at hl 8 rfl) ?_
          refine lv_iadd hx hb dX9_way_212 ?_
          obtain ⟨hq_503, h⟩ := ck_e h
          refine mw_iald cx w 5 8 56 (by decide) hq_503 dX9_way_213 ?_
          obtain ⟨hq_504, h⟩ := ck_e h
          obtain ⟨S_505, eS_505, h⟩ := lt_e h
          refine mw_iast cx w 21 33 100 (by decide) hq_504 eS_505 dX9_way_214 (fun H locs w => ?_)
          obtain ⟨x6_506, ex6_506, h⟩ := lt_e h
          refine lv_iinc (v := x6_506) (lv' := [(6, .int x6_506), (0, .ref (ad 100)), (1, .int x1), (2, .int x2), (5, .int x5), (7, .int x7), (8, .int x8), (9, .int x9), (10, .int x10)]) hx hb dX9_way_215 hl (k := 4) rfl (by rw [ex6_506]; rfl) (by decide) rfl (fun ls hl => ?_)
          obtain ⟨x10_507, ex10_507, h⟩ := lt_e h
          refine lv_iinc (v := x10_507) (lv' := [(10, .int x10_507), (6, .int x6_506), (0, .ref (ad 100)), (1, .int x1), (2, .int x2), (5, .int x5), (7, .int x7), (8, .int x8), (9, .int x9)]) hx hb dX9_way_218 hl (k := 8) rfl (by rw [ex10_507]; rfl) (by decide) rfl (fun ls hl => ?_)
          refine lv_goto (tgt := 185) hx hb dX9_way_221 (by decide) ?_
          exact hk185 x1 x2 x5 x6_506 x7 x8 x9 x10_507 S_505 h _ _ _ (lv_sub hl [2, 3, 4, 5, 1, 6, 7, 8, 0] rfl) w
  have L75 : ∀ (k55 : Int32 → Int32 → Int32 → Int32 → Int32 → Int32 → MS → Option (Int32 × MS)) (hk55 : ∀ (x1 : Int32) (x2 : Int32) (x5 : Int32) (x6 : Int32) (x7 : Int32) (x8 : Int32) (S : MS), k55 x1 x2 x5 x6 x7 x8 S = some (r0, T) → mGo p l e rmX9_way s m args below meth c 11 D cs ad (mQI below D cs ad args s r0 T) 55 [(0, .ref (ad 100)), (1, .int x1), (2, .int x2), (5, .int x5), (6, .int x6), (7, .int x7), (8, .int x8)] [] S) (n : Nat) (x1 : Int32) (x2 : Int32) (x5 : Int32) (x6 : Int32) (x7 : Int32) (x8 : Int32) (x9 : Int32) (x10 : Int32) (S : MS), mm_way_75L k55 n x1 x2 x5 x6 x7 x8 x9 x10 S = some (r0, T) → mGo p l e rmX9_way s m args below meth c 11 D cs ad (mQI below D cs ad args s r0 T) 75 [(0, .ref (ad 100)), (1, .int x1), (2, .int x2), (5, .int x5), (6, .int x6), (7, .int x7), (8, .int x8), (9, .int x9), (10, .int x10)] [] S := by
    intro k55 hk55 n
    induction n with
    | zero =>
      intro x1 x2 x5 x6 x7 x8 x9 x10 S h
      have h : none = some (r0, T) := h
      cases h
    | succ n hk75 =>
      intro x1 x2 x5 x6 x7 x8 x9 x10 S h H locs ls hl w
      have h : mm_way_75 k55 (mm_way_75L k55 n) x1 x2 x5 x6 x7 x8 x9 x10 S = some (r0, T) := h
      generalize mm_way_75L k55 n = k75 at h hk75
      unfold mm_way_75 at h
      refine lv_iload hx hb dX9_way_75 (lv_at hl 8 rfl) ?_
      refine lv_aload_n hx hb dX9_way_77 rfl (lv_at hl 0 rfl) ?_
      refine mw_getI cx hin w 9 (by decide) (List.mem_cons_of_mem _ uf_RX9_38) dX9_way_78 ?_
      refine lv_icmp_ge (tgt := 174) hx hb dX9_way_81 (by decide) (fun q => ?_) (fun q => ?_)
      · have h := br_p q h
        refine lv_aload_n hx hb dX9_way_174 rfl (lv_at hl 0 rfl) ?_
        refine mw_getR cx hin w 7 (by decide) (List.mem_cons_of_mem _ uf_RX9_32) dX9_way_175 ?_
        refine lv_iload hx hb dX9_way_178 (lv_at hl 7 rfl) ?_
        obtain ⟨hq_608, h⟩ := ck_e h
        refine mw_iald cx w 4 7 14 (by decide) hq_608 dX9_way_180 ?_
        refine lv_iconst (v := (1 : Int32)) hx hb dX9_way_181 (by decide) ?_
        refine lv_isub hx hb dX9_way_182 ?_
        obtain ⟨x10_609, ex10_609, h⟩ := lt_e h
        refine top_i ex10_609 ?_
        refine lv_istore (lv' := [(10, .int x10_609), (0, .ref (ad 100)), (1, .int x1), (2, .int x2), (5, .int x5), (6, .int x6), (7, .int x7), (8, .int x8), (9, .int x9)]) hx hb dX9_way_183 hl (by decide) rfl (fun ls hl => ?_)
        exact L185 k55 hk55 4000 x1 x2 x5 x6 x7 x8 x9 x10_609 S h _ _ _ (lv_sub hl [1, 2, 3, 4, 5, 6, 7, 8, 0] rfl) w
      · have h := br_n q h
        refine lv_aload_n hx hb dX9_way_84 rfl (lv_at hl 0 rfl) ?_
        refine mw_getR cx hin w 13 (by decide) (List.mem_cons_of_mem _ uf_RX9_50) dX9_way_85 ?_
        refine lv_iload hx hb dX9_way_88 (lv_at hl 8 rfl) ?_
        obtain ⟨hq_610, h⟩ := ck_e h
        refine mw_iald cx w 7 13 10 (by decide) hq_610 dX9_way_90 ?_
        refine lv_iload hx hb dX9_way_91 (lv_at hl 3 rfl) ?_
        refine lv_icmp_eq (tgt := 99) hx hb dX9_way_93 (by decide) (fun q => ?_) (fun q => ?_)
        · have h := br_p q h
          refine lv_aload_n hx hb dX9_way_99 rfl (lv_at hl 0 rfl) ?_
          refine mw_getR cx hin w 36 (by decide) (List.mem_cons_of_mem _ uf_RX9_120) dX9_way_100 ?_
          refine lv_iload_n hx hb dX9_way_103 rfl (lv_at hl 1 rfl) ?_
          obtain ⟨hq_611, h⟩ := ck_e h
          refine mw_iald cx w 23 36 6 (by decide) hq_611 dX9_way_104 ?_
          refine lv_if_lt (tgt := 127) hx hb dX9_way_105 (by decide) (fun q => ?_) (fun q => ?_)
          · have h := br_p q h
            exact J127  x7 S h _ _ _ (lv_sub hl [5] rfl) w
          · have h := br_n q h
            refine lv_iload_n hx hb dX9_way_108 rfl (lv_at hl 2 rfl) ?_
            refine lv_if_lt (tgt := 127) hx hb dX9_way_109 (by decide) (fun q => ?_) (fun q => ?_)
            · have h := br_p q h
              exact J127  x7 S h _ _ _ (lv_sub hl [5] rfl) w
            · have h := br_n q h
              refine lv_iload_n hx hb dX9_way_112 rfl (lv_at hl 2 rfl) ?_
              refine lv_aload_n hx hb dX9_way_113 rfl (lv_at hl 0 rfl) ?_
              refine mw_getR cx hin w 37 (by decide) (List.mem_cons_of_mem _ uf_RX9_123) dX9_way_114 ?_
              refine lv_iload_n hx hb dX9_way_117 rfl (lv_at hl 1 rfl) ?_
              obtain ⟨hq_612, h⟩ := ck_e h
              refine mw_iald cx w 24 37 6 (by decide) hq_612 dX9_way_118 ?_
              refine lv_iload hx hb dX9_way_119 (lv_at hl 5 rfl) ?_
              refine lv_isub hx hb dX9_way_121 ?_
              refine lv_iconst (v := (1 : Int32)) hx hb dX9_way_122 (by decide) ?_
              refine lv_isub hx hb dX9_way_123 ?_
              refine lv_icmp_le (tgt := 133) hx hb dX9_way_124 (by decide) (fun q => ?_) (fun q => ?_)
              · have h := br_p q h
                refine lv_aload_n hx hb dX9_way_133 rfl (lv_at hl 0 rfl) ?_
                refine mw_getR cx hin w 38 (by decide) (List.mem_cons_of_mem _ uf_RX9_126) dX9_way_134 ?_
                refine lv_bipush (v := (60 : Int32)) hx hb dX9_way_137 (by decide) ?_
                refine lv_iload_n hx hb dX9_way_139 rfl (lv_at hl 1 rfl) ?_
                refine lv_imul hx hb dX9_way_140 ?_
                refine lv_iload_n hx hb dX9_way_141 rfl (lv_at hl 2 rfl) ?_
                refine lv_iadd hx hb dX9_way_142 ?_
                refine lv_iload hx hb dX9_way_143 (lv_at hl 5 rfl) ?_
                refine lv_iadd hx hb dX9_way_145 ?_
                obtain ⟨hq_613, h⟩ := ck_e h
                refine mw_lald cx w 25 38 360 (by decide) hq_613 dX9_way_146 ?_
                refine lv_aload_n hx hb dX9_way_147 rfl (lv_at hl 0 rfl) ?_
                refine lv_iload hx hb dX9_way_148 (lv_at hl 8 rfl) ?_
                refine lv_iload hx hb dX9_way_150 (lv_at hl 7 rfl) ?_
                refine lv_iload hx hb dX9_way_152 (lv_at hl 6 rfl) ?_
                obtain ⟨r_615, S_614, hc_616, h⟩ := bd_e h
                refine mw_calli (As := [.int x10, .int x9, .int x8]) (rest := [.long (S.2.2 38 (((((60 : Int32) * x1) + x2) + x7)).toNatClampNeg)]) cx (cc_wayOf l D cs ad S S_614 x10 x9 x8 r_615 hc_616) (cwV 3 hts (uG uw_X9_wayOf ul_RX9_220 ui_X9_wayOf us_RX9_X9_wayOf un_RX9) rfl rfl rfl ud_X9_wayOf ⟨Nat.le_of_ble_eq_true rfl, Nat.le_of_ble_eq_true rfl⟩) w rfl hl.1 rfl (Nat.le_of_ble_eq_true rfl) dX9_way_154 (fun H locs w => ?_)
                refine lv_i2l hx hb dX9_way_157 rfl ?_
                refine W.lcmp hx hb dX9_way_158 ?_
                refine lv_if_eq (tgt := 165) hx hb dX9_way_159 (by decide) (fun q => ?_) (fun q => ?_)
                · have h := br_p q h
                  obtain ⟨x7_617, ex7_617, h⟩ := lt_e h
                  refine lv_iinc (v := x7_617) (lv' := [(7, .int x7_617), (0, .ref (ad 100)), (1, .int x1), (2, .int x2), (5, .int x5), (6, .int x6), (8, .int x8), (9, .int x9), (10, .int x10)]) hx hb dX9_way_165 hl (k := 5) rfl (by rw [ex7_617]; rfl) (by decide) rfl (fun ls hl => ?_)
                  exact J168 k55 hk55 k75 hk75 x1 x2 x5 x6 x7_617 x8 x9 x10 S_614 h _ _ _ (lv_sub hl [1, 2, 3, 4, 5, 0, 6, 7, 8] rfl) w
                · have h := br_n q h
                  refine lv_iload hx hb dX9_way_162 (lv_at hl 5 rfl) ?_
                  exact mw_iret cx (rt_e h) w dX9_way_164
              · have h := br_n q h
                exact J127  x7 S h _ _ _ (lv_sub hl [5] rfl) w
        · have h := br_n q h
          refine lv_goto (tgt := 168) hx hb dX9_way_96 (by decide) ?_
          exact J168 k55 hk55 k75 hk75 x1 x2 x5 x6 x7 x8 x9 x10 S h _ _ _ (lv_sub hl [0, 1, 2, 3, 4, 5, 6, 7, 8] rfl) w
  have L55 : ∀ (n : Nat) (x1 : Int32) (x2 : Int32) (x5 : Int32) (x6 : Int32) (x7 : Int32) (x8 : Int32) (S : MS), mm_way_55L  n x1 x2 x5 x6 x7 x8 S = some (r0, T) → mGo p l e rmX9_way s m args below meth c 11 D cs ad (mQI below D cs ad args s r0 T) 55 [(0, .ref (ad 100)), (1, .int x1), (2, .int x2), (5, .int x5), (6, .int x6), (7, .int x7), (8, .int x8)] [] S := by
    intro n
    induction n with
    | zero =>
      intro x1 x2 x5 x6 x7 x8 S h
      have h : none = some (r0, T) := h
      cases h
    | succ n hk55 =>
      intro x1 x2 x5 x6 x7 x8 S h H locs ls hl w
      have h : mm_way_55  (mm_way_55L  n) x1 x2 x5 x6 x7 x8 S = some (r0, T) := h
      generalize mm_way_55L  n = k55 at h hk55
      unfold mm_way_55 at h
      refine lv_iload hx hb dX9_way_55 (lv_at hl 4 rfl) ?_
      refine lv_if_le (tgt := 237) hx hb dX9_way_57 (by decide) (fun q => ?_) (fun q => ?_)
      · have h := br_p q h
        refine lv_iload hx hb dX9_way_237 (lv_at hl 5 rfl) ?_
        exact mw_iret cx (rt_e h) w dX9_way_239
      · have h := br_n q h
        obtain ⟨x6_718, ex6_718, h⟩ := lt_e h
        refine lv_iinc (v := x6_718) (lv' := [(6, .int x6_718), (0, .ref (ad 100)), (1, .int x1), (2, .int x2), (5, .int x5), (7, .int x7), (8, .int x8)]) hx hb dX9_way_60 hl (k := 4) rfl (by rw [ex6_718]; rfl) (by decide) rfl (fun ls hl => ?_)
        refine lv_aload_n hx hb dX9_way_63 rfl (lv_at hl 1 rfl) ?_
        refine mw_getR cx hin w 33 (by decide) (List.mem_cons_of_mem _ uf_RX9_111) dX9_way_64 ?_
        refine lv_iload hx hb dX9_way_67 (lv_at hl 0 rfl) ?_
        obtain ⟨hq_719, h⟩ := ck_e h
        refine mw_iald cx w 21 33 100 (by decide) hq_719 dX9_way_69 ?_
        obtain ⟨x9_720, ex9_720, h⟩ := lt_e h
        refine top_i ex9_720 ?_
        refine lv_istore (lv' := [(9, .int x9_720), (6, .int x6_718), (0, .ref (ad 100)), (1, .int x1), (2, .int x2), (5, .int x5), (7, .int x7), (8, .int x8)]) hx hb dX9_way_70 hl (by decide) rfl (fun ls hl => ?_)
        refine lv_iconst (v := (0 : Int32)) hx hb dX9_way_72 (by decide) ?_
        obtain ⟨x10_721, ex10_721, h⟩ := lt_e h
        refine top_i ex10_721 ?_
        refine lv_istore (lv' := [(10, .int x10_721), (9, .int x9_720), (6, .int x6_718), (0, .ref (ad 100)), (1, .int x1), (2, .int x2), (5, .int x5), (7, .int x7), (8, .int x8)]) hx hb dX9_way_73 hl (by decide) rfl (fun ls hl => ?_)
        exact L75 k55 hk55 4000 x1 x2 x5 x6_718 x7 x8 x9_720 x10_721 S h _ _ _ (lv_sub hl [3, 4, 5, 6, 2, 7, 8, 1, 0] rfl) w
  unfold mm_way at h
  refine lv_aload_n hx hb dX9_way_0 rfl (lv_at hl 0 rfl) ?_
  refine lv_iload_n hx hb dX9_way_1 rfl (lv_at hl 1 rfl) ?_
  obtain ⟨r_823, S_822, hc_824, h⟩ := bd_e h
  refine mw_calli (As := [.int a1]) (rest := []) cx (cc_isTape l D cs ad S S_822 a1 r_823 hc_824) (cwV 1 hts (uG uw_X9_isTape ul_RX9_255 ui_X9_isTape us_RX9_X9_isTape un_RX9) rfl rfl rfl ud_X9_isTape ⟨Nat.le_of_ble_eq_true rfl, Nat.le_of_ble_eq_true rfl⟩) w rfl hl.1 rfl (Nat.le_of_ble_eq_true rfl) dX9_way_2 (fun H locs w => ?_)
  refine lv_if_eq (tgt := 20) hx hb dX9_way_5 (by decide) (fun q => ?_) (fun q => ?_)
  · have h := br_p q h
    exact J20   S_822 h _ _ _ (lv_sub hl [] rfl) w
  · have h := br_n q h
    refine lv_aload_n hx hb dX9_way_8 rfl (lv_at hl 0 rfl) ?_
    refine lv_iload_n hx hb dX9_way_9 rfl (lv_at hl 3 rfl) ?_
    refine lv_iload hx hb dX9_way_10 (lv_at hl 4 rfl) ?_
    refine lv_iload hx hb dX9_way_12 (lv_at hl 5 rfl) ?_
    obtain ⟨r_826, S_825, hc_827, h⟩ := bd_e h
    refine mw_calli (As := [.int a3, .int a4, .int a5]) (rest := []) cx (cc_isLayer l D cs ad S_822 S_825 a3 a4 a5 r_826 hc_827) (cwV 3 hts (uG uw_X9_isLayer ul_RX9_234 ui_X9_isLayer us_RX9_X9_isLayer un_RX9) rfl rfl rfl ud_X9_isLayer ⟨Nat.le_of_ble_eq_true rfl, Nat.le_of_ble_eq_true rfl⟩) w rfl hl.1 rfl (Nat.le_of_ble_eq_true rfl) dX9_way_14 (fun H locs w => ?_)
    refine lv_if_ne (tgt := 22) hx hb dX9_way_17 (by decide) (fun q => ?_) (fun q => ?_)
    · have h := br_n q h
      refine lv_aload_n hx hb dX9_way_22 rfl (lv_at hl 0 rfl) ?_
      refine mw_getR cx hin w 36 (by decide) (List.mem_cons_of_mem _ uf_RX9_120) dX9_way_23 ?_
      refine lv_iload_n hx hb dX9_way_26 rfl (lv_at hl 1 rfl) ?_
      obtain ⟨hq_828, h⟩ := ck_e h
      refine mw_iald cx w 23 36 6 (by decide) hq_828 dX9_way_27 ?_
      refine lv_if_le (tgt := 34) hx hb dX9_way_28 (by decide) (fun q => ?_) (fun q => ?_)
      · have h := br_p q h
        refine lv_aload_n hx hb dX9_way_34 rfl (lv_at hl 0 rfl) ?_
        obtain ⟨r_830, S_829, hc_831, h⟩ := bd_e h
        refine mw_callv (As := []) (rest := []) cx (cc_asItIs l D cs ad S_825 S_829  r_830 hc_831) (cwV 0 hts (uG uw_X9_asItIs ul_RX9_211 ui_X9_asItIs us_RX9_X9_asItIs un_RX9) rfl rfl rfl ud_X9_asItIs ⟨Nat.le_of_ble_eq_true rfl, Nat.le_of_ble_eq_true rfl⟩) w rfl hl.1 rfl (Nat.le_of_ble_eq_true rfl) dX9_way_35 (fun H locs w => ?_)
        refine lv_iconst (v := (1 : Int32)) hx hb dX9_way_38 (by decide) ?_
        obtain ⟨x6_832, ex6_832, h⟩ := lt_e h
        refine top_i ex6_832 ?_
        refine lv_istore (lv' := [(6, .int x6_832), (0, .ref (ad 100)), (1, .int a1), (2, .int a2), (3, .int a3), (4, .int a4), (5, .int a5)]) hx hb dX9_way_39 hl (by decide) rfl (fun ls hl => ?_)
        refine lv_iconst (v := (0 : Int32)) hx hb dX9_way_41 (by decide) ?_
        obtain ⟨x7_833, ex7_833, h⟩ := lt_e h
        refine top_i ex7_833 ?_
        refine lv_istore (lv' := [(7, .int x7_833), (6, .int x6_832), (0, .ref (ad 100)), (1, .int a1), (2, .int a2), (3, .int a3), (4, .int a4), (5, .int a5)]) hx hb dX9_way_42 hl (by decide) rfl (fun ls hl => ?_)
        refine lv_iload hx hb dX9_way_44 (lv_at hl 6 rfl) ?_
        refine lv_istore (lv' := [(8, .int a4), (7, .int x7_833), (6, .int x6_832), (0, .ref (ad 100)), (1, .int a1), (2, .int a2), (3, .int a3), (4, .int a4), (5, .int a5)]) hx hb dX9_way_46 hl (by decide) rfl (fun ls hl => ?_)
        refine lv_aload_n hx hb dX9_way_48 rfl (lv_at hl 3 rfl) ?_
        refine mw_getR cx hin w 33 (by decide) (List.mem_cons_of_mem _ uf_RX9_111) dX9_way_49 ?_
        refine lv_iconst (v := (0 : Int32)) hx hb dX9_way_52 (by decide) ?_
        refine lv_iload_n hx hb dX9_way_53 rfl (lv_at hl 6 rfl) ?_
        obtain ⟨hq_834, h⟩ := ck_e h
        obtain ⟨S_835, eS_835, h⟩ := lt_e h
        refine mw_iast cx w 21 33 100 (by decide) hq_834 eS_835 dX9_way_54 (fun H locs w => ?_)
        exact L55  4000 a1 a2 a5 x6_832 x7_833 a4 S_835 h _ _ _ (lv_sub hl [3, 4, 5, 8, 2, 1, 0] rfl) w
      · have h := br_n q h
        refine lv_bipush (v := (-12 : Int32)) hx hb dX9_way_31 (by decide) ?_
        exact mw_iret cx (rt_e h) w dX9_way_33
    · have h := br_p q h
      exact J20   S_825 h _ _ _ (lv_sub hl [] rfl) w
def mm_body_19  (S : MS) : Option (Int32 × MS) := lt_ (mP S 34 ((S.1 34) + (1 : Int32))) (fun S_101 => some ((0 : Int32), S_101))
def mm_body (S : MS) (a1 : Int32) : Option (Int32 × MS) := if (20 : Int32) ≤ (S.1 34) then (mm_body_19   S) else (ck (vin (S.1 34) 20) (lt_ (mR S 35 ((S.1 34)).toNatClampNeg a1) (fun S_203 => mm_body_19   S_203)))
abbrev wu_X9_body : List Cond := .code yX9_body cX9_body 2 none :: wsL_law
theorem ud_X9_body : yX9_body.cls = RX9 ∧ yX9_body.cls ≠ "java/lang/invoke/MethodHandle" ∧ yX9_body.cls ≠ "java/lang/invoke/VarHandle" ∧ (parseMethodDescriptor yX9_body.desc).map (fun d => d.parameters.length) = some 1 := by decide +kernel
abbrev rmX9_body : Room := { frames := 0, cells := 0, slots := 0, locals := 0 }
set_option maxHeartbeats 4000000 in
set_option maxRecDepth 100000 in
theorem cc_body (l : Launch) (D : va_G) (cs : Nat → ClassId) (ad : Nat → Nat) (S T : MS) (a1 : Int32) (r0 : Int32) (h : mm_body S a1 = some (r0, T)) : MetV l yX9_body wu_X9_body rmX9_body D cs ad [.int a1] S T r0 := by
  refine mo_V (cc := cX9_body) (maxL := 2) ⟨by decide, rfl⟩ rfl (Nat.le_of_ble_eq_true rfl) ?_
  intro p e s m args below meth c ls cx hl w
  have hx := cx.1
  have hb := cx.2.1
  have hts := cx.2.2.2.1
  have hown := cx.2.2.2.2.1
  have hin : ∀ w ∈ wsX90, w ∈ wu_X9_body := fun _ hq => List.mem_cons_of_mem _ (inlX9 _ hq)
  have hl : lv_has ls 2 [(0, .ref (ad 100)), (1, .int a1)] := hl
  have J19 : ∀  (S : MS), mm_body_19   S = some (r0, T) → mGo p l e rmX9_body s m args below meth c 2 D cs ad (mQV below D cs ad args s r0 T) 19 [(0, .ref (ad 100))] [] S := by
    intro  S h H locs ls hl w
    unfold mm_body_19 at h
    refine lv_aload_n hx hb dX9_body_19 rfl (lv_at hl 0 rfl) ?_
    refine lv_dup hx hb dX9_body_20 rfl ?_
    refine mw_getI cx hin w 34 (by decide) (List.mem_cons_of_mem _ uf_RX9_114) dX9_body_21 ?_
    refine lv_iconst (v := (1 : Int32)) hx hb dX9_body_24 (by decide) ?_
    refine lv_iadd hx hb dX9_body_25 ?_
    obtain ⟨S_101, eS_101, h⟩ := lt_e h
    refine mw_putI cx hin w 34 eS_101 (by decide +kernel) (List.mem_cons_of_mem _ uf_RX9_114) dX9_body_26 (fun H locs w => ?_)
    exact mw_vret cx (rt_e h) w dX9_body_29
  unfold mm_body at h
  refine lv_aload_n hx hb dX9_body_0 rfl (lv_at hl 0 rfl) ?_
  refine mw_getI cx hin w 34 (by decide) (List.mem_cons_of_mem _ uf_RX9_114) dX9_body_1 ?_
  refine lv_bipush (v := (20 : Int32)) hx hb dX9_body_4 (by decide) ?_
  refine lv_icmp_ge (tgt := 19) hx hb dX9_body_6 (by decide) (fun q => ?_) (fun q => ?_)
  · have h := br_p q h
    exact J19   S h _ _ _ (lv_sub hl [0] rfl) w
  · have h := br_n q h
    refine lv_aload_n hx hb dX9_body_9 rfl (lv_at hl 0 rfl) ?_
    refine mw_getR cx hin w 35 (by decide) (List.mem_cons_of_mem _ uf_RX9_117) dX9_body_10 ?_
    refine lv_aload_n hx hb dX9_body_13 rfl (lv_at hl 0 rfl) ?_
    refine mw_getI cx hin w 34 (by decide) (List.mem_cons_of_mem _ uf_RX9_114) dX9_body_14 ?_
    refine lv_iload_n hx hb dX9_body_17 rfl (lv_at hl 1 rfl) ?_
    obtain ⟨hq_202, h⟩ := ck_e h
    obtain ⟨S_203, eS_203, h⟩ := lt_e h
    refine mw_iast cx w 22 35 20 (by decide) hq_202 eS_203 dX9_body_18 (fun H locs w => ?_)
    exact J19   S_203 h _ _ _ (lv_sub hl [0] rfl) w
def mm_plainHears (S : MS) (a1 : Int32) (a2 : Int32) : Option (Int32 × MS) := bd (mm_body S (10 : Int32)) (fun _ S_101 => some ((a2 + a1), S_101))
abbrev wu_X9_plainHears : List Cond := .code yX9_plainHears cX9_plainHears 3 (some .int) :: wsL_law
theorem ud_X9_plainHears : yX9_plainHears.cls = RX9 ∧ yX9_plainHears.cls ≠ "java/lang/invoke/MethodHandle" ∧ yX9_plainHears.cls ≠ "java/lang/invoke/VarHandle" ∧ (parseMethodDescriptor yX9_plainHears.desc).map (fun d => d.parameters.length) = some 2 := by decide +kernel
abbrev rmX9_plainHears : Room := { frames := 1, cells := 0, slots := 0, locals := 21 }
set_option maxHeartbeats 4000000 in
set_option maxRecDepth 100000 in
theorem cc_plainHears (l : Launch) (D : va_G) (cs : Nat → ClassId) (ad : Nat → Nat) (S T : MS) (a1 : Int32) (a2 : Int32) (r0 : Int32) (h : mm_plainHears S a1 a2 = some (r0, T)) : MetI l yX9_plainHears wu_X9_plainHears rmX9_plainHears D cs ad [.int a1, .int a2] S T r0 := by
  refine mo_I (ty := .int) (cc := cX9_plainHears) (maxL := 3) ⟨by decide, rfl⟩ rfl (Nat.le_of_ble_eq_true rfl) ?_
  intro p e s m args below meth c ls cx hl w
  have hx := cx.1
  have hb := cx.2.1
  have hts := cx.2.2.2.1
  have hown := cx.2.2.2.2.1
  have hl : lv_has ls 3 [(0, .ref (ad 100)), (1, .int a1), (2, .int a2)] := hl
  unfold mm_plainHears at h
  refine lv_aload_n hx hb dX9_plainHears_0 rfl (lv_at hl 0 rfl) ?_
  refine lv_bipush (v := (10 : Int32)) hx hb dX9_plainHears_1 (by decide) ?_
  obtain ⟨r_102, S_101, hc_103, h⟩ := bd_e h
  refine mw_callv (As := [.int (10 : Int32)]) (rest := []) cx (cc_body l D cs ad S S_101 (10 : Int32) r_102 hc_103) (cwV 1 hts (uG uw_X9_body ul_RX9_258 ui_X9_body us_RX9_X9_body un_RX9) rfl rfl rfl ud_X9_body ⟨Nat.le_of_ble_eq_true rfl, Nat.le_of_ble_eq_true rfl⟩) w rfl hl.1 rfl (Nat.le_of_ble_eq_true rfl) dX9_plainHears_3 (fun H locs w => ?_)
  refine lv_iload_n hx hb dX9_plainHears_6 rfl (lv_at hl 2 rfl) ?_
  refine lv_iload_n hx hb dX9_plainHears_7 rfl (lv_at hl 1 rfl) ?_
  refine lv_iadd hx hb dX9_plainHears_8 ?_
  exact mw_iret cx (rt_e h) w dX9_plainHears_9
def mm_writtenHears (S : MS) (a1 : Int32) (a2 : Int32) : Option (Int32 × MS) := bd (mm_body S (30 : Int32)) (fun _ S_101 => bd (mm_plainHears S_101 a1 (a2 * (3 : Int32))) (fun r_105 S_104 => some (r_105, S_104)))
abbrev wu_X9_writtenHears : List Cond := .code yX9_writtenHears cX9_writtenHears 3 (some .int) :: wsL_law
theorem ud_X9_writtenHears : yX9_writtenHears.cls = RX9 ∧ yX9_writtenHears.cls ≠ "java/lang/invoke/MethodHandle" ∧ yX9_writtenHears.cls ≠ "java/lang/invoke/VarHandle" ∧ (parseMethodDescriptor yX9_writtenHears.desc).map (fun d => d.parameters.length) = some 2 := by decide +kernel
abbrev rmX9_writtenHears : Room := { frames := 2, cells := 0, slots := 0, locals := 43 }
set_option maxHeartbeats 4000000 in
set_option maxRecDepth 100000 in
theorem cc_writtenHears (l : Launch) (D : va_G) (cs : Nat → ClassId) (ad : Nat → Nat) (S T : MS) (a1 : Int32) (a2 : Int32) (r0 : Int32) (h : mm_writtenHears S a1 a2 = some (r0, T)) : MetI l yX9_writtenHears wu_X9_writtenHears rmX9_writtenHears D cs ad [.int a1, .int a2] S T r0 := by
  refine mo_I (ty := .int) (cc := cX9_writtenHears) (maxL := 3) ⟨by decide, rfl⟩ rfl (Nat.le_of_ble_eq_true rfl) ?_
  intro p e s m args below meth c ls cx hl w
  have hx := cx.1
  have hb := cx.2.1
  have hts := cx.2.2.2.1
  have hown := cx.2.2.2.2.1
  have hl : lv_has ls 3 [(0, .ref (ad 100)), (1, .int a1), (2, .int a2)] := hl
  unfold mm_writtenHears at h
  refine lv_aload_n hx hb dX9_writtenHears_0 rfl (lv_at hl 0 rfl) ?_
  refine lv_bipush (v := (30 : Int32)) hx hb dX9_writtenHears_1 (by decide) ?_
  obtain ⟨r_102, S_101, hc_103, h⟩ := bd_e h
  refine mw_callv (As := [.int (30 : Int32)]) (rest := []) cx (cc_body l D cs ad S S_101 (30 : Int32) r_102 hc_103) (cwV 1 hts (uG uw_X9_body ul_RX9_258 ui_X9_body us_RX9_X9_body un_RX9) rfl rfl rfl ud_X9_body ⟨Nat.le_of_ble_eq_true rfl, Nat.le_of_ble_eq_true rfl⟩) w rfl hl.1 rfl (Nat.le_of_ble_eq_true rfl) dX9_writtenHears_3 (fun H locs w => ?_)
  refine lv_aload_n hx hb dX9_writtenHears_6 rfl (lv_at hl 0 rfl) ?_
  refine lv_iload_n hx hb dX9_writtenHears_7 rfl (lv_at hl 1 rfl) ?_
  refine lv_iload_n hx hb dX9_writtenHears_8 rfl (lv_at hl 2 rfl) ?_
  refine lv_iconst (v := (3 : Int32)) hx hb dX9_writtenHears_9 (by decide) ?_
  refine lv_imul hx hb dX9_writtenHears_10 ?_
  obtain ⟨r_105, S_104, hc_106, h⟩ := bd_e h
  refine mw_calli (As := [.int a1, .int (a2 * (3 : Int32))]) (rest := []) cx (cc_plainHears l D cs ad S_101 S_104 a1 (a2 * (3 : Int32)) r_105 hc_106) (cwV 2 hts (uG uw_X9_plainHears ul_RX9_261 ui_X9_plainHears us_RX9_X9_plainHears un_RX9) rfl rfl rfl ud_X9_plainHears ⟨Nat.le_of_ble_eq_true rfl, Nat.le_of_ble_eq_true rfl⟩) w rfl hl.1 rfl (Nat.le_of_ble_eq_true rfl) dX9_writtenHears_11 (fun H locs w => ?_)
  exact mw_iret cx (rt_e h) w dX9_writtenHears_14
def mm_hears_81 (x1 : Int32) (x2 : Int32) (S : MS) : Option (Int32 × MS) := bd (mm_plainHears S x1 x2) (fun r_102 S_101 => some (r_102, S_101))
def mm_hears_40 (x1 : Int32) (x2 : Int32) (S : MS) : Option (Int32 × MS) := bd (mm_writtenHears S x1 x2) (fun r_205 S_204 => some (r_205, S_204))
def mm_hears (S : MS) (a1 : Int32) (a2 : Int32) : Option (Int32 × MS) := ck (vin a1 14) (if (S.2.1 4 (a1).toNatClampNeg) = (2 : Int32) then (mm_hears_40  a1 a2 S) else (if (S.2.1 4 (a1).toNatClampNeg) = (3 : Int32) then (bd (mm_body S (40 : Int32)) (fun _ S_310 => bd (mm_plainHears S_310 a1 a2) (fun r_314 S_313 => some ((-r_314), S_313)))) else (if (S.2.1 4 (a1).toNatClampNeg) = (5 : Int32) then (mm_hears_40  a1 a2 S) else (if (S.2.1 4 (a1).toNatClampNeg) = (6 : Int32) then (bd (mm_body S (71 : Int32)) (fun _ S_318 => bd (mm_plainHears S_318 a1 a2) (fun r_322 S_321 => ck (vin a1 14) (some ((r_322 ^^^ (S_321.2.1 5 (a1).toNatClampNeg)), S_321))))) else (mm_hears_81  a1 a2 S)))))
abbrev wu_X9_hears : List Cond := .code yX9_hears cX9_hears 3 (some .int) :: wsL_law
theorem ud_X9_hears : yX9_hears.cls = RX9 ∧ yX9_hears.cls ≠ "java/lang/invoke/MethodHandle" ∧ yX9_hears.cls ≠ "java/lang/invoke/VarHandle" ∧ (parseMethodDescriptor yX9_hears.desc).map (fun d => d.parameters.length) = some 2 := by decide +kernel
abbrev rmX9_hears : Room := { frames := 3, cells := 0, slots := 0, locals := 65 }
set_option maxHeartbeats 4000000 in
set_option maxRecDepth 100000 in
theorem cc_hears (l : Launch) (D : va_G) (cs : Nat → ClassId) (ad : Nat → Nat) (S T : MS) (a1 : Int32) (a2 : Int32) (r0 : Int32) (h : mm_hears S a1 a2 = some (r0, T)) : MetI l yX9_hears wu_X9_hears rmX9_hears D cs ad [.int a1, .int a2] S T r0 := by
  refine mo_I (ty := .int) (cc := cX9_hears) (maxL := 3) ⟨by decide, rfl⟩ rfl (Nat.le_of_ble_eq_true rfl) ?_
  intro p e s m args below meth c ls cx hl w
  have hx := cx.1
  have hb := cx.2.1
  have hts := cx.2.2.2.1
  have hown := cx.2.2.2.2.1
  have hin : ∀ w ∈ wsX90, w ∈ wu_X9_hears := fun _ hq => List.mem_cons_of_mem _ (inlX9 _ hq)
  have hl : lv_has ls 3 [(0, .ref (ad 100)), (1, .int a1), (2, .int a2)] := hl
  have J81 : ∀ (x1 : Int32) (x2 : Int32) (S : MS), mm_hears_81  x1 x2 S = some (r0, T) → mGo p l e rmX9_hears s m args below meth c 3 D cs ad (mQI below D cs ad args s r0 T) 81 [(0, .ref (ad 100)), (1, .int x1), (2, .int x2)] [] S := by
    intro x1 x2 S h H locs ls hl w
    unfold mm_hears_81 at h
    refine lv_aload_n hx hb dX9_hears_81 rfl (lv_at hl 0 rfl) ?_
    refine lv_iload_n hx hb dX9_hears_82 rfl (lv_at hl 1 rfl) ?_
    refine lv_iload_n hx hb dX9_hears_83 rfl (lv_at hl 2 rfl) ?_
    obtain ⟨r_102, S_101, hc_103, h⟩ := bd_e h
    refine mw_calli (As := [.int x1, .int x2]) (rest := []) cx (cc_plainHears l D cs ad S S_101 x1 x2 r_102 hc_103) (cwV 2 hts (uG uw_X9_plainHears ul_RX9_261 ui_X9_plainHears us_RX9_X9_plainHears un_RX9) rfl rfl rfl ud_X9_plainHears ⟨Nat.le_of_ble_eq_true rfl, Nat.le_of_ble_eq_true rfl⟩) w rfl hl.1 rfl (Nat.le_of_ble_eq_true rfl) dX9_hears_84 (fun H locs w => ?_)
    exact mw_iret cx (rt_e h) w dX9_hears_87
  have J40 : ∀ (x1 : Int32) (x2 : Int32) (S : MS), mm_hears_40  x1 x2 S = some (r0, T) → mGo p l e rmX9_hears s m args below meth c 3 D cs ad (mQI below D cs ad args s r0 T) 40 [(0, .ref (ad 100)), (1, .int x1), (2, .int x2)] [] S := by
    intro x1 x2 S h H locs ls hl w
    unfold mm_hears_40 at h
    refine lv_aload_n hx hb dX9_hears_40 rfl (lv_at hl 0 rfl) ?_
    refine lv_iload_n hx hb dX9_hears_41 rfl (lv_at hl 1 rfl) ?_
    refine lv_iload_n hx hb dX9_hears_42 rfl (lv_at hl 2 rfl) ?_
    obtain ⟨r_205, S_204, hc_206, h⟩ := bd_e h
    refine mw_calli (As := [.int x1, .int x2]) (rest := []) cx (cc_writtenHears l D cs ad S S_204 x1 x2 r_205 hc_206) (cwV 2 hts (uG uw_X9_writtenHears ul_RX9_265 ui_X9_writtenHears us_RX9_X9_writtenHears un_RX9) rfl rfl rfl ud_X9_writtenHears ⟨Nat.le_of_ble_eq_true rfl, Nat.le_of_ble_eq_true rfl⟩) w rfl hl.1 rfl (Nat.le_of_ble_eq_true rfl) dX9_hears_43 (fun H locs w => ?_)
    exact mw_iret cx (rt_e h) w dX9_hears_46
  unfold mm_hears at h
  refine lv_aload_n hx hb dX9_hears_0 rfl (lv_at hl 0 rfl) ?_
  refine mw_getR cx hin w 4 (by decide) (List.mem_cons_of_mem _ uf_RX9_23) dX9_hears_1 ?_
  refine lv_iload_n hx hb dX9_hears_4 rfl (lv_at hl 1 rfl) ?_
  obtain ⟨hq_307, h⟩ := ck_e h
  refine mw_iald cx w 1 4 14 (by decide) hq_307 dX9_hears_5 ?_
  by_cases q_308 : (S.2.1 4 (a1).toNatClampNeg) = (2 : Int32)
  · have h := br_p q_308 h
    refine lv_tableIn (tgt := 40) hx hb dX9_hears_6 (by rw [q_308]; decide) (by rw [q_308]; decide) (by rw [q_308]; rfl) (by decide) ?_
    exact J40  a1 a2 S h _ _ _ (lv_sub hl [0, 1, 2] rfl) w
  have h := br_n q_308 h
  by_cases q_309 : (S.2.1 4 (a1).toNatClampNeg) = (3 : Int32)
  · have h := br_p q_309 h
    refine lv_tableIn (tgt := 47) hx hb dX9_hears_6 (by rw [q_309]; decide) (by rw [q_309]; decide) (by rw [q_309]; rfl) (by decide) ?_
    refine lv_aload_n hx hb dX9_hears_47 rfl (lv_at hl 0 rfl) ?_
    refine lv_bipush (v := (40 : Int32)) hx hb dX9_hears_48 (by decide) ?_
    obtain ⟨r_311, S_310, hc_312, h⟩ := bd_e h
    refine mw_callv (As := [.int (40 : Int32)]) (rest := []) cx (cc_body l D cs ad S S_310 (40 : Int32) r_311 hc_312) (cwV 1 hts (uG uw_X9_body ul_RX9_258 ui_X9_body us_RX9_X9_body un_RX9) rfl rfl rfl ud_X9_body ⟨Nat.le_of_ble_eq_true rfl, Nat.le_of_ble_eq_true rfl⟩) w rfl hl.1 rfl (Nat.le_of_ble_eq_true rfl) dX9_hears_50 (fun H locs w => ?_)
    refine lv_aload_n hx hb dX9_hears_53 rfl (lv_at hl 0 rfl) ?_
    refine lv_iload_n hx hb dX9_hears_54 rfl (lv_at hl 1 rfl) ?_
    refine lv_iload_n hx hb dX9_hears_55 rfl (lv_at hl 2 rfl) ?_
    obtain ⟨r_314, S_313, hc_315, h⟩ := bd_e h
    refine mw_calli (As := [.int a1, .int a2]) (rest := []) cx (cc_plainHears l D cs ad S_310 S_313 a1 a2 r_314 hc_315) (cwV 2 hts (uG uw_X9_plainHears ul_RX9_261 ui_X9_plainHears us_RX9_X9_plainHears un_RX9) rfl rfl rfl ud_X9_plainHears ⟨Nat.le_of_ble_eq_true rfl, Nat.le_of_ble_eq_true rfl⟩) w rfl hl.1 rfl (Nat.le_of_ble_eq_true rfl) dX9_hears_56 (fun H locs w => ?_)
    refine lv_ineg hx hb dX9_hears_59 ?_
    exact mw_iret cx (rt_e h) w dX9_hears_60
  have h := br_n q_309 h
  by_cases q_316 : (S.2.1 4 (a1).toNatClampNeg) = (5 : Int32)
  · have h := br_p q_316 h
    refine lv_tableIn (tgt := 40) hx hb dX9_hears_6 (by rw [q_316]; decide) (by rw [q_316]; decide) (by rw [q_316]; rfl) (by decide) ?_
    exact J40  a1 a2 S h _ _ _ (lv_sub hl [0, 1, 2] rfl) w
  have h := br_n q_316 h
  by_cases q_317 : (S.2.1 4 (a1).toNatClampNeg) = (6 : Int32)
  · have h := br_p q_317 h
    refine lv_tableIn (tgt := 61) hx hb dX9_hears_6 (by rw [q_317]; decide) (by rw [q_317]; decide) (by rw [q_317]; rfl) (by decide) ?_
    refine lv_aload_n hx hb dX9_hears_61 rfl (lv_at hl 0 rfl) ?_
    refine lv_bipush (v := (71 : Int32)) hx hb dX9_hears_62 (by decide) ?_
    obtain ⟨r_319, S_318, hc_320, h⟩ := bd_e h
    refine mw_callv (As := [.int (71 : Int32)]) (rest := []) cx (cc_body l D cs ad S S_318 (71 : Int32) r_319 hc_320) (cwV 1 hts (uG uw_X9_body ul_RX9_258 ui_X9_body us_RX9_X9_body un_RX9) rfl rfl rfl ud_X9_body ⟨Nat.le_of_ble_eq_true rfl, Nat.le_of_ble_eq_true rfl⟩) w rfl hl.1 rfl (Nat.le_of_ble_eq_true rfl) dX9_hears_64 (fun H locs w => ?_)
    refine lv_aload_n hx hb dX9_hears_67 rfl (lv_at hl 0 rfl) ?_
    refine lv_iload_n hx hb dX9_hears_68 rfl (lv_at hl 1 rfl) ?_
    refine lv_iload_n hx hb dX9_hears_69 rfl (lv_at hl 2 rfl) ?_
    obtain ⟨r_322, S_321, hc_323, h⟩ := bd_e h
    refine mw_calli (As := [.int a1, .int a2]) (rest := []) cx (cc_plainHears l D cs ad S_318 S_321 a1 a2 r_322 hc_323) (cwV 2 hts (uG uw_X9_plainHears ul_RX9_261 ui_X9_plainHears us_RX9_X9_plainHears un_RX9) rfl rfl rfl ud_X9_plainHears ⟨Nat.le_of_ble_eq_true rfl, Nat.le_of_ble_eq_true rfl⟩) w rfl hl.1 rfl (Nat.le_of_ble_eq_true rfl) dX9_hears_70 (fun H locs w => ?_)
    refine lv_aload_n hx hb dX9_hears_73 rfl (lv_at hl 0 rfl) ?_
    refine mw_getR cx hin w 5 (by decide) (List.mem_cons_of_mem _ uf_RX9_26) dX9_hears_74 ?_
    refine lv_iload_n hx hb dX9_hears_77 rfl (lv_at hl 1 rfl) ?_
    obtain ⟨hq_324, h⟩ := ck_e h
    refine mw_iald cx w 2 5 14 (by decide) hq_324 dX9_hears_78 ?_
    refine lv_ixor hx hb dX9_hears_79 ?_
    exact mw_iret cx (rt_e h) w dX9_hears_80
  have h := br_n q_317 h
  refine lv_tableH (tgt := 81) hx hb dX9_hears_6 (by by_cases q_325 : (S.2.1 4 (a1).toNatClampNeg) = (4 : Int32); exact Or.inr ⟨by rw [q_325]; decide, by rw [q_325]; decide, by rw [q_325]; rfl⟩; exact Or.inl (by have := lv_neT q_308 (a := 2) (by decide); have := lv_neT q_309 (a := 3) (by decide); have := lv_neT q_316 (a := 5) (by decide); have := lv_neT q_317 (a := 6) (by decide); have := lv_neT q_325 (a := 4) (by decide); omega)) (by decide) ?_
  exact J81  a1 a2 S h _ _ _ (lv_sub hl [0, 1, 2] rfl) w
def mm_plainKeeps (S : MS) (a1 : Int32) (a2 : Int32) : Option (Int32 × MS) := bd (mm_body S (11 : Int32)) (fun _ S_101 => bd (mm_hears S_101 a1 a2) (fun r_105 S_104 => ck (vin a1 14) (some ((r_105 - (S_104.2.1 5 (a1).toNatClampNeg)), S_104))))
abbrev wu_X9_plainKeeps : List Cond := .code yX9_plainKeeps cX9_plainKeeps 3 (some .int) :: wsL_law
theorem ud_X9_plainKeeps : yX9_plainKeeps.cls = RX9 ∧ yX9_plainKeeps.cls ≠ "java/lang/invoke/MethodHandle" ∧ yX9_plainKeeps.cls ≠ "java/lang/invoke/VarHandle" ∧ (parseMethodDescriptor yX9_plainKeeps.desc).map (fun d => d.parameters.length) = some 2 := by decide +kernel
abbrev rmX9_plainKeeps : Room := { frames := 4, cells := 0, slots := 0, locals := 87 }
set_option maxHeartbeats 4000000 in
set_option maxRecDepth 100000 in
theorem cc_plainKeeps (l : Launch) (D : va_G) (cs : Nat → ClassId) (ad : Nat → Nat) (S T : MS) (a1 : Int32) (a2 : Int32) (r0 : Int32) (h : mm_plainKeeps S a1 a2 = some (r0, T)) : MetI l yX9_plainKeeps wu_X9_plainKeeps rmX9_plainKeeps D cs ad [.int a1, .int a2] S T r0 := by
  refine mo_I (ty := .int) (cc := cX9_plainKeeps) (maxL := 3) ⟨by decide, rfl⟩ rfl (Nat.le_of_ble_eq_true rfl) ?_
  intro p e s m args below meth c ls cx hl w
  have hx := cx.1
  have hb := cx.2.1
  have hts := cx.2.2.2.1
  have hown := cx.2.2.2.2.1
  have hin : ∀ w ∈ wsX90, w ∈ wu_X9_plainKeeps := fun _ hq => List.mem_cons_of_mem _ (inlX9 _ hq)
  have hl : lv_has ls 3 [(0, .ref (ad 100)), (1, .int a1), (2, .int a2)] := hl
  unfold mm_plainKeeps at h
  refine lv_aload_n hx hb dX9_plainKeeps_0 rfl (lv_at hl 0 rfl) ?_
  refine lv_bipush (v := (11 : Int32)) hx hb dX9_plainKeeps_1 (by decide) ?_
  obtain ⟨r_102, S_101, hc_103, h⟩ := bd_e h
  refine mw_callv (As := [.int (11 : Int32)]) (rest := []) cx (cc_body l D cs ad S S_101 (11 : Int32) r_102 hc_103) (cwV 1 hts (uG uw_X9_body ul_RX9_258 ui_X9_body us_RX9_X9_body un_RX9) rfl rfl rfl ud_X9_body ⟨Nat.le_of_ble_eq_true rfl, Nat.le_of_ble_eq_true rfl⟩) w rfl hl.1 rfl (Nat.le_of_ble_eq_true rfl) dX9_plainKeeps_3 (fun H locs w => ?_)
  refine lv_aload_n hx hb dX9_plainKeeps_6 rfl (lv_at hl 0 rfl) ?_
  refine lv_iload_n hx hb dX9_plainKeeps_7 rfl (lv_at hl 1 rfl) ?_
  refine lv_iload_n hx hb dX9_plainKeeps_8 rfl (lv_at hl 2 rfl) ?_
  obtain ⟨r_105, S_104, hc_106, h⟩ := bd_e h
  refine mw_calli (As := [.int a1, .int a2]) (rest := []) cx (cc_hears l D cs ad S_101 S_104 a1 a2 r_105 hc_106) (cwV 2 hts (uG uw_X9_hears ul_RX9_268 ui_X9_hears us_RX9_X9_hears un_RX9) rfl rfl rfl ud_X9_hears ⟨Nat.le_of_ble_eq_true rfl, Nat.le_of_ble_eq_true rfl⟩) w rfl hl.1 rfl (Nat.le_of_ble_eq_true rfl) dX9_plainKeeps_9 (fun H locs w => ?_)
  refine lv_aload_n hx hb dX9_plainKeeps_12 rfl (lv_at hl 0 rfl) ?_
  refine mw_getR cx hin w 5 (by decide) (List.mem_cons_of_mem _ uf_RX9_26) dX9_plainKeeps_13 ?_
  refine lv_iload_n hx hb dX9_plainKeeps_16 rfl (lv_at hl 1 rfl) ?_
  obtain ⟨hq_107, h⟩ := ck_e h
  refine mw_iald cx w 2 5 14 (by decide) hq_107 dX9_plainKeeps_17 ?_
  refine lv_isub hx hb dX9_plainKeeps_18 ?_
  exact mw_iret cx (rt_e h) w dX9_plainKeeps_19
def mm_saidKeeps (S : MS) (a1 : Int32) (a2 : Int32) : Option (Int32 × MS) := bd (mm_body S (20 : Int32)) (fun _ S_101 => bd (mm_plainKeeps S_101 a1 a2) (fun r_105 S_104 => some ((r_105 ^^^ (5 : Int32)), S_104)))
abbrev wu_X9_saidKeeps : List Cond := .code yX9_saidKeeps cX9_saidKeeps 3 (some .int) :: wsL_law
theorem ud_X9_saidKeeps : yX9_saidKeeps.cls = RX9 ∧ yX9_saidKeeps.cls ≠ "java/lang/invoke/MethodHandle" ∧ yX9_saidKeeps.cls ≠ "java/lang/invoke/VarHandle" ∧ (parseMethodDescriptor yX9_saidKeeps.desc).map (fun d => d.parameters.length) = some 2 := by decide +kernel
abbrev rmX9_saidKeeps : Room := { frames := 5, cells := 0, slots := 0, locals := 109 }
set_option maxHeartbeats 4000000 in
set_option maxRecDepth 100000 in
theorem cc_saidKeeps (l : Launch) (D : va_G) (cs : Nat → ClassId) (ad : Nat → Nat) (S T : MS) (a1 : Int32) (a2 : Int32) (r0 : Int32) (h : mm_saidKeeps S a1 a2 = some (r0, T)) : MetI l yX9_saidKeeps wu_X9_saidKeeps rmX9_saidKeeps D cs ad [.int a1, .int a2] S T r0 := by
  refine mo_I (ty := .int) (cc := cX9_saidKeeps) (maxL := 3) ⟨by decide, rfl⟩ rfl (Nat.le_of_ble_eq_true rfl) ?_
  intro p e s m args below meth c ls cx hl w
  have hx := cx.1
  have hb := cx.2.1
  have hts := cx.2.2.2.1
  have hown := cx.2.2.2.2.1
  have hl : lv_has ls 3 [(0, .ref (ad 100)), (1, .int a1), (2, .int a2)] := hl
  unfold mm_saidKeeps at h
  refine lv_aload_n hx hb dX9_saidKeeps_0 rfl (lv_at hl 0 rfl) ?_
  refine lv_bipush (v := (20 : Int32)) hx hb dX9_saidKeeps_1 (by decide) ?_
  obtain ⟨r_102, S_101, hc_103, h⟩ := bd_e h
  refine mw_callv (As := [.int (20 : Int32)]) (rest := []) cx (cc_body l D cs ad S S_101 (20 : Int32) r_102 hc_103) (cwV 1 hts (uG uw_X9_body ul_RX9_258 ui_X9_body us_RX9_X9_body un_RX9) rfl rfl rfl ud_X9_body ⟨Nat.le_of_ble_eq_true rfl, Nat.le_of_ble_eq_true rfl⟩) w rfl hl.1 rfl (Nat.le_of_ble_eq_true rfl) dX9_saidKeeps_3 (fun H locs w => ?_)
  refine lv_aload_n hx hb dX9_saidKeeps_6 rfl (lv_at hl 0 rfl) ?_
  refine lv_iload_n hx hb dX9_saidKeeps_7 rfl (lv_at hl 1 rfl) ?_
  refine lv_iload_n hx hb dX9_saidKeeps_8 rfl (lv_at hl 2 rfl) ?_
  obtain ⟨r_105, S_104, hc_106, h⟩ := bd_e h
  refine mw_calli (As := [.int a1, .int a2]) (rest := []) cx (cc_plainKeeps l D cs ad S_101 S_104 a1 a2 r_105 hc_106) (cwV 2 hts (uG uw_X9_plainKeeps ul_RX9_271 ui_X9_plainKeeps us_RX9_X9_plainKeeps un_RX9) rfl rfl rfl ud_X9_plainKeeps ⟨Nat.le_of_ble_eq_true rfl, Nat.le_of_ble_eq_true rfl⟩) w rfl hl.1 rfl (Nat.le_of_ble_eq_true rfl) dX9_saidKeeps_9 (fun H locs w => ?_)
  refine lv_iconst (v := (5 : Int32)) hx hb dX9_saidKeeps_12 (by decide) ?_
  refine lv_ixor hx hb dX9_saidKeeps_13 ?_
  exact mw_iret cx (rt_e h) w dX9_saidKeeps_14
def mm_keeps (S : MS) (a1 : Int32) (a2 : Int32) : Option (Int32 × MS) := ck (vin a1 14) (if (S.2.1 4 (a1).toNatClampNeg) = (5 : Int32) then (bd (mm_body S (60 : Int32)) (fun _ S_112 => bd (mm_saidKeeps S_112 a1 a2) (fun r_116 S_115 => bd (mm_writtenHears S_115 a1 (2 : Int32)) (fun r_119 S_118 => some ((r_116 + r_119), S_118))))) else (ck (vin a1 14) (bd (mm_isUnder S (S.2.1 4 (a1).toNatClampNeg) (1 : Int32)) (fun r_104 S_103 => if r_104 = (0 : Int32) then (bd (mm_plainKeeps S_103 a1 a2) (fun r_107 S_106 => some (r_107, S_106))) else (bd (mm_saidKeeps S_103 a1 a2) (fun r_110 S_109 => some (r_110, S_109)))))))
abbrev wu_X9_keeps : List Cond := .code yX9_keeps cX9_keeps 4 (some .int) :: wsL_law
theorem ud_X9_keeps : yX9_keeps.cls = RX9 ∧ yX9_keeps.cls ≠ "java/lang/invoke/MethodHandle" ∧ yX9_keeps.cls ≠ "java/lang/invoke/VarHandle" ∧ (parseMethodDescriptor yX9_keeps.desc).map (fun d => d.parameters.length) = some 2 := by decide +kernel
abbrev rmX9_keeps : Room := { frames := 6, cells := 0, slots := 0, locals := 131 }
set_option maxHeartbeats 4000000 in
set_option maxRecDepth 100000 in
theorem cc_keeps (l : Launch) (D : va_G) (cs : Nat → ClassId) (ad : Nat → Nat) (S T : MS) (a1 : Int32) (a2 : Int32) (r0 : Int32) (h : mm_keeps S a1 a2 = some (r0, T)) : MetI l yX9_keeps wu_X9_keeps rmX9_keeps D cs ad [.int a1, .int a2] S T r0 := by
  refine mo_I (ty := .int) (cc := cX9_keeps) (maxL := 4) ⟨by decide, rfl⟩ rfl (Nat.le_of_ble_eq_true rfl) ?_
  intro p e s m args below meth c ls cx hl w
  have hx := cx.1
  have hb := cx.2.1
  have hts := cx.2.2.2.1
  have hown := cx.2.2.2.2.1
  have hin : ∀ w ∈ wsX90, w ∈ wu_X9_keeps := fun _ hq => List.mem_cons_of_mem _ (inlX9 _ hq)
  have hl : lv_has ls 4 [(0, .ref (ad 100)), (1, .int a1), (2, .int a2)] := hl
  unfold mm_keeps at h
  refine lv_aload_n hx hb dX9_keeps_0 rfl (lv_at hl 0 rfl) ?_
  refine mw_getR cx hin w 4 (by decide) (List.mem_cons_of_mem _ uf_RX9_23) dX9_keeps_1 ?_
  refine lv_iload_n hx hb dX9_keeps_4 rfl (lv_at hl 1 rfl) ?_
  obtain ⟨hq_101, h⟩ := ck_e h
  refine mw_iald cx w 1 4 14 (by decide) hq_101 dX9_keeps_5 ?_
  refine lv_iconst (v := (5 : Int32)) hx hb dX9_keeps_6 (by decide) ?_
  refine lv_icmp_ne (tgt := 32) hx hb dX9_keeps_7 (by decide) (fun q => ?_) (fun q => ?_)
  · have h := br_n q h
    refine lv_aload_n hx hb dX9_keeps_32 rfl (lv_at hl 0 rfl) ?_
    refine lv_aload_n hx hb dX9_keeps_33 rfl (lv_at hl 0 rfl) ?_
    refine mw_getR cx hin w 4 (by decide) (List.mem_cons_of_mem _ uf_RX9_23) dX9_keeps_34 ?_
    refine lv_iload_n hx hb dX9_keeps_37 rfl (lv_at hl 1 rfl) ?_
    obtain ⟨hq_102, h⟩ := ck_e h
    refine mw_iald cx w 1 4 14 (by decide) hq_102 dX9_keeps_38 ?_
    refine lv_iconst (v := (1 : Int32)) hx hb dX9_keeps_39 (by decide) ?_
    obtain ⟨r_104, S_103, hc_105, h⟩ := bd_e h
    refine mw_calli (As := [.int (S.2.1 4 (a1).toNatClampNeg), .int (1 : Int32)]) (rest := []) cx (cc_isUnder l D cs ad S S_103 (S.2.1 4 (a1).toNatClampNeg) (1 : Int32) r_104 hc_105) (cwV 2 hts (uG uw_X9_isUnder ul_RX9_186 ui_X9_isUnder us_RX9_X9_isUnder un_RX9) rfl rfl rfl ud_X9_isUnder ⟨Nat.le_of_ble_eq_true rfl, Nat.le_of_ble_eq_true rfl⟩) w rfl hl.1 rfl (Nat.le_of_ble_eq_true rfl) dX9_keeps_40 (fun H locs w => ?_)
    refine lv_if_eq (tgt := 55) hx hb dX9_keeps_43 (by decide) (fun q => ?_) (fun q => ?_)
    · have h := br_p q h
      refine lv_aload_n hx hb dX9_keeps_55 rfl (lv_at hl 0 rfl) ?_
      refine lv_iload_n hx hb dX9_keeps_56 rfl (lv_at hl 1 rfl) ?_
      refine lv_iload_n hx hb dX9_keeps_57 rfl (lv_at hl 2 rfl) ?_
      obtain ⟨r_107, S_106, hc_108, h⟩ := bd_e h
      refine mw_calli (As := [.int a1, .int a2]) (rest := []) cx (cc_plainKeeps l D cs ad S_103 S_106 a1 a2 r_107 hc_108) (cwV 2 hts (uG uw_X9_plainKeeps ul_RX9_271 ui_X9_plainKeeps us_RX9_X9_plainKeeps un_RX9) rfl rfl rfl ud_X9_plainKeeps ⟨Nat.le_of_ble_eq_true rfl, Nat.le_of_ble_eq_true rfl⟩) w rfl hl.1 rfl (Nat.le_of_ble_eq_true rfl) dX9_keeps_58 (fun H locs w => ?_)
      exact mw_iret cx (rt_e h) w dX9_keeps_61
    · have h := br_n q h
      refine lv_aload_n hx hb dX9_keeps_46 rfl (lv_at hl 0 rfl) ?_
      refine lv_iload_n hx hb dX9_keeps_47 rfl (lv_at hl 1 rfl) ?_
      refine lv_iload_n hx hb dX9_keeps_48 rfl (lv_at hl 2 rfl) ?_
      obtain ⟨r_110, S_109, hc_111, h⟩ := bd_e h
      refine mw_calli (As := [.int a1, .int a2]) (rest := []) cx (cc_saidKeeps l D cs ad S_103 S_109 a1 a2 r_110 hc_111) (cwV 2 hts (uG uw_X9_saidKeeps ul_RX9_274 ui_X9_saidKeeps us_RX9_X9_saidKeeps un_RX9) rfl rfl rfl ud_X9_saidKeeps ⟨Nat.le_of_ble_eq_true rfl, Nat.le_of_ble_eq_true rfl⟩) w rfl hl.1 rfl (Nat.le_of_ble_eq_true rfl) dX9_keeps_49 (fun H locs w => ?_)
      refine lv_goto (tgt := 61) hx hb dX9_keeps_52 (by decide) ?_
      exact mw_iret cx (rt_e h) w dX9_keeps_61
  · have h := br_p q h
    refine lv_aload_n hx hb dX9_keeps_10 rfl (lv_at hl 0 rfl) ?_
    refine lv_bipush (v := (60 : Int32)) hx hb dX9_keeps_11 (by decide) ?_
    obtain ⟨r_113, S_112, hc_114, h⟩ := bd_e h
    refine mw_callv (As := [.int (60 : Int32)]) (rest := []) cx (cc_body l D cs ad S S_112 (60 : Int32) r_113 hc_114) (cwV 1 hts (uG uw_X9_body ul_RX9_258 ui_X9_body us_RX9_X9_body un_RX9) rfl rfl rfl ud_X9_body ⟨Nat.le_of_ble_eq_true rfl, Nat.le_of_ble_eq_true rfl⟩) w rfl hl.1 rfl (Nat.le_of_ble_eq_true rfl) dX9_keeps_13 (fun H locs w => ?_)
    refine lv_aload_n hx hb dX9_keeps_16 rfl (lv_at hl 0 rfl) ?_
    refine lv_iload_n hx hb dX9_keeps_17 rfl (lv_at hl 1 rfl) ?_
    refine lv_iload_n hx hb dX9_keeps_18 rfl (lv_at hl 2 rfl) ?_
    obtain ⟨r_116, S_115, hc_117, h⟩ := bd_e h
    refine mw_calli (As := [.int a1, .int a2]) (rest := []) cx (cc_saidKeeps l D cs ad S_112 S_115 a1 a2 r_116 hc_117) (cwV 2 hts (uG uw_X9_saidKeeps ul_RX9_274 ui_X9_saidKeeps us_RX9_X9_saidKeeps un_RX9) rfl rfl rfl ud_X9_saidKeeps ⟨Nat.le_of_ble_eq_true rfl, Nat.le_of_ble_eq_true rfl⟩) w rfl hl.1 rfl (Nat.le_of_ble_eq_true rfl) dX9_keeps_19 (fun H locs w => ?_)
    refine lv_istore_n (lv' := [(3, .int r_116), (0, .ref (ad 100)), (1, .int a1), (2, .int a2)]) hx hb dX9_keeps_22 rfl hl (by decide) rfl (fun ls hl => ?_)
    refine lv_iload_n hx hb dX9_keeps_23 rfl (lv_at hl 0 rfl) ?_
    refine lv_aload_n hx hb dX9_keeps_24 rfl (lv_at hl 1 rfl) ?_
    refine lv_iload_n hx hb dX9_keeps_25 rfl (lv_at hl 2 rfl) ?_
    refine lv_iconst (v := (2 : Int32)) hx hb dX9_keeps_26 (by decide) ?_
    obtain ⟨r_119, S_118, hc_120, h⟩ := bd_e h
    refine mw_calli (As := [.int a1, .int (2 : Int32)]) (rest := [.int r_116]) cx (cc_writtenHears l D cs ad S_115 S_118 a1 (2 : Int32) r_119 hc_120) (cwV 2 hts (uG uw_X9_writtenHears ul_RX9_265 ui_X9_writtenHears us_RX9_X9_writtenHears un_RX9) rfl rfl rfl ud_X9_writtenHears ⟨Nat.le_of_ble_eq_true rfl, Nat.le_of_ble_eq_true rfl⟩) w rfl hl.1 rfl (Nat.le_of_ble_eq_true rfl) dX9_keeps_27 (fun H locs w => ?_)
    refine lv_iadd hx hb dX9_keeps_30 ?_
    exact mw_iret cx (rt_e h) w dX9_keeps_31
def mm_plainTells (S : MS) (a1 : Int32) (a2 : Int32) : Option (Int32 × MS) := bd (mm_body S (12 : Int32)) (fun _ S_101 => bd (mm_keeps S_101 a1 a2) (fun r_105 S_104 => some ((r_105 * (2 : Int32)), S_104)))
abbrev wu_X9_plainTells : List Cond := .code yX9_plainTells cX9_plainTells 3 (some .int) :: wsL_law
theorem ud_X9_plainTells : yX9_plainTells.cls = RX9 ∧ yX9_plainTells.cls ≠ "java/lang/invoke/MethodHandle" ∧ yX9_plainTells.cls ≠ "java/lang/invoke/VarHandle" ∧ (parseMethodDescriptor yX9_plainTells.desc).map (fun d => d.parameters.length) = some 2 := by decide +kernel
abbrev rmX9_plainTells : Room := { frames := 7, cells := 0, slots := 0, locals := 154 }
set_option maxHeartbeats 4000000 in
set_option maxRecDepth 100000 in
theorem cc_plainTells (l : Launch) (D : va_G) (cs : Nat → ClassId) (ad : Nat → Nat) (S T : MS) (a1 : Int32) (a2 : Int32) (r0 : Int32) (h : mm_plainTells S a1 a2 = some (r0, T)) : MetI l yX9_plainTells wu_X9_plainTells rmX9_plainTells D cs ad [.int a1, .int a2] S T r0 := by
  refine mo_I (ty := .int) (cc := cX9_plainTells) (maxL := 3) ⟨by decide, rfl⟩ rfl (Nat.le_of_ble_eq_true rfl) ?_
  intro p e s m args below meth c ls cx hl w
  have hx := cx.1
  have hb := cx.2.1
  have hts := cx.2.2.2.1
  have hown := cx.2.2.2.2.1
  have hl : lv_has ls 3 [(0, .ref (ad 100)), (1, .int a1), (2, .int a2)] := hl
  unfold mm_plainTells at h
  refine lv_aload_n hx hb dX9_plainTells_0 rfl (lv_at hl 0 rfl) ?_
  refine lv_bipush (v := (12 : Int32)) hx hb dX9_plainTells_1 (by decide) ?_
  obtain ⟨r_102, S_101, hc_103, h⟩ := bd_e h
  refine mw_callv (As := [.int (12 : Int32)]) (rest := []) cx (cc_body l D cs ad S S_101 (12 : Int32) r_102 hc_103) (cwV 1 hts (uG uw_X9_body ul_RX9_258 ui_X9_body us_RX9_X9_body un_RX9) rfl rfl rfl ud_X9_body ⟨Nat.le_of_ble_eq_true rfl, Nat.le_of_ble_eq_true rfl⟩) w rfl hl.1 rfl (Nat.le_of_ble_eq_true rfl) dX9_plainTells_3 (fun H locs w => ?_)
  refine lv_aload_n hx hb dX9_plainTells_6 rfl (lv_at hl 0 rfl) ?_
  refine lv_iload_n hx hb dX9_plainTells_7 rfl (lv_at hl 1 rfl) ?_
  refine lv_iload_n hx hb dX9_plainTells_8 rfl (lv_at hl 2 rfl) ?_
  obtain ⟨r_105, S_104, hc_106, h⟩ := bd_e h
  refine mw_calli (As := [.int a1, .int a2]) (rest := []) cx (cc_keeps l D cs ad S_101 S_104 a1 a2 r_105 hc_106) (cwV 2 hts (uG uw_X9_keeps ul_RX9_277 ui_X9_keeps us_RX9_X9_keeps un_RX9) rfl rfl rfl ud_X9_keeps ⟨Nat.le_of_ble_eq_true rfl, Nat.le_of_ble_eq_true rfl⟩) w rfl hl.1 rfl (Nat.le_of_ble_eq_true rfl) dX9_plainTells_9 (fun H locs w => ?_)
  refine lv_iconst (v := (2 : Int32)) hx hb dX9_plainTells_12 (by decide) ?_
  refine lv_imul hx hb dX9_plainTells_13 ?_
  exact mw_iret cx (rt_e h) w dX9_plainTells_14
def mm_tells_101 (x1 : Int32) (x2 : Int32) (S : MS) : Option (Int32 × MS) := bd (mm_plainTells S x1 x2) (fun r_102 S_101 => some (r_102, S_101))
def mm_tells_40 (x1 : Int32) (x2 : Int32) (S : MS) : Option (Int32 × MS) := bd (mm_body S (31 : Int32)) (fun _ S_204 => bd (mm_plainTells S_204 x1 x2) (fun r_208 S_207 => bd (mm_keeps S_207 x1 (1 : Int32)) (fun r_211 S_210 => some ((r_208 + r_211), S_210))))
def mm_tells (S : MS) (a1 : Int32) (a2 : Int32) : Option (Int32 × MS) := ck (vin a1 14) (if (S.2.1 4 (a1).toNatClampNeg) = (2 : Int32) then (mm_tells_40  a1 a2 S) else (if (S.2.1 4 (a1).toNatClampNeg) = (4 : Int32) then (bd (mm_body S (50 : Int32)) (fun _ S_316 => bd (mm_plainTells S_316 a1 (a2 - a1)) (fun r_320 S_319 => some (r_320, S_319)))) else (if (S.2.1 4 (a1).toNatClampNeg) = (5 : Int32) then (mm_tells_40  a1 a2 S) else (if (S.2.1 4 (a1).toNatClampNeg) = (6 : Int32) then (bd (mm_body S (70 : Int32)) (fun _ S_324 => bd (mm_keeps S_324 a1 a2) (fun r_328 S_327 => bd (mm_plainTells S_327 a1 a2) (fun r_331 S_330 => some ((r_328 - r_331), S_330))))) else (mm_tells_101  a1 a2 S)))))
abbrev wu_X9_tells : List Cond := .code yX9_tells cX9_tells 5 (some .int) :: wsL_law
theorem ud_X9_tells : yX9_tells.cls = RX9 ∧ yX9_tells.cls ≠ "java/lang/invoke/MethodHandle" ∧ yX9_tells.cls ≠ "java/lang/invoke/VarHandle" ∧ (parseMethodDescriptor yX9_tells.desc).map (fun d => d.parameters.length) = some 2 := by decide +kernel
abbrev rmX9_tells : Room := { frames := 8, cells := 0, slots := 0, locals := 176 }
set_option maxHeartbeats 4000000 in
set_option maxRecDepth 100000 in
theorem cc_tells (l : Launch) (D : va_G) (cs : Nat → ClassId) (ad : Nat → Nat) (S T : MS) (a1 : Int32) (a2 : Int32) (r0 : Int32) (h : mm_tells S a1 a2 = some (r0, T)) : MetI l yX9_tells wu_X9_tells rmX9_tells D cs ad [.int a1, .int a2] S T r0 := by
  refine mo_I (ty := .int) (cc := cX9_tells) (maxL := 5) ⟨by decide, rfl⟩ rfl (Nat.le_of_ble_eq_true rfl) ?_
  intro p e s m args below meth c ls cx hl w
  have hx := cx.1
  have hb := cx.2.1
  have hts := cx.2.2.2.1
  have hown := cx.2.2.2.2.1
  have hin : ∀ w ∈ wsX90, w ∈ wu_X9_tells := fun _ hq => List.mem_cons_of_mem _ (inlX9 _ hq)
  have hl : lv_has ls 5 [(0, .ref (ad 100)), (1, .int a1), (2, .int a2)] := hl
  have J101 : ∀ (x1 : Int32) (x2 : Int32) (S : MS), mm_tells_101  x1 x2 S = some (r0, T) → mGo p l e rmX9_tells s m args below meth c 5 D cs ad (mQI below D cs ad args s r0 T) 101 [(0, .ref (ad 100)), (1, .int x1), (2, .int x2)] [] S := by
    intro x1 x2 S h H locs ls hl w
    unfold mm_tells_101 at h
    refine lv_aload_n hx hb dX9_tells_101 rfl (lv_at hl 0 rfl) ?_
    refine lv_iload_n hx hb dX9_tells_102 rfl (lv_at hl 1 rfl) ?_
    refine lv_iload_n hx hb dX9_tells_103 rfl (lv_at hl 2 rfl) ?_
    obtain ⟨r_102, S_101, hc_103, h⟩ := bd_e h
    refine mw_calli (As := [.int x1, .int x2]) (rest := []) cx (cc_plainTells l D cs ad S S_101 x1 x2 r_102 hc_103) (cwV 2 hts (uG uw_X9_plainTells ul_RX9_280 ui_X9_plainTells us_RX9_X9_plainTells un_RX9) rfl rfl rfl ud_X9_plainTells ⟨Nat.le_of_ble_eq_true rfl, Nat.le_of_ble_eq_true rfl⟩) w rfl hl.1 rfl (Nat.le_of_ble_eq_true rfl) dX9_tells_104 (fun H locs w => ?_)
    exact mw_iret cx (rt_e h) w dX9_tells_107
  have J40 : ∀ (x1 : Int32) (x2 : Int32) (S : MS), mm_tells_40  x1 x2 S = some (r0, T) → mGo p l e rmX9_tells s m args below meth c 5 D cs ad (mQI below D cs ad args s r0 T) 40 [(0, .ref (ad 100)), (1, .int x1), (2, .int x2)] [] S := by
    intro x1 x2 S h H locs ls hl w
    unfold mm_tells_40 at h
    refine lv_aload_n hx hb dX9_tells_40 rfl (lv_at hl 0 rfl) ?_
    refine lv_bipush (v := (31 : Int32)) hx hb dX9_tells_41 (by decide) ?_
    obtain ⟨r_205, S_204, hc_206, h⟩ := bd_e h
    refine mw_callv (As := [.int (31 : Int32)]) (rest := []) cx (cc_body l D cs ad S S_204 (31 : Int32) r_205 hc_206) (cwV 1 hts (uG uw_X9_body ul_RX9_258 ui_X9_body us_RX9_X9_body un_RX9) rfl rfl rfl ud_X9_body ⟨Nat.le_of_ble_eq_true rfl, Nat.le_of_ble_eq_true rfl⟩) w rfl hl.1 rfl (Nat.le_of_ble_eq_true rfl) dX9_tells_43 (fun H locs w => ?_)
    refine lv_aload_n hx hb dX9_tells_46 rfl (lv_at hl 0 rfl) ?_
    refine lv_iload_n hx hb dX9_tells_47 rfl (lv_at hl 1 rfl) ?_
    refine lv_iload_n hx hb dX9_tells_48 rfl (lv_at hl 2 rfl) ?_
    obtain ⟨r_208, S_207, hc_209, h⟩ := bd_e h
    refine mw_calli (As := [.int x1, .int x2]) (rest := []) cx (cc_plainTells l D cs ad S_204 S_207 x1 x2 r_208 hc_209) (cwV 2 hts (uG uw_X9_plainTells ul_RX9_280 ui_X9_plainTells us_RX9_X9_plainTells un_RX9) rfl rfl rfl ud_X9_plainTells ⟨Nat.le_of_ble_eq_true rfl, Nat.le_of_ble_eq_true rfl⟩) w rfl hl.1 rfl (Nat.le_of_ble_eq_true rfl) dX9_tells_49 (fun H locs w => ?_)
    refine lv_istore_n (lv' := [(3, .int r_208), (0, .ref (ad 100)), (1, .int x1), (2, .int x2)]) hx hb dX9_tells_52 rfl hl (by decide) rfl (fun ls hl => ?_)
    refine lv_iload_n hx hb dX9_tells_53 rfl (lv_at hl 0 rfl) ?_
    refine lv_aload_n hx hb dX9_tells_54 rfl (lv_at hl 1 rfl) ?_
    refine lv_iload_n hx hb dX9_tells_55 rfl (lv_at hl 2 rfl) ?_
    refine lv_iconst (v := (1 : Int32)) hx hb dX9_tells_56 (by decide) ?_
    obtain ⟨r_211, S_210, hc_212, h⟩ := bd_e h
    refine mw_calli (As := [.int x1, .int (1 : Int32)]) (rest := [.int r_208]) cx (cc_keeps l D cs ad S_207 S_210 x1 (1 : Int32) r_211 hc_212) (cwV 2 hts (uG uw_X9_keeps ul_RX9_277 ui_X9_keeps us_RX9_X9_keeps un_RX9) rfl rfl rfl ud_X9_keeps ⟨Nat.le_of_ble_eq_true rfl, Nat.le_of_ble_eq_true rfl⟩) w rfl hl.1 rfl (Nat.le_of_ble_eq_true rfl) dX9_tells_57 (fun H locs w => ?_)
    refine lv_iadd hx hb dX9_tells_60 ?_
    exact mw_iret cx (rt_e h) w dX9_tells_61
  unfold mm_tells at h
  refine lv_aload_n hx hb dX9_tells_0 rfl (lv_at hl 0 rfl) ?_
  refine mw_getR cx hin w 4 (by decide) (List.mem_cons_of_mem _ uf_RX9_23) dX9_tells_1 ?_
  refine lv_iload_n hx hb dX9_tells_4 rfl (lv_at hl 1 rfl) ?_
  obtain ⟨hq_313, h⟩ := ck_e h
  refine mw_iald cx w 1 4 14 (by decide) hq_313 dX9_tells_5 ?_
  by_cases q_314 : (S.2.1 4 (a1).toNatClampNeg) = (2 : Int32)
  · have h := br_p q_314 h
    refine lv_tableIn (tgt := 40) hx hb dX9_tells_6 (by rw [q_314]; decide) (by rw [q_314]; decide) (by rw [q_314]; rfl) (by decide) ?_
    exact J40  a1 a2 S h _ _ _ (lv_sub hl [0, 1, 2] rfl) w
  have h := br_n q_314 h
  by_cases q_315 : (S.2.1 4 (a1).toNatClampNeg) = (4 : Int32)
  · have h := br_p q_315 h
    refine lv_tableIn (tgt := 62) hx hb dX9_tells_6 (by rw [q_315]; decide) (by rw [q_315]; decide) (by rw [q_315]; rfl) (by decide) ?_
    refine lv_aload_n hx hb dX9_tells_62 rfl (lv_at hl 0 rfl) ?_
    refine lv_bipush (v := (50 : Int32)) hx hb dX9_tells_63 (by decide) ?_
    obtain ⟨r_317, S_316, hc_318, h⟩ := bd_e h
    refine mw_callv (As := [.int (50 : Int32)]) (rest := []) cx (cc_body l D cs ad S S_316 (50 : Int32) r_317 hc_318) (cwV 1 hts (uG uw_X9_body ul_RX9_258 ui_X9_body us_RX9_X9_body un_RX9) rfl rfl rfl ud_X9_body ⟨Nat.le_of_ble_eq_true rfl, Nat.le_of_ble_eq_true rfl⟩) w rfl hl.1 rfl (Nat.le_of_ble_eq_true rfl) dX9_tells_65 (fun H locs w => ?_)
    refine lv_aload_n hx hb dX9_tells_68 rfl (lv_at hl 0 rfl) ?_
    refine lv_iload_n hx hb dX9_tells_69 rfl (lv_at hl 1 rfl) ?_
    refine lv_iload_n hx hb dX9_tells_70 rfl (lv_at hl 2 rfl) ?_
    refine lv_iload_n hx hb dX9_tells_71 rfl (lv_at hl 1 rfl) ?_
    refine lv_isub hx hb dX9_tells_72 ?_
    obtain ⟨r_320, S_319, hc_321, h⟩ := bd_e h
    refine mw_calli (As := [.int a1, .int (a2 - a1)]) (rest := []) cx (cc_plainTells l D cs ad S_316 S_319 a1 (a2 - a1) r_320 hc_321) (cwV 2 hts (uG uw_X9_plainTells ul_RX9_280 ui_X9_plainTells us_RX9_X9_plainTells un_RX9) rfl rfl rfl ud_X9_plainTells ⟨Nat.le_of_ble_eq_true rfl, Nat.le_of_ble_eq_true rfl⟩) w rfl hl.1 rfl (Nat.le_of_ble_eq_true rfl) dX9_tells_73 (fun H locs w => ?_)
    exact mw_iret cx (rt_e h) w dX9_tells_76
  have h := br_n q_315 h
  by_cases q_322 : (S.2.1 4 (a1).toNatClampNeg) = (5 : Int32)
  · have h := br_p q_322 h
    refine lv_tableIn (tgt := 40) hx hb dX9_tells_6 (by rw [q_322]; decide) (by rw [q_322]; decide) (by rw [q_322]; rfl) (by decide) ?_
    exact J40  a1 a2 S h _ _ _ (lv_sub hl [0, 1, 2] rfl) w
  have h := br_n q_322 h
  by_cases q_323 : (S.2.1 4 (a1).toNatClampNeg) = (6 : Int32)
  · have h := br_p q_323 h
    refine lv_tableIn (tgt := 77) hx hb dX9_tells_6 (by rw [q_323]; decide) (by rw [q_323]; decide) (by rw [q_323]; rfl) (by decide) ?_
    refine lv_aload_n hx hb dX9_tells_77 rfl (lv_at hl 0 rfl) ?_
    refine lv_bipush (v := (70 : Int32)) hx hb dX9_tells_78 (by decide) ?_
    obtain ⟨r_325, S_324, hc_326, h⟩ := bd_e h
    refine mw_callv (As := [.int (70 : Int32)]) (rest := []) cx (cc_body l D cs ad S S_324 (70 : Int32) r_325 hc_326) (cwV 1 hts (uG uw_X9_body ul_RX9_258 ui_X9_body us_RX9_X9_body un_RX9) rfl rfl rfl ud_X9_body ⟨Nat.le_of_ble_eq_true rfl, Nat.le_of_ble_eq_true rfl⟩) w rfl hl.1 rfl (Nat.le_of_ble_eq_true rfl) dX9_tells_80 (fun H locs w => ?_)
    refine lv_aload_n hx hb dX9_tells_83 rfl (lv_at hl 0 rfl) ?_
    refine lv_iload_n hx hb dX9_tells_84 rfl (lv_at hl 1 rfl) ?_
    refine lv_iload_n hx hb dX9_tells_85 rfl (lv_at hl 2 rfl) ?_
    obtain ⟨r_328, S_327, hc_329, h⟩ := bd_e h
    refine mw_calli (As := [.int a1, .int a2]) (rest := []) cx (cc_keeps l D cs ad S_324 S_327 a1 a2 r_328 hc_329) (cwV 2 hts (uG uw_X9_keeps ul_RX9_277 ui_X9_keeps us_RX9_X9_keeps un_RX9) rfl rfl rfl ud_X9_keeps ⟨Nat.le_of_ble_eq_true rfl, Nat.le_of_ble_eq_true rfl⟩) w rfl hl.1 rfl (Nat.le_of_ble_eq_true rfl) dX9_tells_86 (fun H locs w => ?_)
    refine lv_istore (lv' := [(4, .int r_328), (0, .ref (ad 100)), (1, .int a1), (2, .int a2)]) hx hb dX9_tells_89 hl (by decide) rfl (fun ls hl => ?_)
    refine lv_iload hx hb dX9_tells_91 (lv_at hl 0 rfl) ?_
    refine lv_aload_n hx hb dX9_tells_93 rfl (lv_at hl 1 rfl) ?_
    refine lv_iload_n hx hb dX9_tells_94 rfl (lv_at hl 2 rfl) ?_
    refine lv_iload_n hx hb dX9_tells_95 rfl (lv_at hl 3 rfl) ?_
    obtain ⟨r_331, S_330, hc_332, h⟩ := bd_e h
    refine mw_calli (As := [.int a1, .int a2]) (rest := [.int r_328]) cx (cc_plainTells l D cs ad S_327 S_330 a1 a2 r_331 hc_332) (cwV 2 hts (uG uw_X9_plainTells ul_RX9_280 ui_X9_plainTells us_RX9_X9_plainTells un_RX9) rfl rfl rfl ud_X9_plainTells ⟨Nat.le_of_ble_eq_true rfl, Nat.le_of_ble_eq_true rfl⟩) w rfl hl.1 rfl (Nat.le_of_ble_eq_true rfl) dX9_tells_96 (fun H locs w => ?_)
    refine lv_isub hx hb dX9_tells_99 ?_
    exact mw_iret cx (rt_e h) w dX9_tells_100
  have h := br_n q_323 h
  refine lv_tableH (tgt := 101) hx hb dX9_tells_6 (by by_cases q_333 : (S.2.1 4 (a1).toNatClampNeg) = (3 : Int32); exact Or.inr ⟨by rw [q_333]; decide, by rw [q_333]; decide, by rw [q_333]; rfl⟩; exact Or.inl (by have := lv_neT q_314 (a := 2) (by decide); have := lv_neT q_315 (a := 4) (by decide); have := lv_neT q_322 (a := 5) (by decide); have := lv_neT q_323 (a := 6) (by decide); have := lv_neT q_333 (a := 3) (by decide); omega)) (by decide) ?_
  exact J101  a1 a2 S h _ _ _ (lv_sub hl [0, 1, 2] rfl) w
def mm_act_23  (S : MS) : Option (Int32 × MS) := some ((0 : Int32), S)
def mm_act (S : MS) (a1 : Int32) (a2 : Int32) (a3 : Int32) : Option (Int32 × MS) := lt_ (mP S 34 (0 : Int32)) (fun S_201 => bd (mm_isWord S_201 a1) (fun r_203 S_202 => if r_203 = (0 : Int32) then (mm_act_23   S_202) else (bd (mm_in S_202 a2 (0 : Int32) (2 : Int32)) (fun r_206 S_205 => if r_206 = (0 : Int32) then (mm_act_23   S_205) else (if a2 = (0 : Int32) then (bd (mm_hears S_205 a1 a3) (fun r_215 S_214 => some (r_215, S_214))) else (if a2 = (1 : Int32) then (bd (mm_keeps S_205 a1 a3) (fun r_212 S_211 => some (r_212, S_211))) else (bd (mm_tells S_205 a1 a3) (fun r_209 S_208 => some (r_209, S_208)))))))))
abbrev wu_X9_act : List Cond := .code yX9_act cX9_act 4 (some .int) :: wsL_law
theorem ud_X9_act : yX9_act.cls = RX9 ∧ yX9_act.cls ≠ "java/lang/invoke/MethodHandle" ∧ yX9_act.cls ≠ "java/lang/invoke/VarHandle" ∧ (parseMethodDescriptor yX9_act.desc).map (fun d => d.parameters.length) = some 3 := by decide +kernel
abbrev rmX9_act : Room := { frames := 9, cells := 0, slots := 0, locals := 200 }
set_option maxHeartbeats 4000000 in
set_option maxRecDepth 100000 in
theorem cc_act (l : Launch) (D : va_G) (cs : Nat → ClassId) (ad : Nat → Nat) (S T : MS) (a1 : Int32) (a2 : Int32) (a3 : Int32) (r0 : Int32) (h : mm_act S a1 a2 a3 = some (r0, T)) : MetI l yX9_act wu_X9_act rmX9_act D cs ad [.int a1, .int a2, .int a3] S T r0 := by
  refine mo_I (ty := .int) (cc := cX9_act) (maxL := 4) ⟨by decide, rfl⟩ rfl (Nat.le_of_ble_eq_true rfl) ?_
  intro p e s m args below meth c ls cx hl w
  have hx := cx.1
  have hb := cx.2.1
  have hts := cx.2.2.2.1
  have hown := cx.2.2.2.2.1
  have hin : ∀ w ∈ wsX90, w ∈ wu_X9_act := fun _ hq => List.mem_cons_of_mem _ (inlX9 _ hq)
  have hl : lv_has ls 4 [(0, .ref (ad 100)), (1, .int a1), (2, .int a2), (3, .int a3)] := hl
  have J23 : ∀  (S : MS), mm_act_23   S = some (r0, T) → mGo p l e rmX9_act s m args below meth c 4 D cs ad (mQI below D cs ad args s r0 T) 23 [] [] S := by
    intro  S h H locs ls hl w
    unfold mm_act_23 at h
    refine lv_iconst (v := (0 : Int32)) hx hb dX9_act_23 (by decide) ?_
    exact mw_iret cx (rt_e h) w dX9_act_24
  unfold mm_act at h
  refine lv_aload_n hx hb dX9_act_0 rfl (lv_at hl 0 rfl) ?_
  refine lv_iconst (v := (0 : Int32)) hx hb dX9_act_1 (by decide) ?_
  obtain ⟨S_201, eS_201, h⟩ := lt_e h
  refine mw_putI cx hin w 34 eS_201 (by decide +kernel) (List.mem_cons_of_mem _ uf_RX9_114) dX9_act_2 (fun H locs w => ?_)
  refine lv_aload_n hx hb dX9_act_5 rfl (lv_at hl 0 rfl) ?_
  refine lv_iload_n hx hb dX9_act_6 rfl (lv_at hl 1 rfl) ?_
  obtain ⟨r_203, S_202, hc_204, h⟩ := bd_e h
  refine mw_calli (As := [.int a1]) (rest := []) cx (cc_isWord l D cs ad S_201 S_202 a1 r_203 hc_204) (cwV 1 hts (uG uw_X9_isWord ul_RX9_137 ui_X9_isWord us_RX9_X9_isWord un_RX9) rfl rfl rfl ud_X9_isWord ⟨Nat.le_of_ble_eq_true rfl, Nat.le_of_ble_eq_true rfl⟩) w rfl hl.1 rfl (Nat.le_of_ble_eq_true rfl) dX9_act_7 (fun H locs w => ?_)
  refine lv_if_eq (tgt := 23) hx hb dX9_act_10 (by decide) (fun q => ?_) (fun q => ?_)
  · have h := br_p q h
    exact J23   S_202 h _ _ _ (lv_sub hl [] rfl) w
  · have h := br_n q h
    refine lv_aload_n hx hb dX9_act_13 rfl (lv_at hl 0 rfl) ?_
    refine lv_iload_n hx hb dX9_act_14 rfl (lv_at hl 2 rfl) ?_
    refine lv_iconst (v := (0 : Int32)) hx hb dX9_act_15 (by decide) ?_
    refine lv_iconst (v := (2 : Int32)) hx hb dX9_act_16 (by decide) ?_
    obtain ⟨r_206, S_205, hc_207, h⟩ := bd_e h
    refine mw_calli (As := [.int a2, .int (0 : Int32), .int (2 : Int32)]) (rest := []) cx (cc_in l D cs ad S_202 S_205 a2 (0 : Int32) (2 : Int32) r_206 hc_207) (cwV 3 hts (uG uw_X9_in ul_RX9_133 ui_X9_in us_RX9_X9_in un_RX9) rfl rfl rfl ud_X9_in ⟨Nat.le_of_ble_eq_true rfl, Nat.le_of_ble_eq_true rfl⟩) w rfl hl.1 rfl (Nat.le_of_ble_eq_true rfl) dX9_act_17 (fun H locs w => ?_)
    refine lv_if_ne (tgt := 25) hx hb dX9_act_20 (by decide) (fun q => ?_) (fun q => ?_)
    · have h := br_n q h
      refine lv_iload_n hx hb dX9_act_25 rfl (lv_at hl 2 rfl) ?_
      refine lv_if_ne (tgt := 38) hx hb dX9_act_26 (by decide) (fun q => ?_) (fun q => ?_)
      · have h := br_n q h
        refine lv_iload_n hx hb dX9_act_38 rfl (lv_at hl 2 rfl) ?_
        refine lv_iconst (v := (1 : Int32)) hx hb dX9_act_39 (by decide) ?_
        refine lv_icmp_ne (tgt := 52) hx hb dX9_act_40 (by decide) (fun q => ?_) (fun q => ?_)
        · have h := br_n q h
          refine lv_aload_n hx hb dX9_act_52 rfl (lv_at hl 0 rfl) ?_
          refine lv_iload_n hx hb dX9_act_53 rfl (lv_at hl 1 rfl) ?_
          refine lv_iload_n hx hb dX9_act_54 rfl (lv_at hl 3 rfl) ?_
          obtain ⟨r_209, S_208, hc_210, h⟩ := bd_e h
          refine mw_calli (As := [.int a1, .int a3]) (rest := []) cx (cc_tells l D cs ad S_205 S_208 a1 a3 r_209 hc_210) (cwV 2 hts (uG uw_X9_tells ul_RX9_283 ui_X9_tells us_RX9_X9_tells un_RX9) rfl rfl rfl ud_X9_tells ⟨Nat.le_of_ble_eq_true rfl, Nat.le_of_ble_eq_true rfl⟩) w rfl hl.1 rfl (Nat.le_of_ble_eq_true rfl) dX9_act_55 (fun H locs w => ?_)
          exact mw_iret cx (rt_e h) w dX9_act_58
        · have h := br_p q h
          refine lv_aload_n hx hb dX9_act_43 rfl (lv_at hl 0 rfl) ?_
          refine lv_iload_n hx hb dX9_act_44 rfl (lv_at hl 1 rfl) ?_
          refine lv_iload_n hx hb dX9_act_45 rfl (lv_at hl 3 rfl) ?_
          obtain ⟨r_212, S_211, hc_213, h⟩ := bd_e h
          refine mw_calli (As := [.int a1, .int a3]) (rest := []) cx (cc_keeps l D cs ad S_205 S_211 a1 a3 r_212 hc_213) (cwV 2 hts (uG uw_X9_keeps ul_RX9_277 ui_X9_keeps us_RX9_X9_keeps un_RX9) rfl rfl rfl ud_X9_keeps ⟨Nat.le_of_ble_eq_true rfl, Nat.le_of_ble_eq_true rfl⟩) w rfl hl.1 rfl (Nat.le_of_ble_eq_true rfl) dX9_act_46 (fun H locs w => ?_)
          refine lv_goto (tgt := 58) hx hb dX9_act_49 (by decide) ?_
          exact mw_iret cx (rt_e h) w dX9_act_58
      · have h := br_p q h
        refine lv_aload_n hx hb dX9_act_29 rfl (lv_at hl 0 rfl) ?_
        refine lv_iload_n hx hb dX9_act_30 rfl (lv_at hl 1 rfl) ?_
        refine lv_iload_n hx hb dX9_act_31 rfl (lv_at hl 3 rfl) ?_
        obtain ⟨r_215, S_214, hc_216, h⟩ := bd_e h
        refine mw_calli (As := [.int a1, .int a3]) (rest := []) cx (cc_hears l D cs ad S_205 S_214 a1 a3 r_215 hc_216) (cwV 2 hts (uG uw_X9_hears ul_RX9_268 ui_X9_hears us_RX9_X9_hears un_RX9) rfl rfl rfl ud_X9_hears ⟨Nat.le_of_ble_eq_true rfl, Nat.le_of_ble_eq_true rfl⟩) w rfl hl.1 rfl (Nat.le_of_ble_eq_true rfl) dX9_act_32 (fun H locs w => ?_)
        refine lv_goto (tgt := 58) hx hb dX9_act_35 (by decide) ?_
        exact mw_iret cx (rt_e h) w dX9_act_58
    · have h := br_p q h
      exact J23   S_205 h _ _ _ (lv_sub hl [] rfl) w
def mm_trace_28  (S : MS) : Option (Int32 × MS) := some ((-1 : Int32), S)
def mm_trace (S : MS) (a1 : Int32) : Option (Int32 × MS) := bd (mm_in S a1 (0 : Int32) (19 : Int32)) (fun r_202 S_201 => if r_202 = (0 : Int32) then (mm_trace_28   S_201) else (if (S_201.1 34) ≤ a1 then (mm_trace_28   S_201) else (ck (vin a1 20) (some ((S_201.2.1 35 (a1).toNatClampNeg), S_201)))))
abbrev wu_X9_trace : List Cond := .code yX9_trace cX9_trace 2 (some .int) :: wsL_law
theorem ud_X9_trace : yX9_trace.cls = RX9 ∧ yX9_trace.cls ≠ "java/lang/invoke/MethodHandle" ∧ yX9_trace.cls ≠ "java/lang/invoke/VarHandle" ∧ (parseMethodDescriptor yX9_trace.desc).map (fun d => d.parameters.length) = some 1 := by decide +kernel
abbrev rmX9_trace : Room := { frames := 1, cells := 0, slots := 0, locals := 23 }
set_option maxHeartbeats 4000000 in
set_option maxRecDepth 100000 in
theorem cc_trace (l : Launch) (D : va_G) (cs : Nat → ClassId) (ad : Nat → Nat) (S T : MS) (a1 : Int32) (r0 : Int32) (h : mm_trace S a1 = some (r0, T)) : MetI l yX9_trace wu_X9_trace rmX9_trace D cs ad [.int a1] S T r0 := by
  refine mo_I (ty := .int) (cc := cX9_trace) (maxL := 2) ⟨by decide, rfl⟩ rfl (Nat.le_of_ble_eq_true rfl) ?_
  intro p e s m args below meth c ls cx hl w
  have hx := cx.1
  have hb := cx.2.1
  have hts := cx.2.2.2.1
  have hown := cx.2.2.2.2.1
  have hin : ∀ w ∈ wsX90, w ∈ wu_X9_trace := fun _ hq => List.mem_cons_of_mem _ (inlX9 _ hq)
  have hl : lv_has ls 2 [(0, .ref (ad 100)), (1, .int a1)] := hl
  have J28 : ∀  (S : MS), mm_trace_28   S = some (r0, T) → mGo p l e rmX9_trace s m args below meth c 2 D cs ad (mQI below D cs ad args s r0 T) 28 [] [] S := by
    intro  S h H locs ls hl w
    unfold mm_trace_28 at h
    refine lv_iconst (v := (-1 : Int32)) hx hb dX9_trace_28 (by decide) ?_
    exact mw_iret cx (rt_e h) w dX9_trace_29
  unfold mm_trace at h
  refine lv_aload_n hx hb dX9_trace_0 rfl (lv_at hl 0 rfl) ?_
  refine lv_iload_n hx hb dX9_trace_1 rfl (lv_at hl 1 rfl) ?_
  refine lv_iconst (v := (0 : Int32)) hx hb dX9_trace_2 (by decide) ?_
  refine lv_bipush (v := (19 : Int32)) hx hb dX9_trace_3 (by decide) ?_
  obtain ⟨r_202, S_201, hc_203, h⟩ := bd_e h
  refine mw_calli (As := [.int a1, .int (0 : Int32), .int (19 : Int32)]) (rest := []) cx (cc_in l D cs ad S S_201 a1 (0 : Int32) (19 : Int32) r_202 hc_203) (cwV 3 hts (uG uw_X9_in ul_RX9_133 ui_X9_in us_RX9_X9_in un_RX9) rfl rfl rfl ud_X9_in ⟨Nat.le_of_ble_eq_true rfl, Nat.le_of_ble_eq_true rfl⟩) w rfl hl.1 rfl (Nat.le_of_ble_eq_true rfl) dX9_trace_5 (fun H locs w => ?_)
  refine lv_if_eq (tgt := 28) hx hb dX9_trace_8 (by decide) (fun q => ?_) (fun q => ?_)
  · have h := br_p q h
    exact J28   S_201 h _ _ _ (lv_sub hl [] rfl) w
  · have h := br_n q h
    refine lv_iload_n hx hb dX9_trace_11 rfl (lv_at hl 1 rfl) ?_
    refine lv_aload_n hx hb dX9_trace_12 rfl (lv_at hl 0 rfl) ?_
    refine mw_getI cx hin w 34 (by decide) (List.mem_cons_of_mem _ uf_RX9_114) dX9_trace_13 ?_
    refine lv_icmp_ge (tgt := 28) hx hb dX9_trace_16 (by decide) (fun q => ?_) (fun q => ?_)
    · have h := br_p q h
      exact J28   S_201 h _ _ _ (lv_sub hl [] rfl) w
    · have h := br_n q h
      refine lv_aload_n hx hb dX9_trace_19 rfl (lv_at hl 0 rfl) ?_
      refine mw_getR cx hin w 35 (by decide) (List.mem_cons_of_mem _ uf_RX9_117) dX9_trace_20 ?_
      refine lv_iload_n hx hb dX9_trace_23 rfl (lv_at hl 1 rfl) ?_
      obtain ⟨hq_204, h⟩ := ck_e h
      refine mw_iald cx w 22 35 20 (by decide) hq_204 dX9_trace_24 ?_
      refine lv_goto (tgt := 29) hx hb dX9_trace_25 (by decide) ?_
      exact mw_iret cx (rt_e h) w dX9_trace_29
def mm_taken (S : MS) (a1 : Int32) (a2 : Int32) : Option (Int32 × MS) := bd (mm_in S a2 (0 : Int32) (6 : Int32)) (fun r_102 S_101 => if r_102 = (0 : Int32) then (some ((-2 : Int32), S_101)) else (bd (mm_isWord S_101 a1) (fun r_105 S_104 => if r_105 = (0 : Int32) then (some ((-11 : Int32), S_104)) else (ck (vin a1 14) (bd (mm_isUnder S_104 (S_104.2.1 4 (a1).toNatClampNeg) a2) (fun r_109 S_108 => if r_109 = (0 : Int32) then (some ((-12 : Int32), S_108)) else (ck (vin a1 14) (some ((S_108.2.1 4 (a1).toNatClampNeg), S_108)))))))))
abbrev wu_X9_taken : List Cond := .code yX9_taken cX9_taken 3 (some .int) :: wsL_law
theorem ud_X9_taken : yX9_taken.cls = RX9 ∧ yX9_taken.cls ≠ "java/lang/invoke/MethodHandle" ∧ yX9_taken.cls ≠ "java/lang/invoke/VarHandle" ∧ (parseMethodDescriptor yX9_taken.desc).map (fun d => d.parameters.length) = some 2 := by decide +kernel
abbrev rmX9_taken : Room := { frames := 2, cells := 0, slots := 0, locals := 44 }
set_option maxHeartbeats 4000000 in
set_option maxRecDepth 100000 in
theorem cc_taken (l : Launch) (D : va_G) (cs : Nat → ClassId) (ad : Nat → Nat) (S T : MS) (a1 : Int32) (a2 : Int32) (r0 : Int32) (h : mm_taken S a1 a2 = some (r0, T)) : MetI l yX9_taken wu_X9_taken rmX9_taken D cs ad [.int a1, .int a2] S T r0 := by
  refine mo_I (ty := .int) (cc := cX9_taken) (maxL := 3) ⟨by decide, rfl⟩ rfl (Nat.le_of_ble_eq_true rfl) ?_
  intro p e s m args below meth c ls cx hl w
  have hx := cx.1
  have hb := cx.2.1
  have hts := cx.2.2.2.1
  have hown := cx.2.2.2.2.1
  have hin : ∀ w ∈ wsX90, w ∈ wu_X9_taken := fun _ hq => List.mem_cons_of_mem _ (inlX9 _ hq)
  have hl : lv_has ls 3 [(0, .ref (ad 100)), (1, .int a1), (2, .int a2)] := hl
  unfold mm_taken at h
  refine lv_aload_n hx hb dX9_taken_0 rfl (lv_at hl 0 rfl) ?_
  refine lv_iload_n hx hb dX9_taken_1 rfl (lv_at hl 2 rfl) ?_
  refine lv_iconst (v := (0 : Int32)) hx hb dX9_taken_2 (by decide) ?_
  refine lv_bipush (v := (6 : Int32)) hx hb dX9_taken_3 (by decide) ?_
  obtain ⟨r_102, S_101, hc_103, h⟩ := bd_e h
  refine mw_calli (As := [.int a2, .int (0 : Int32), .int (6 : Int32)]) (rest := []) cx (cc_in l D cs ad S S_101 a2 (0 : Int32) (6 : Int32) r_102 hc_103) (cwV 3 hts (uG uw_X9_in ul_RX9_133 ui_X9_in us_RX9_X9_in un_RX9) rfl rfl rfl ud_X9_in ⟨Nat.le_of_ble_eq_true rfl, Nat.le_of_ble_eq_true rfl⟩) w rfl hl.1 rfl (Nat.le_of_ble_eq_true rfl) dX9_taken_5 (fun H locs w => ?_)
  refine lv_if_ne (tgt := 14) hx hb dX9_taken_8 (by decide) (fun q => ?_) (fun q => ?_)
  · have h := br_n q h
    refine lv_aload_n hx hb dX9_taken_14 rfl (lv_at hl 0 rfl) ?_
    refine lv_iload_n hx hb dX9_taken_15 rfl (lv_at hl 1 rfl) ?_
    obtain ⟨r_105, S_104, hc_106, h⟩ := bd_e h
    refine mw_calli (As := [.int a1]) (rest := []) cx (cc_isWord l D cs ad S_101 S_104 a1 r_105 hc_106) (cwV 1 hts (uG uw_X9_isWord ul_RX9_137 ui_X9_isWord us_RX9_X9_isWord un_RX9) rfl rfl rfl ud_X9_isWord ⟨Nat.le_of_ble_eq_true rfl, Nat.le_of_ble_eq_true rfl⟩) w rfl hl.1 rfl (Nat.le_of_ble_eq_true rfl) dX9_taken_16 (fun H locs w => ?_)
    refine lv_if_ne (tgt := 25) hx hb dX9_taken_19 (by decide) (fun q => ?_) (fun q => ?_)
    · have h := br_n q h
      refine lv_aload_n hx hb dX9_taken_25 rfl (lv_at hl 0 rfl) ?_
      refine lv_aload_n hx hb dX9_taken_26 rfl (lv_at hl 0 rfl) ?_
      refine mw_getR cx hin w 4 (by decide) (List.mem_cons_of_mem _ uf_RX9_23) dX9_taken_27 ?_
      refine lv_iload_n hx hb dX9_taken_30 rfl (lv_at hl 1 rfl) ?_
      obtain ⟨hq_107, h⟩ := ck_e h
      refine mw_iald cx w 1 4 14 (by decide) hq_107 dX9_taken_31 ?_
      refine lv_iload_n hx hb dX9_taken_32 rfl (lv_at hl 2 rfl) ?_
      obtain ⟨r_109, S_108, hc_110, h⟩ := bd_e h
      refine mw_calli (As := [.int (S_104.2.1 4 (a1).toNatClampNeg), .int a2]) (rest := []) cx (cc_isUnder l D cs ad S_104 S_108 (S_104.2.1 4 (a1).toNatClampNeg) a2 r_109 hc_110) (cwV 2 hts (uG uw_X9_isUnder ul_RX9_186 ui_X9_isUnder us_RX9_X9_isUnder un_RX9) rfl rfl rfl ud_X9_isUnder ⟨Nat.le_of_ble_eq_true rfl, Nat.le_of_ble_eq_true rfl⟩) w rfl hl.1 rfl (Nat.le_of_ble_eq_true rfl) dX9_taken_33 (fun H locs w => ?_)
      refine lv_if_eq (tgt := 48) hx hb dX9_taken_36 (by decide) (fun q => ?_) (fun q => ?_)
      · have h := br_p q h
        refine lv_bipush (v := (-12 : Int32)) hx hb dX9_taken_48 (by decide) ?_
        exact mw_iret cx (rt_e h) w dX9_taken_50
      · have h := br_n q h
        refine lv_aload_n hx hb dX9_taken_39 rfl (lv_at hl 0 rfl) ?_
        refine mw_getR cx hin w 4 (by decide) (List.mem_cons_of_mem _ uf_RX9_23) dX9_taken_40 ?_
        refine lv_iload_n hx hb dX9_taken_43 rfl (lv_at hl 1 rfl) ?_
        obtain ⟨hq_111, h⟩ := ck_e h
        refine mw_iald cx w 1 4 14 (by decide) hq_111 dX9_taken_44 ?_
        refine lv_goto (tgt := 50) hx hb dX9_taken_45 (by decide) ?_
        exact mw_iret cx (rt_e h) w dX9_taken_50
    · have h := br_p q h
      refine lv_bipush (v := (-11 : Int32)) hx hb dX9_taken_22 (by decide) ?_
      exact mw_iret cx (rt_e h) w dX9_taken_24
  · have h := br_p q h
    refine lv_bipush (v := (-2 : Int32)) hx hb dX9_taken_11 (by decide) ?_
    exact mw_iret cx (rt_e h) w dX9_taken_13
def mm_count_78 (k55 : Int32 → Int32 → MS → Option (Int32 × MS)) (x3 : Int32) (t0 : Int32) (t1 : Int32) (S : MS) : Option (Int32 × MS) := lt_ ((t0 + t1)) (fun x2_101 => lt_ (x3 + (1 : Int32)) (fun x3_102 => k55 x2_101 x3_102 S))
def mm_count_55 (k55 : Int32 → Int32 → MS → Option (Int32 × MS)) (x2 : Int32) (x3 : Int32) (S : MS) : Option (Int32 × MS) := if (S.1 9) ≤ x3 then (some (x2, S)) else (ck (vin x3 10) (if (S.2.1 13 (x3).toNatClampNeg) = (0 : Int32) then (mm_count_78 k55 x3 x2 (1 : Int32) S) else (mm_count_78 k55 x3 x2 (0 : Int32) S)))
def mm_count_55L : Nat → Int32 → Int32 → MS → Option (Int32 × MS)
  | 0, _, _, _ => none
  | n + 1, x2, x3, S => mm_count_55  (mm_count_55L  n) x2 x3 S
def mm_count (S : MS) (a1 : Int32) : Option (Int32 × MS) := if a1 = (0 : Int32) then (some ((S.1 0), S)) else (if a1 = (1 : Int32) then (some ((S.1 9), S)) else (if a1 = (2 : Int32) then (some ((S.1 10), S)) else (if a1 = (3 : Int32) then (lt_ ((0 : Int32)) (fun x2_308 => lt_ ((0 : Int32)) (fun x3_309 => mm_count_55L  4000 x2_308 x3_309 S))) else (if a1 = (4 : Int32) then (some ((S.1 34), S)) else (some ((-2 : Int32), S))))))
abbrev wu_X9_count : List Cond := .code yX9_count cX9_count 4 (some .int) :: wsL_law
theorem ud_X9_count : yX9_count.cls = RX9 ∧ yX9_count.cls ≠ "java/lang/invoke/MethodHandle" ∧ yX9_count.cls ≠ "java/lang/invoke/VarHandle" ∧ (parseMethodDescriptor yX9_count.desc).map (fun d => d.parameters.length) = some 1 := by decide +kernel
abbrev rmX9_count : Room := { frames := 0, cells := 0, slots := 0, locals := 0 }
set_option maxHeartbeats 4000000 in
set_option maxRecDepth 100000 in
theorem cc_count (l : Launch) (D : va_G) (cs : Nat → ClassId) (ad : Nat → Nat) (S T : MS) (a1 : Int32) (r0 : Int32) (h : mm_count S a1 = some (r0, T)) : MetI l yX9_count wu_X9_count rmX9_count D cs ad [.int a1] S T r0 := by
  refine mo_I (ty := .int) (cc := cX9_count) (maxL := 4) ⟨by decide, rfl⟩ rfl (Nat.le_of_ble_eq_true rfl) ?_
  intro p e s m args below meth c ls cx hl w
  have hx := cx.1
  have hb := cx.2.1
  have hts := cx.2.2.2.1
  have hown := cx.2.2.2.2.1
  have hin : ∀ w ∈ wsX90, w ∈ wu_X9_count := fun _ hq => List.mem_cons_of_mem _ (inlX9 _ hq)
  have hl : lv_has ls 4 [(0, .ref (ad 100)), (1, .int a1)] := hl
  have J78 : ∀ (k55 : Int32 → Int32 → MS → Option (Int32 × MS)) (hk55 : ∀ (x2 : Int32) (x3 : Int32) (S : MS), k55 x2 x3 S = some (r0, T) → mGo p l e rmX9_count s m args below meth c 4 D cs ad (mQI below D cs ad args s r0 T) 55 [(0, .ref (ad 100)), (2, .int x2), (3, .int x3)] [] S) (x3 : Int32) (t0 : Int32) (t1 : Int32) (S : MS), mm_count_78 k55 x3 t0 t1 S = some (r0, T) → mGo p l e rmX9_count s m args below meth c 4 D cs ad (mQI below D cs ad args s r0 T) 78 [(0, .ref (ad 100)), (3, .int x3)] [.int t1, .int t0] S := by
    intro k55 hk55 x3 t0 t1 S h H locs ls hl w
    unfold mm_count_78 at h
    refine lv_iadd hx hb dX9_count_78 ?_
    obtain ⟨x2_101, ex2_101, h⟩ := lt_e h
    refine top_i ex2_101 ?_
    refine lv_istore_n (lv' := [(2, .int x2_101), (0, .ref (ad 100)), (3, .int x3)]) hx hb dX9_count_79 rfl hl (by decide) rfl (fun ls hl => ?_)
    obtain ⟨x3_102, ex3_102, h⟩ := lt_e h
    refine lv_iinc (v := x3_102) (lv' := [(3, .int x3_102), (2, .int x2_101), (0, .ref (ad 100))]) hx hb dX9_count_80 hl (k := 2) rfl (by rw [ex3_102]; rfl) (by decide) rfl (fun ls hl => ?_)
    refine lv_goto (tgt := 55) hx hb dX9_count_83 (by decide) ?_
    exact hk55 x2_101 x3_102 S h _ _ _ (lv_sub hl [2, 1, 0] rfl) w
  have L55 : ∀ (n : Nat) (x2 : Int32) (x3 : Int32) (S : MS), mm_count_55L  n x2 x3 S = some (r0, T) → mGo p l e rmX9_count s m args below meth c 4 D cs ad (mQI below D cs ad args s r0 T) 55 [(0, .ref (ad 100)), (2, .int x2), (3, .int x3)] [] S := by
    intro n
    induction n with
    | zero =>
      intro x2 x3 S h
      have h : none = some (r0, T) := h
      cases h
    | succ n hk55 =>
      intro x2 x3 S h H locs ls hl w
      have h : mm_count_55  (mm_count_55L  n) x2 x3 S = some (r0, T) := h
      generalize mm_count_55L  n = k55 at h hk55
      unfold mm_count_55 at h
      refine lv_iload_n hx hb dX9_count_55 rfl (lv_at hl 2 rfl) ?_
      refine lv_aload_n hx hb dX9_count_56 rfl (lv_at hl 0 rfl) ?_
      refine mw_getI cx hin w 9 (by decide) (List.mem_cons_of_mem _ uf_RX9_38) dX9_count_57 ?_
      refine lv_icmp_ge (tgt := 86) hx hb dX9_count_60 (by decide) (fun q => ?_) (fun q => ?_)
      · have h := br_p q h
        refine lv_iload_n hx hb dX9_count_86 rfl (lv_at hl 1 rfl) ?_
        exact mw_iret cx (rt_e h) w dX9_count_87
      · have h := br_n q h
        refine lv_iload_n hx hb dX9_count_63 rfl (lv_at hl 1 rfl) ?_
        refine lv_aload_n hx hb dX9_count_64 rfl (lv_at hl 0 rfl) ?_
        refine mw_getR cx hin w 13 (by decide) (List.mem_cons_of_mem _ uf_RX9_50) dX9_count_65 ?_
        refine lv_iload_n hx hb dX9_count_68 rfl (lv_at hl 2 rfl) ?_
        obtain ⟨hq_203, h⟩ := ck_e h
        refine mw_iald cx w 7 13 10 (by decide) hq_203 dX9_count_69 ?_
        refine lv_if_ne (tgt := 77) hx hb dX9_count_70 (by decide) (fun q => ?_) (fun q => ?_)
        · have h := br_n q h
          refine lv_iconst (v := (0 : Int32)) hx hb dX9_count_77 (by decide) ?_
          exact J78 k55 hk55 x3 x2 (0 : Int32) S h _ _ _ (lv_sub hl [0, 2] rfl) w
        · have h := br_p q h
          refine lv_iconst (v := (1 : Int32)) hx hb dX9_count_73 (by decide) ?_
          refine lv_goto (tgt := 78) hx hb dX9_count_74 (by decide) ?_
          exact J78 k55 hk55 x3 x2 (1 : Int32) S h _ _ _ (lv_sub hl [0, 2] rfl) w
  unfold mm_count at h
  refine lv_iload_n hx hb dX9_count_0 rfl (lv_at hl 1 rfl) ?_
  by_cases q_304 : a1 = (0 : Int32)
  · have h := br_p q_304 h
    refine lv_tableIn (tgt := 36) hx hb dX9_count_1 (by rw [q_304]; decide) (by rw [q_304]; decide) (by rw [q_304]; rfl) (by decide) ?_
    refine lv_aload_n hx hb dX9_count_36 rfl (lv_at hl 0 rfl) ?_
    refine mw_getI cx hin w 0 (by decide) (List.mem_cons_of_mem _ uf_RX9_7) dX9_count_37 ?_
    exact mw_iret cx (rt_e h) w dX9_count_40
  have h := br_n q_304 h
  by_cases q_305 : a1 = (1 : Int32)
  · have h := br_p q_305 h
    refine lv_tableIn (tgt := 41) hx hb dX9_count_1 (by rw [q_305]; decide) (by rw [q_305]; decide) (by rw [q_305]; rfl) (by decide) ?_
    refine lv_aload_n hx hb dX9_count_41 rfl (lv_at hl 0 rfl) ?_
    refine mw_getI cx hin w 9 (by decide) (List.mem_cons_of_mem _ uf_RX9_38) dX9_count_42 ?_
    exact mw_iret cx (rt_e h) w dX9_count_45
  have h := br_n q_305 h
  by_cases q_306 : a1 = (2 : Int32)
  · have h := br_p q_306 h
    refine lv_tableIn (tgt := 46) hx hb dX9_count_1 (by rw [q_306]; decide) (by rw [q_306]; decide) (by rw [q_306]; rfl) (by decide) ?_
    refine lv_aload_n hx hb dX9_count_46 rfl (lv_at hl 0 rfl) ?_
    refine mw_getI cx hin w 10 (by decide) (List.mem_cons_of_mem _ uf_RX9_41) dX9_count_47 ?_
    exact mw_iret cx (rt_e h) w dX9_count_50
  have h := br_n q_306 h
  by_cases q_307 : a1 = (3 : Int32)
  · have h := br_p q_307 h
    refine lv_tableIn (tgt := 51) hx hb dX9_count_1 (by rw [q_307]; decide) (by rw [q_307]; decide) (by rw [q_307]; rfl) (by decide) ?_
    refine lv_iconst (v := (0 : Int32)) hx hb dX9_count_51 (by decide) ?_
    obtain ⟨x2_308, ex2_308, h⟩ := lt_e h
    refine top_i ex2_308 ?_
    refine lv_istore_n (lv' := [(2, .int x2_308), (0, .ref (ad 100)), (1, .int a1)]) hx hb dX9_count_52 rfl hl (by decide) rfl (fun ls hl => ?_)
    refine lv_iconst (v := (0 : Int32)) hx hb dX9_count_53 (by decide) ?_
    obtain ⟨x3_309, ex3_309, h⟩ := lt_e h
    refine top_i ex3_309 ?_
    refine lv_istore_n (lv' := [(3, .int x3_309), (2, .int x2_308), (0, .ref (ad 100)), (1, .int a1)]) hx hb dX9_count_54 rfl hl (by decide) rfl (fun ls hl => ?_)
    exact L55  4000 x2_308 x3_309 S h _ _ _ (lv_sub hl [2, 1, 0] rfl) w
  have h := br_n q_307 h
  by_cases q_310 : a1 = (4 : Int32)
  · have h := br_p q_310 h
    refine lv_tableIn (tgt := 88) hx hb dX9_count_1 (by rw [q_310]; decide) (by rw [q_310]; decide) (by rw [q_310]; rfl) (by decide) ?_
    refine lv_aload_n hx hb dX9_count_88 rfl (lv_at hl 0 rfl) ?_
    refine mw_getI cx hin w 34 (by decide) (List.mem_cons_of_mem _ uf_RX9_114) dX9_count_89 ?_
    exact mw_iret cx (rt_e h) w dX9_count_92
  have h := br_n q_310 h
  refine lv_tableOut (tgt := 93) hx hb dX9_count_1 (by have := lv_neT q_304 (a := 0) (by decide); have := lv_neT q_305 (a := 1) (by decide); have := lv_neT q_306 (a := 2) (by decide); have := lv_neT q_307 (a := 3) (by decide); have := lv_neT q_310 (a := 4) (by decide); omega) (by decide) ?_
  refine lv_bipush (v := (-2 : Int32)) hx hb dX9_count_93 (by decide) ?_
  exact mw_iret cx (rt_e h) w dX9_count_95
def mm_tape_30  (S : MS) : Option (Int32 × MS) := some ((-2 : Int32), S)
def mm_tape_69 (k69 : Int32 → Int32 → MS → Option (Int32 × MS)) (x1 : Int32) (x4 : Int32) (S : MS) : Option (Int32 × MS) := if (60 : Int32) ≤ x4 then (some ((1 : Int32), S)) else (ck (vin (((60 : Int32) * x1) + x4) 360) (lt_ (mJ S 38 ((((60 : Int32) * x1) + x4)).toNatClampNeg (0 : Int64)) (fun S_202 => lt_ (x4 + (1 : Int32)) (fun x4_203 => k69 x1 x4_203 S_202))))
def mm_tape_69L : Nat → Int32 → Int32 → MS → Option (Int32 × MS)
  | 0, _, _, _ => none
  | n + 1, x1, x4, S => mm_tape_69  (mm_tape_69L  n) x1 x4 S
def mm_tape_65 (x1 : Int32) (t1 : Int32) (t2 : Int32) (S : MS) : Option (Int32 × MS) := ck (vin t1 6) (lt_ (mR S 37 (t1).toNatClampNeg t2) (fun S_305 => lt_ ((0 : Int32)) (fun x4_306 => mm_tape_69L  4000 x1 x4_306 S_305)))
def mm_tape_44 (x1 : Int32) (x2 : Int32) (x3 : Int32) (S : MS) : Option (Int32 × MS) := ck (vin x1 6) (lt_ (mR S 36 (x1).toNatClampNeg x2) (fun S_408 => if (0 : Int32) ≤ x2 then (mm_tape_65  x1 x1 x3 S_408) else (mm_tape_65  x1 x1 (0 : Int32) S_408)))
def mm_tape_33 (x1 : Int32) (x2 : Int32) (x3 : Int32) (S : MS) : Option (Int32 × MS) := if x2 < (0 : Int32) then (mm_tape_44  x1 x2 x3 S) else (if (0 : Int32) ≤ x3 then (mm_tape_44  x1 x2 x3 S) else (some ((-14 : Int32), S)))
def mm_tape (S : MS) (a1 : Int32) (a2 : Int32) (a3 : Int32) : Option (Int32 × MS) := bd (mm_isTape S a1) (fun r_610 S_609 => if r_610 = (0 : Int32) then (some ((-1 : Int32), S_609)) else (bd (mm_in S_609 a2 (-1 : Int32) (4 : Int32)) (fun r_613 S_612 => if r_613 = (0 : Int32) then (mm_tape_30   S_612) else (if a2 < (0 : Int32) then (mm_tape_33  a1 a2 a3 S_612) else (if a3 ≤ (60 : Int32) then (mm_tape_33  a1 a2 a3 S_612) else (mm_tape_30   S_612))))))
abbrev wu_X9_tape : List Cond := .code yX9_tape cX9_tape 5 (some .int) :: wsL_law
theorem ud_X9_tape : yX9_tape.cls = RX9 ∧ yX9_tape.cls ≠ "java/lang/invoke/MethodHandle" ∧ yX9_tape.cls ≠ "java/lang/invoke/VarHandle" ∧ (parseMethodDescriptor yX9_tape.desc).map (fun d => d.parameters.length) = some 3 := by decide +kernel
abbrev rmX9_tape : Room := { frames := 2, cells := 0, slots := 0, locals := 44 }
set_option maxHeartbeats 4000000 in
set_option maxRecDepth 100000 in
theorem cc_tape (l : Launch) (D : va_G) (cs : Nat → ClassId) (ad : Nat → Nat) (S T : MS) (a1 : Int32) (a2 : Int32) (a3 : Int32) (r0 : Int32) (h : mm_tape S a1 a2 a3 = some (r0, T)) : MetI l yX9_tape wu_X9_tape rmX9_tape D cs ad [.int a1, .int a2, .int a3] S T r0 := by
  refine mo_I (ty := .int) (cc := cX9_tape) (maxL := 5) ⟨by decide, rfl⟩ rfl (Nat.le_of_ble_eq_true rfl) ?_
  intro p e s m args below meth c ls cx hl w
  have hx := cx.1
  have hb := cx.2.1
  have hts := cx.2.2.2.1
  have hown := cx.2.2.2.2.1
  have hin : ∀ w ∈ wsX90, w ∈ wu_X9_tape := fun _ hq => List.mem_cons_of_mem _ (inlX9 _ hq)
  have hl : lv_has ls 5 [(0, .ref (ad 100)), (1, .int a1), (2, .int a2), (3, .int a3)] := hl
  have J30 : ∀  (S : MS), mm_tape_30   S = some (r0, T) → mGo p l e rmX9_tape s m args below meth c 5 D cs ad (mQI below D cs ad args s r0 T) 30 [] [] S := by
    intro  S h H locs ls hl w
    unfold mm_tape_30 at h
    refine lv_bipush (v := (-2 : Int32)) hx hb dX9_tape_30 (by decide) ?_
    exact mw_iret cx (rt_e h) w dX9_tape_32
  have L69 : ∀ (n : Nat) (x1 : Int32) (x4 : Int32) (S : MS), mm_tape_69L  n x1 x4 S = some (r0, T) → mGo p l e rmX9_tape s m args below meth c 5 D cs ad (mQI below D cs ad args s r0 T) 69 [(0, .ref (ad 100)), (1, .int x1), (4, .int x4)] [] S := by
    intro n
    induction n with
    | zero =>
      intro x1 x4 S h
      have h : none = some (r0, T) := h
      cases h
    | succ n hk69 =>
      intro x1 x4 S h H locs ls hl w
      have h : mm_tape_69  (mm_tape_69L  n) x1 x4 S = some (r0, T) := h
      generalize mm_tape_69L  n = k69 at h hk69
      unfold mm_tape_69 at h
      refine lv_iload hx hb dX9_tape_69 (lv_at hl 2 rfl) ?_
      refine lv_bipush (v := (60 : Int32)) hx hb dX9_tape_71 (by decide) ?_
      refine lv_icmp_ge (tgt := 95) hx hb dX9_tape_73 (by decide) (fun q => ?_) (fun q => ?_)
      · have h := br_p q h
        refine lv_iconst (v := (1 : Int32)) hx hb dX9_tape_95 (by decide) ?_
        exact mw_iret cx (rt_e h) w dX9_tape_96
      · have h := br_n q h
        refine lv_aload_n hx hb dX9_tape_76 rfl (lv_at hl 0 rfl) ?_
        refine mw_getR cx hin w 38 (by decide) (List.mem_cons_of_mem _ uf_RX9_126) dX9_tape_77 ?_
        refine lv_bipush (v := (60 : Int32)) hx hb dX9_tape_80 (by decide) ?_
        refine lv_iload_n hx hb dX9_tape_82 rfl (lv_at hl 1 rfl) ?_
        refine lv_imul hx hb dX9_tape_83 ?_
        refine lv_iload hx hb dX9_tape_84 (lv_at hl 2 rfl) ?_
        refine lv_iadd hx hb dX9_tape_86 ?_
        refine lv_lconst (v := (0 : Int64)) hx hb dX9_tape_87 (by decide) ?_
        obtain ⟨hq_201, h⟩ := ck_e h
        obtain ⟨S_202, eS_202, h⟩ := lt_e h
        refine mw_last cx w 25 38 360 (by decide) hq_201 eS_202 dX9_tape_88 (fun H locs w => ?_)
        obtain ⟨x4_203, ex4_203, h⟩ := lt_e h
        refine lv_iinc (v := x4_203) (lv' := [(4, .int x4_203), (0, .ref (ad 100)), (1, .int x1)]) hx hb dX9_tape_89 hl (k := 2) rfl (by rw [ex4_203]; rfl) (by decide) rfl (fun ls hl => ?_)
        refine lv_goto (tgt := 69) hx hb dX9_tape_92 (by decide) ?_
        exact hk69 x1 x4_203 S_202 h _ _ _ (lv_sub hl [1, 2, 0] rfl) w
  have J65 : ∀ (x1 : Int32) (t1 : Int32) (t2 : Int32) (S : MS), mm_tape_65  x1 t1 t2 S = some (r0, T) → mGo p l e rmX9_tape s m args below meth c 5 D cs ad (mQI below D cs ad args s r0 T) 65 [(0, .ref (ad 100)), (1, .int x1)] [.int t2, .int t1, .ref (ad 37)] S := by
    intro x1 t1 t2 S h H locs ls hl w
    unfold mm_tape_65 at h
    obtain ⟨hq_304, h⟩ := ck_e h
    obtain ⟨S_305, eS_305, h⟩ := lt_e h
    refine mw_iast cx w 24 37 6 (by decide) hq_304 eS_305 dX9_tape_65 (fun H locs w => ?_)
    refine lv_iconst (v := (0 : Int32)) hx hb dX9_tape_66 (by decide) ?_
    obtain ⟨x4_306, ex4_306, h⟩ := lt_e h
    refine top_i ex4_306 ?_
    refine lv_istore (lv' := [(4, .int x4_306), (0, .ref (ad 100)), (1, .int x1)]) hx hb dX9_tape_67 hl (by decide) rfl (fun ls hl => ?_)
    exact L69  4000 x1 x4_306 S_305 h _ _ _ (lv_sub hl [1, 2, 0] rfl) w
  have J44 : ∀ (x1 : Int32) (x2 : Int32) (x3 : Int32) (S : MS), mm_tape_44  x1 x2 x3 S = some (r0, T) → mGo p l e rmX9_tape s m args below meth c 5 D cs ad (mQI below D cs ad args s r0 T) 44 [(0, .ref (ad 100)), (1, .int x1), (2, .int x2), (3, .int x3)] [] S := by
    intro x1 x2 x3 S h H locs ls hl w
    unfold mm_tape_44 at h
    refine lv_aload_n hx hb dX9_tape_44 rfl (lv_at hl 0 rfl) ?_
    refine mw_getR cx hin w 36 (by decide) (List.mem_cons_of_mem _ uf_RX9_120) dX9_tape_45 ?_
    refine lv_iload_n hx hb dX9_tape_48 rfl (lv_at hl 1 rfl) ?_
    refine lv_iload_n hx hb dX9_tape_49 rfl (lv_at hl 2 rfl) ?_
    obtain ⟨hq_407, h⟩ := ck_e h
    obtain ⟨S_408, eS_408, h⟩ := lt_e h
    refine mw_iast cx w 23 36 6 (by decide) hq_407 eS_408 dX9_tape_50 (fun H locs w => ?_)
    refine lv_aload_n hx hb dX9_tape_51 rfl (lv_at hl 0 rfl) ?_
    refine mw_getR cx hin w 37 (by decide) (List.mem_cons_of_mem _ uf_RX9_123) dX9_tape_52 ?_
    refine lv_iload_n hx hb dX9_tape_55 rfl (lv_at hl 1 rfl) ?_
    refine lv_iload_n hx hb dX9_tape_56 rfl (lv_at hl 2 rfl) ?_
    refine lv_if_ge (tgt := 64) hx hb dX9_tape_57 (by decide) (fun q => ?_) (fun q => ?_)
    · have h := br_p q h
      refine lv_iload_n hx hb dX9_tape_64 rfl (lv_at hl 3 rfl) ?_
      exact J65  x1 x1 x3 S_408 h _ _ _ (lv_sub hl [0, 1] rfl) w
    · have h := br_n q h
      refine lv_iconst (v := (0 : Int32)) hx hb dX9_tape_60 (by decide) ?_
      refine lv_goto (tgt := 65) hx hb dX9_tape_61 (by decide) ?_
      exact J65  x1 x1 (0 : Int32) S_408 h _ _ _ (lv_sub hl [0, 1] rfl) w
  have J33 : ∀ (x1 : Int32) (x2 : Int32) (x3 : Int32) (S : MS), mm_tape_33  x1 x2 x3 S = some (r0, T) → mGo p l e rmX9_tape s m args below meth c 5 D cs ad (mQI below D cs ad args s r0 T) 33 [(0, .ref (ad 100)), (1, .int x1), (2, .int x2), (3, .int x3)] [] S := by
    intro x1 x2 x3 S h H locs ls hl w
    unfold mm_tape_33 at h
    refine lv_iload_n hx hb dX9_tape_33 rfl (lv_at hl 2 rfl) ?_
    refine lv_if_lt (tgt := 44) hx hb dX9_tape_34 (by decide) (fun q => ?_) (fun q => ?_)
    · have h := br_p q h
      exact J44  x1 x2 x3 S h _ _ _ (lv_sub hl [0, 1, 2, 3] rfl) w
    · have h := br_n q h
      refine lv_iload_n hx hb dX9_tape_37 rfl (lv_at hl 3 rfl) ?_
      refine lv_if_ge (tgt := 44) hx hb dX9_tape_38 (by decide) (fun q => ?_) (fun q => ?_)
      · have h := br_p q h
        exact J44  x1 x2 x3 S h _ _ _ (lv_sub hl [0, 1, 2, 3] rfl) w
      · have h := br_n q h
        refine lv_bipush (v := (-14 : Int32)) hx hb dX9_tape_41 (by decide) ?_
        exact mw_iret cx (rt_e h) w dX9_tape_43
  unfold mm_tape at h
  refine lv_aload_n hx hb dX9_tape_0 rfl (lv_at hl 0 rfl) ?_
  refine lv_iload_n hx hb dX9_tape_1 rfl (lv_at hl 1 rfl) ?_
  obtain ⟨r_610, S_609, hc_611, h⟩ := bd_e h
  refine mw_calli (As := [.int a1]) (rest := []) cx (cc_isTape l D cs ad S S_609 a1 r_610 hc_611) (cwV 1 hts (uG uw_X9_isTape ul_RX9_255 ui_X9_isTape us_RX9_X9_isTape un_RX9) rfl rfl rfl ud_X9_isTape ⟨Nat.le_of_ble_eq_true rfl, Nat.le_of_ble_eq_true rfl⟩) w rfl hl.1 rfl (Nat.le_of_ble_eq_true rfl) dX9_tape_2 (fun H locs w => ?_)
  refine lv_if_ne (tgt := 10) hx hb dX9_tape_5 (by decide) (fun q => ?_) (fun q => ?_)
  · have h := br_n q h
    refine lv_aload_n hx hb dX9_tape_10 rfl (lv_at hl 0 rfl) ?_
    refine lv_iload_n hx hb dX9_tape_11 rfl (lv_at hl 2 rfl) ?_
    refine lv_iconst (v := (-1 : Int32)) hx hb dX9_tape_12 (by decide) ?_
    refine lv_iconst (v := (4 : Int32)) hx hb dX9_tape_13 (by decide) ?_
    obtain ⟨r_613, S_612, hc_614, h⟩ := bd_e h
    refine mw_calli (As := [.int a2, .int (-1 : Int32), .int (4 : Int32)]) (rest := []) cx (cc_in l D cs ad S_609 S_612 a2 (-1 : Int32) (4 : Int32) r_613 hc_614) (cwV 3 hts (uG uw_X9_in ul_RX9_133 ui_X9_in us_RX9_X9_in un_RX9) rfl rfl rfl ud_X9_in ⟨Nat.le_of_ble_eq_true rfl, Nat.le_of_ble_eq_true rfl⟩) w rfl hl.1 rfl (Nat.le_of_ble_eq_true rfl) dX9_tape_14 (fun H locs w => ?_)
    refine lv_if_eq (tgt := 30) hx hb dX9_tape_17 (by decide) (fun q => ?_) (fun q => ?_)
    · have h := br_p q h
      exact J30   S_612 h _ _ _ (lv_sub hl [] rfl) w
    · have h := br_n q h
      refine lv_iload_n hx hb dX9_tape_20 rfl (lv_at hl 2 rfl) ?_
      refine lv_if_lt (tgt := 33) hx hb dX9_tape_21 (by decide) (fun q => ?_) (fun q => ?_)
      · have h := br_p q h
        exact J33  a1 a2 a3 S_612 h _ _ _ (lv_sub hl [0, 1, 2, 3] rfl) w
      · have h := br_n q h
        refine lv_iload_n hx hb dX9_tape_24 rfl (lv_at hl 3 rfl) ?_
        refine lv_bipush (v := (60 : Int32)) hx hb dX9_tape_25 (by decide) ?_
        refine lv_icmp_le (tgt := 33) hx hb dX9_tape_27 (by decide) (fun q => ?_) (fun q => ?_)
        · have h := br_p q h
          exact J33  a1 a2 a3 S_612 h _ _ _ (lv_sub hl [0, 1, 2, 3] rfl) w
        · have h := br_n q h
          exact J30   S_612 h _ _ _ (lv_sub hl [] rfl) w
  · have h := br_p q h
    refine lv_iconst (v := (-1 : Int32)) hx hb dX9_tape_8 (by decide) ?_
    exact mw_iret cx (rt_e h) w dX9_tape_9
def mm_narrow (S : MS) (a1 : Int32) (a2 : Int64) : Option (Int64 × MS) := if a1 = (0 : Int32) then (some ((((a2).toInt32).toInt8.toInt32).toInt64, S)) else (if a1 = (1 : Int32) then (some ((((a2).toInt32).toInt16.toInt32).toInt64, S)) else (if a1 = (2 : Int32) then (some (((a2).toInt32).toInt64, S)) else (if a1 = (4 : Int32) then (if (lg_cmp a2 (0 : Int64)) = (0 : Int32) then (some ((0 : Int64), S)) else (some ((1 : Int64), S))) else (some (a2, S)))))
abbrev wu_X9_narrow : List Cond := .code yX9_narrow cX9_narrow 4 (some .long) :: wsL_law
theorem ud_X9_narrow : yX9_narrow.cls = RX9 ∧ yX9_narrow.cls ≠ "java/lang/invoke/MethodHandle" ∧ yX9_narrow.cls ≠ "java/lang/invoke/VarHandle" ∧ (parseMethodDescriptor yX9_narrow.desc).map (fun d => d.parameters.length) = some 2 := by decide +kernel
abbrev rmX9_narrow : Room := { frames := 0, cells := 0, slots := 0, locals := 0 }
set_option maxHeartbeats 4000000 in
set_option maxRecDepth 100000 in
theorem cc_narrow (l : Launch) (D : va_G) (cs : Nat → ClassId) (ad : Nat → Nat) (S T : MS) (a1 : Int32) (a2 : Int64) (r0 : Int64) (h : mm_narrow S a1 a2 = some (r0, T)) : MetL l yX9_narrow wu_X9_narrow rmX9_narrow D cs ad [.int a1, .long a2] S T r0 := by
  refine mo_L (ty := .long) (cc := cX9_narrow) (maxL := 4) ⟨by decide, rfl⟩ rfl (Nat.le_of_ble_eq_true rfl) ?_
  intro p e s m args below meth c ls cx hl w
  have hx := cx.1
  have hb := cx.2.1
  have hts := cx.2.2.2.1
  have hown := cx.2.2.2.2.1
  have hl : lv_has ls 4 [(0, .ref (ad 100)), (1, .int a1), (2, .long a2)] := hl
  unfold mm_narrow at h
  refine lv_iload_n hx hb dX9_narrow_0 rfl (lv_at hl 1 rfl) ?_
  refine lv_if_ne (tgt := 11) hx hb dX9_narrow_1 (by decide) (fun q => ?_) (fun q => ?_)
  · have h := br_n q h
    refine lv_iload_n hx hb dX9_narrow_11 rfl (lv_at hl 1 rfl) ?_
    refine lv_iconst (v := (1 : Int32)) hx hb dX9_narrow_12 (by decide) ?_
    refine lv_icmp_ne (tgt := 23) hx hb dX9_narrow_13 (by decide) (fun q => ?_) (fun q => ?_)
    · have h := br_n q h
      refine lv_iload_n hx hb dX9_narrow_23 rfl (lv_at hl 1 rfl) ?_
      refine lv_iconst (v := (2 : Int32)) hx hb dX9_narrow_24 (by decide) ?_
      refine lv_icmp_ne (tgt := 34) hx hb dX9_narrow_25 (by decide) (fun q => ?_) (fun q => ?_)
      · have h := br_n q h
        refine lv_iload_n hx hb dX9_narrow_34 rfl (lv_at hl 1 rfl) ?_
        refine lv_iconst (v := (4 : Int32)) hx hb dX9_narrow_35 (by decide) ?_
        refine lv_icmp_ne (tgt := 53) hx hb dX9_narrow_36 (by decide) (fun q => ?_) (fun q => ?_)
        · have h := br_n q h
          refine lv_lload_n hx hb dX9_narrow_53 rfl (lv_at hl 2 rfl) ?_
          exact mw_lret cx (rt_e h) w dX9_narrow_54
        · have h := br_p q h
          refine lv_lload_n hx hb dX9_narrow_39 rfl (lv_at hl 2 rfl) ?_
          refine lv_lconst (v := (0 : Int64)) hx hb dX9_narrow_40 (by decide) ?_
          refine W.lcmp hx hb dX9_narrow_41 ?_
          refine lv_if_eq (tgt := 49) hx hb dX9_narrow_42 (by decide) (fun q => ?_) (fun q => ?_)
          · have h := br_p q h
            refine lv_lconst (v := (0 : Int64)) hx hb dX9_narrow_49 (by decide) ?_
            refine lv_goto (tgt := 54) hx hb dX9_narrow_50 (by decide) ?_
            exact mw_lret cx (rt_e h) w dX9_narrow_54
          · have h := br_n q h
            refine lv_lconst (v := (1 : Int64)) hx hb dX9_narrow_45 (by decide) ?_
            refine lv_goto (tgt := 54) hx hb dX9_narrow_46 (by decide) ?_
            exact mw_lret cx (rt_e h) w dX9_narrow_54
      · have h := br_p q h
        refine lv_lload_n hx hb dX9_narrow_28 rfl (lv_at hl 2 rfl) ?_
        refine lv_l2i hx hb dX9_narrow_29 rfl ?_
        refine lv_i2l hx hb dX9_narrow_30 rfl ?_
        refine lv_goto (tgt := 54) hx hb dX9_narrow_31 (by decide) ?_
        exact mw_lret cx (rt_e h) w dX9_narrow_54
    · have h := br_p q h
      refine lv_lload_n hx hb dX9_narrow_16 rfl (lv_at hl 2 rfl) ?_
      refine lv_l2i hx hb dX9_narrow_17 rfl ?_
      refine lv_i2s hx hb dX9_narrow_18 rfl ?_
      refine lv_i2l hx hb dX9_narrow_19 rfl ?_
      refine lv_goto (tgt := 54) hx hb dX9_narrow_20 (by decide) ?_
      exact mw_lret cx (rt_e h) w dX9_narrow_54
  · have h := br_p q h
    refine lv_lload_n hx hb dX9_narrow_4 rfl (lv_at hl 2 rfl) ?_
    refine lv_l2i hx hb dX9_narrow_5 rfl ?_
    refine lv_i2b hx hb dX9_narrow_6 rfl ?_
    refine lv_i2l hx hb dX9_narrow_7 rfl ?_
    refine lv_goto (tgt := 54) hx hb dX9_narrow_8 (by decide) ?_
    exact mw_lret cx (rt_e h) w dX9_narrow_54
def mm_item (S : MS) (a1 : Int32) (a2 : Int32) (a3 : Int64) : Option (Int32 × MS) := bd (mm_isTape S a1) (fun r_102 S_101 => if r_102 = (0 : Int32) then (some ((-1 : Int32), S_101)) else (ck (vin a1 6) (if (0 : Int32) ≤ (S_101.2.1 36 (a1).toNatClampNeg) then (ck (vin a1 6) (bd (mm_in S_101 a2 (0 : Int32) ((S_101.2.1 37 (a1).toNatClampNeg) - (1 : Int32))) (fun r_107 S_106 => if r_107 = (0 : Int32) then (some ((-13 : Int32), S_106)) else (ck (vin a1 6) (bd (mm_narrow S_106 (S_106.2.1 36 (a1).toNatClampNeg) a3) (fun r_111 S_110 => ck (vin (((60 : Int32) * a1) + a2) 360) (lt_ (mJ S_110 38 ((((60 : Int32) * a1) + a2)).toNatClampNeg r_111) (fun S_114 => some ((1 : Int32), S_114))))))))) else (some ((-11 : Int32), S_101)))))
abbrev wu_X9_item : List Cond := .code yX9_item cX9_item 5 (some .int) :: wsL_law
theorem ud_X9_item : yX9_item.cls = RX9 ∧ yX9_item.cls ≠ "java/lang/invoke/MethodHandle" ∧ yX9_item.cls ≠ "java/lang/invoke/VarHandle" ∧ (parseMethodDescriptor yX9_item.desc).map (fun d => d.parameters.length) = some 3 := by decide +kernel
abbrev rmX9_item : Room := { frames := 2, cells := 0, slots := 0, locals := 44 }
set_option maxHeartbeats 4000000 in
set_option maxRecDepth 100000 in
theorem cc_item (l : Launch) (D : va_G) (cs : Nat → ClassId) (ad : Nat → Nat) (S T : MS) (a1 : Int32) (a2 : Int32) (a3 : Int64) (r0 : Int32) (h : mm_item S a1 a2 a3 = some (r0, T)) : MetI l yX9_item wu_X9_item rmX9_item D cs ad [.int a1, .int a2, .long a3] S T r0 := by
  refine mo_I (ty := .int) (cc := cX9_item) (maxL := 5) ⟨by decide, rfl⟩ rfl (Nat.le_of_ble_eq_true rfl) ?_
  intro p e s m args below meth c ls cx hl w
  have hx := cx.1
  have hb := cx.2.1
  have hts := cx.2.2.2.1
  have hown := cx.2.2.2.2.1
  have hin : ∀ w ∈ wsX90, w ∈ wu_X9_item := fun _ hq => List.mem_cons_of_mem _ (inlX9 _ hq)
  have hl : lv_has ls 5 [(0, .ref (ad 100)), (1, .int a1), (2, .int a2), (3, .long a3)] := hl
  unfold mm_item at h
  refine lv_aload_n hx hb dX9_item_0 rfl (lv_at hl 0 rfl) ?_
  refine lv_iload_n hx hb dX9_item_1 rfl (lv_at hl 1 rfl) ?_
  obtain ⟨r_102, S_101, hc_103, h⟩ := bd_e h
  refine mw_calli (As := [.int a1]) (rest := []) cx (cc_isTape l D cs ad S S_101 a1 r_102 hc_103) (cwV 1 hts (uG uw_X9_isTape ul_RX9_255 ui_X9_isTape us_RX9_X9_isTape un_RX9) rfl rfl rfl ud_X9_isTape ⟨Nat.le_of_ble_eq_true rfl, Nat.le_of_ble_eq_true rfl⟩) w rfl hl.1 rfl (Nat.le_of_ble_eq_true rfl) dX9_item_2 (fun H locs w => ?_)
  refine lv_if_ne (tgt := 10) hx hb dX9_item_5 (by decide) (fun q => ?_) (fun q => ?_)
  · have h := br_n q h
    refine lv_aload_n hx hb dX9_item_10 rfl (lv_at hl 0 rfl) ?_
    refine mw_getR cx hin w 36 (by decide) (List.mem_cons_of_mem _ uf_RX9_120) dX9_item_11 ?_
    refine lv_iload_n hx hb dX9_item_14 rfl (lv_at hl 1 rfl) ?_
    obtain ⟨hq_104, h⟩ := ck_e h
    refine mw_iald cx w 23 36 6 (by decide) hq_104 dX9_item_15 ?_
    refine lv_if_ge (tgt := 22) hx hb dX9_item_16 (by decide) (fun q => ?_) (fun q => ?_)
    · have h := br_p q h
      refine lv_aload_n hx hb dX9_item_22 rfl (lv_at hl 0 rfl) ?_
      refine lv_iload_n hx hb dX9_item_23 rfl (lv_at hl 2 rfl) ?_
      refine lv_iconst (v := (0 : Int32)) hx hb dX9_item_24 (by decide) ?_
      refine lv_aload_n hx hb dX9_item_25 rfl (lv_at hl 0 rfl) ?_
      refine mw_getR cx hin w 37 (by decide) (List.mem_cons_of_mem _ uf_RX9_123) dX9_item_26 ?_
      refine lv_iload_n hx hb dX9_item_29 rfl (lv_at hl 1 rfl) ?_
      obtain ⟨hq_105, h⟩ := ck_e h
      refine mw_iald cx w 24 37 6 (by decide) hq_105 dX9_item_30 ?_
      refine lv_iconst (v := (1 : Int32)) hx hb dX9_item_31 (by decide) ?_
      refine lv_isub hx hb dX9_item_32 ?_
      obtain ⟨r_107, S_106, hc_108, h⟩ := bd_e h
      refine mw_calli (As := [.int a2, .int (0 : Int32), .int ((S_101.2.1 37 (a1).toNatClampNeg) - (1 : Int32))]) (rest := []) cx (cc_in l D cs ad S_101 S_106 a2 (0 : Int32) ((S_101.2.1 37 (a1).toNatClampNeg) - (1 : Int32)) r_107 hc_108) (cwV 3 hts (uG uw_X9_in ul_RX9_133 ui_X9_in us_RX9_X9_in un_RX9) rfl rfl rfl ud_X9_in ⟨Nat.le_of_ble_eq_true rfl, Nat.le_of_ble_eq_true rfl⟩) w rfl hl.1 rfl (Nat.le_of_ble_eq_true rfl) dX9_item_33 (fun H locs w => ?_)
      refine lv_if_ne (tgt := 42) hx hb dX9_item_36 (by decide) (fun q => ?_) (fun q => ?_)
      · have h := br_n q h
        refine lv_aload_n hx hb dX9_item_42 rfl (lv_at hl 0 rfl) ?_
        refine mw_getR cx hin w 38 (by decide) (List.mem_cons_of_mem _ uf_RX9_126) dX9_item_43 ?_
        refine lv_bipush (v := (60 : Int32)) hx hb dX9_item_46 (by decide) ?_
        refine lv_iload_n hx hb dX9_item_48 rfl (lv_at hl 1 rfl) ?_
        refine lv_imul hx hb dX9_item_49 ?_
        refine lv_iload_n hx hb dX9_item_50 rfl (lv_at hl 2 rfl) ?_
        refine lv_iadd hx hb dX9_item_51 ?_
        refine lv_aload_n hx hb dX9_item_52 rfl (lv_at hl 0 rfl) ?_
        refine lv_aload_n hx hb dX9_item_53 rfl (lv_at hl 0 rfl) ?_
        refine mw_getR cx hin w 36 (by decide) (List.mem_cons_of_mem _ uf_RX9_120) dX9_item_54 ?_
        refine lv_iload_n hx hb dX9_item_57 rfl (lv_at hl 1 rfl) ?_
        obtain ⟨hq_109, h⟩ := ck_e h
        refine mw_iald cx w 23 36 6 (by decide) hq_109 dX9_item_58 ?_
        refine lv_lload_n hx hb dX9_item_59 rfl (lv_at hl 3 rfl) ?_
        obtain ⟨r_111, S_110, hc_112, h⟩ := bd_e h
        refine mw_calll (As := [.int (S_106.2.1 36 (a1).toNatClampNeg), .long a3]) (rest := [.int (((60 : Int32) * a1) + a2), .ref (ad 38)]) cx (cc_narrow l D cs ad S_106 S_110 (S_106.2.1 36 (a1).toNatClampNeg) a3 r_111 hc_112) (cwV 2 hts (uG uw_X9_narrow ul_RX9_286 ui_X9_narrow us_RX9_X9_narrow un_RX9) rfl rfl rfl ud_X9_narrow ⟨Nat.le_of_ble_eq_true rfl, Nat.le_of_ble_eq_true rfl⟩) w rfl hl.1 rfl (Nat.le_of_ble_eq_true rfl) dX9_item_60 (fun H locs w => ?_)
        obtain ⟨hq_113, h⟩ := ck_e h
        obtain ⟨S_114, eS_114, h⟩ := lt_e h
        refine mw_last cx w 25 38 360 (by decide) hq_113 eS_114 dX9_item_63 (fun H locs w => ?_)
        refine lv_iconst (v := (1 : Int32)) hx hb dX9_item_64 (by decide) ?_
        exact mw_iret cx (rt_e h) w dX9_item_65
      · have h := br_p q h
        refine lv_bipush (v := (-13 : Int32)) hx hb dX9_item_39 (by decide) ?_
        exact mw_iret cx (rt_e h) w dX9_item_41
    · have h := br_n q h
      refine lv_bipush (v := (-11 : Int32)) hx hb dX9_item_19 (by decide) ?_
      exact mw_iret cx (rt_e h) w dX9_item_21
  · have h := br_p q h
    refine lv_iconst (v := (-1 : Int32)) hx hb dX9_item_8 (by decide) ?_
    exact mw_iret cx (rt_e h) w dX9_item_9
def mm_read_34  (S : MS) : Option (Int64 × MS) := some ((-9223372036854775808 : Int64), S)
def mm_read (S : MS) (a1 : Int32) (a2 : Int32) : Option (Int64 × MS) := bd (mm_isTape S a1) (fun r_202 S_201 => if r_202 = (0 : Int32) then (mm_read_34   S_201) else (ck (vin a1 6) (if (S_201.2.1 36 (a1).toNatClampNeg) < (0 : Int32) then (mm_read_34   S_201) else (ck (vin a1 6) (bd (mm_in S_201 a2 (0 : Int32) ((S_201.2.1 37 (a1).toNatClampNeg) - (1 : Int32))) (fun r_207 S_206 => if r_207 = (0 : Int32) then (mm_read_34   S_206) else (ck (vin (((60 : Int32) * a1) + a2) 360) (some ((S_206.2.2 38 ((((60 : Int32) * a1) + a2)).toNatClampNeg), S_206)))))))))
abbrev wu_X9_read : List Cond := .code yX9_read cX9_read 3 (some .long) :: wsL_law
theorem ud_X9_read : yX9_read.cls = RX9 ∧ yX9_read.cls ≠ "java/lang/invoke/MethodHandle" ∧ yX9_read.cls ≠ "java/lang/invoke/VarHandle" ∧ (parseMethodDescriptor yX9_read.desc).map (fun d => d.parameters.length) = some 2 := by decide +kernel
abbrev rmX9_read : Room := { frames := 2, cells := 0, slots := 0, locals := 44 }
set_option maxHeartbeats 4000000 in
set_option maxRecDepth 100000 in
theorem cc_read (l : Launch) (D : va_G) (cs : Nat → ClassId) (ad : Nat → Nat) (S T : MS) (a1 : Int32) (a2 : Int32) (r0 : Int64) (h : mm_read S a1 a2 = some (r0, T)) : MetL l yX9_read wu_X9_read rmX9_read D cs ad [.int a1, .int a2] S T r0 := by
  refine mo_L (ty := .long) (cc := cX9_read) (maxL := 3) ⟨by decide, rfl⟩ rfl (Nat.le_of_ble_eq_true rfl) ?_
  intro p e s m args below meth c ls cx hl w
  have hx := cx.1
  have hb := cx.2.1
  have hts := cx.2.2.2.1
  have hown := cx.2.2.2.2.1
  have hin : ∀ w ∈ wsX90, w ∈ wu_X9_read := fun _ hq => List.mem_cons_of_mem _ (inlX9 _ hq)
  have hl : lv_has ls 3 [(0, .ref (ad 100)), (1, .int a1), (2, .int a2)] := hl
  have J34 : ∀  (S : MS), mm_read_34   S = some (r0, T) → mGo p l e rmX9_read s m args below meth c 3 D cs ad (mQL below D cs ad args s r0 T) 34 [] [] S := by
    intro  S h H locs ls hl w
    unfold mm_read_34 at h
    refine lv_ldc2 (v := (-9223372036854775808 : Int64)) hx hb hown (hts _ (List.mem_cons_of_mem _ uc_RX9_290)) dX9_read_34 ?_
    refine lv_goto (tgt := 51) hx hb dX9_read_37 (by decide) ?_
    exact mw_lret cx (rt_e h) w dX9_read_51
  unfold mm_read at h
  refine lv_aload_n hx hb dX9_read_0 rfl (lv_at hl 0 rfl) ?_
  refine lv_iload_n hx hb dX9_read_1 rfl (lv_at hl 1 rfl) ?_
  obtain ⟨r_202, S_201, hc_203, h⟩ := bd_e h
  refine mw_calli (As := [.int a1]) (rest := []) cx (cc_isTape l D cs ad S S_201 a1 r_202 hc_203) (cwV 1 hts (uG uw_X9_isTape ul_RX9_255 ui_X9_isTape us_RX9_X9_isTape un_RX9) rfl rfl rfl ud_X9_isTape ⟨Nat.le_of_ble_eq_true rfl, Nat.le_of_ble_eq_true rfl⟩) w rfl hl.1 rfl (Nat.le_of_ble_eq_true rfl) dX9_read_2 (fun H locs w => ?_)
  refine lv_if_eq (tgt := 34) hx hb dX9_read_5 (by decide) (fun q => ?_) (fun q => ?_)
  · have h := br_p q h
    exact J34   S_201 h _ _ _ (lv_sub hl [] rfl) w
  · have h := br_n q h
    refine lv_aload_n hx hb dX9_read_8 rfl (lv_at hl 0 rfl) ?_
    refine mw_getR cx hin w 36 (by decide) (List.mem_cons_of_mem _ uf_RX9_120) dX9_read_9 ?_
    refine lv_iload_n hx hb dX9_read_12 rfl (lv_at hl 1 rfl) ?_
    obtain ⟨hq_204, h⟩ := ck_e h
    refine mw_iald cx w 23 36 6 (by decide) hq_204 dX9_read_13 ?_
    refine lv_if_lt (tgt := 34) hx hb dX9_read_14 (by decide) (fun q => ?_) (fun q => ?_)
    · have h := br_p q h
      exact J34   S_201 h _ _ _ (lv_sub hl [] rfl) w
    · have h := br_n q h
      refine lv_aload_n hx hb dX9_read_17 rfl (lv_at hl 0 rfl) ?_
      refine lv_iload_n hx hb dX9_read_18 rfl (lv_at hl 2 rfl) ?_
      refine lv_iconst (v := (0 : Int32)) hx hb dX9_read_19 (by decide) ?_
      refine lv_aload_n hx hb dX9_read_20 rfl (lv_at hl 0 rfl) ?_
      refine mw_getR cx hin w 37 (by decide) (List.mem_cons_of_mem _ uf_RX9_123) dX9_read_21 ?_
      refine lv_iload_n hx hb dX9_read_24 rfl (lv_at hl 1 rfl) ?_
      obtain ⟨hq_205, h⟩ := ck_e h
      refine mw_iald cx w 24 37 6 (by decide) hq_205 dX9_read_25 ?_
      refine lv_iconst (v := (1 : Int32)) hx hb dX9_read_26 (by decide) ?_
      refine lv_isub hx hb dX9_read_27 ?_
      obtain ⟨r_207, S_206, hc_208, h⟩ := bd_e h
      refine mw_calli (As := [.int a2, .int (0 : Int32), .int ((S_201.2.1 37 (a1).toNatClampNeg) - (1 : Int32))]) (rest := []) cx (cc_in l D cs ad S_201 S_206 a2 (0 : Int32) ((S_201.2.1 37 (a1).toNatClampNeg) - (1 : Int32)) r_207 hc_208) (cwV 3 hts (uG uw_X9_in ul_RX9_133 ui_X9_in us_RX9_X9_in un_RX9) rfl rfl rfl ud_X9_in ⟨Nat.le_of_ble_eq_true rfl, Nat.le_of_ble_eq_true rfl⟩) w rfl hl.1 rfl (Nat.le_of_ble_eq_true rfl) dX9_read_28 (fun H locs w => ?_)
      refine lv_if_ne (tgt := 40) hx hb dX9_read_31 (by decide) (fun q => ?_) (fun q => ?_)
      · have h := br_n q h
        refine lv_aload_n hx hb dX9_read_40 rfl (lv_at hl 0 rfl) ?_
        refine mw_getR cx hin w 38 (by decide) (List.mem_cons_of_mem _ uf_RX9_126) dX9_read_41 ?_
        refine lv_bipush (v := (60 : Int32)) hx hb dX9_read_44 (by decide) ?_
        refine lv_iload_n hx hb dX9_read_46 rfl (lv_at hl 1 rfl) ?_
        refine lv_imul hx hb dX9_read_47 ?_
        refine lv_iload_n hx hb dX9_read_48 rfl (lv_at hl 2 rfl) ?_
        refine lv_iadd hx hb dX9_read_49 ?_
        obtain ⟨hq_209, h⟩ := ck_e h
        refine mw_lald cx w 25 38 360 (by decide) hq_209 dX9_read_50 ?_
        exact mw_lret cx (rt_e h) w dX9_read_51
      · have h := br_p q h
        exact J34   S_206 h _ _ _ (lv_sub hl [] rfl) w
def mm_shift_16  (S : MS) : Option (Int32 × MS) := some ((-1 : Int32), S)
def mm_shift_36  (S : MS) : Option (Int32 × MS) := some ((-11 : Int32), S)
def mm_shift_98  (S : MS) : Option (Int32 × MS) := some ((-13 : Int32), S)
def mm_shift_141 (k141 : Int32 → Int32 → Int32 → Int32 → MS → Option (Int32 × MS)) (x3 : Int32) (x4 : Int32) (x5 : Int32) (x6 : Int32) (S : MS) : Option (Int32 × MS) := if x5 ≤ x6 then (some (x5, S)) else (ck (vin x6 60) (ck (vin ((((60 : Int32) * x3) + x4) + x6) 360) (lt_ (mJ S 38 (((((60 : Int32) * x3) + x4) + x6)).toNatClampNeg (S.2.2 39 (x6).toNatClampNeg)) (fun S_403 => lt_ (x6 + (1 : Int32)) (fun x6_404 => k141 x3 x4 x5 x6_404 S_403)))))
def mm_shift_141L : Nat → Int32 → Int32 → Int32 → Int32 → MS → Option (Int32 × MS)
  | 0, _, _, _, _, _ => none
  | n + 1, x3, x4, x5, x6, S => mm_shift_141  (mm_shift_141L  n) x3 x4 x5 x6 S
def mm_shift_104 (k104 : Int32 → Int32 → Int32 → Int32 → Int32 → Int32 → MS → Option (Int32 × MS)) (x1 : Int32) (x2 : Int32) (x3 : Int32) (x4 : Int32) (x5 : Int32) (x6 : Int32) (S : MS) : Option (Int32 × MS) := if x5 ≤ x6 then (lt_ ((0 : Int32)) (fun x6_505 => mm_shift_141L  4000 x3 x4 x5 x6_505 S)) else (ck (vin ((((60 : Int32) * x1) + x2) + x6) 360) (ck (vin x6 60) (lt_ (mJ S 39 (x6).toNatClampNeg (S.2.2 38 (((((60 : Int32) * x1) + x2) + x6)).toNatClampNeg)) (fun S_508 => lt_ (x6 + (1 : Int32)) (fun x6_509 => k104 x1 x2 x3 x4 x5 x6_509 S_508)))))
def mm_shift_104L : Nat → Int32 → Int32 → Int32 → Int32 → Int32 → Int32 → MS → Option (Int32 × MS)
  | 0, _, _, _, _, _, _, _ => none
  | n + 1, x1, x2, x3, x4, x5, x6, S => mm_shift_104  (mm_shift_104L  n) x1 x2 x3 x4 x5 x6 S
def mm_shift (S : MS) (a1 : Int32) (a2 : Int32) (a3 : Int32) (a4 : Int32) (a5 : Int32) : Option (Int32 × MS) := bd (mm_isTape S a1) (fun r_611 S_610 => if r_611 = (0 : Int32) then (mm_shift_16   S_610) else (bd (mm_isTape S_610 a3) (fun r_614 S_613 => if r_614 = (0 : Int32) then (mm_shift_16   S_613) else (ck (vin a1 6) (if (S_613.2.1 36 (a1).toNatClampNeg) < (0 : Int32) then (mm_shift_36   S_613) else (ck (vin a3 6) (if (0 : Int32) ≤ (S_613.2.1 36 (a3).toNatClampNeg) then (ck (vin a1 6) (ck (vin a3 6) (if (S_613.2.1 36 (a1).toNatClampNeg) = (S_613.2.1 36 (a3).toNatClampNeg) then (if a5 < (0 : Int32) then (mm_shift_98   S_613) else (if a2 < (0 : Int32) then (mm_shift_98   S_613) else (if a4 < (0 : Int32) then (mm_shift_98   S_613) else (ck (vin a1 6) (if ((S_613.2.1 37 (a1).toNatClampNeg) - a5) < a2 then (mm_shift_98   S_613) else (ck (vin a3 6) (if a4 ≤ ((S_613.2.1 37 (a3).toNatClampNeg) - a5) then (lt_ ((0 : Int32)) (fun x6_622 => mm_shift_104L  4000 a1 a2 a3 a4 a5 x6_622 S_613)) else (mm_shift_98   S_613)))))))) else (some ((-12 : Int32), S_613))))) else (mm_shift_36   S_613))))))))
abbrev wu_X9_shift : List Cond := .code yX9_shift cX9_shift 7 (some .int) :: wsL_law
theorem ud_X9_shift : yX9_shift.cls = RX9 ∧ yX9_shift.cls ≠ "java/lang/invoke/MethodHandle" ∧ yX9_shift.cls ≠ "java/lang/invoke/VarHandle" ∧ (parseMethodDescriptor yX9_shift.desc).map (fun d => d.parameters.length) = some 5 := by decide +kernel
abbrev rmX9_shift : Room := { frames := 2, cells := 0, slots := 0, locals := 44 }
set_option maxHeartbeats 4000000 in
set_option maxRecDepth 100000 in
theorem cc_shift (l : Launch) (D : va_G) (cs : Nat → ClassId) (ad : Nat → Nat) (S T : MS) (a1 : Int32) (a2 : Int32) (a3 : Int32) (a4 : Int32) (a5 : Int32) (r0 : Int32) (h : mm_shift S a1 a2 a3 a4 a5 = some (r0, T)) : MetI l yX9_shift wu_X9_shift rmX9_shift D cs ad [.int a1, .int a2, .int a3, .int a4, .int a5] S T r0 := by
  refine mo_I (ty := .int) (cc := cX9_shift) (maxL := 7) ⟨by decide, rfl⟩ rfl (Nat.le_of_ble_eq_true rfl) ?_
  intro p e s m args below meth c ls cx hl w
  have hx := cx.1
  have hb := cx.2.1
  have hts := cx.2.2.2.1
  have hown := cx.2.2.2.2.1
  have hin : ∀ w ∈ wsX90, w ∈ wu_X9_shift := fun _ hq => List.mem_cons_of_mem _ (inlX9 _ hq)
  have hl : lv_has ls 7 [(0, .ref (ad 100)), (1, .int a1), (2, .int a2), (3, .int a3), (4, .int a4), (5, .int a5)] := hl
  have J16 : ∀  (S : MS), mm_shift_16   S = some (r0, T) → mGo p l e rmX9_shift s m args below meth c 7 D cs ad (mQI below D cs ad args s r0 T) 16 [] [] S := by
    intro  S h H locs ls hl w
    unfold mm_shift_16 at h
    refine lv_iconst (v := (-1 : Int32)) hx hb dX9_shift_16 (by decide) ?_
    exact mw_iret cx (rt_e h) w dX9_shift_17
  have J36 : ∀  (S : MS), mm_shift_36   S = some (r0, T) → mGo p l e rmX9_shift s m args below meth c 7 D cs ad (mQI below D cs ad args s r0 T) 36 [] [] S := by
    intro  S h H locs ls hl w
    unfold mm_shift_36 at h
    refine lv_bipush (v := (-11 : Int32)) hx hb dX9_shift_36 (by decide) ?_
    exact mw_iret cx (rt_e h) w dX9_shift_38
  have J98 : ∀  (S : MS), mm_shift_98   S = some (r0, T) → mGo p l e rmX9_shift s m args below meth c 7 D cs ad (mQI below D cs ad args s r0 T) 98 [] [] S := by
    intro  S h H locs ls hl w
    unfold mm_shift_98 at h
    refine lv_bipush (v := (-13 : Int32)) hx hb dX9_shift_98 (by decide) ?_
    exact mw_iret cx (rt_e h) w dX9_shift_100
  have L141 : ∀ (n : Nat) (x3 : Int32) (x4 : Int32) (x5 : Int32) (x6 : Int32) (S : MS), mm_shift_141L  n x3 x4 x5 x6 S = some (r0, T) → mGo p l e rmX9_shift s m args below meth c 7 D cs ad (mQI below D cs ad args s r0 T) 141 [(0, .ref (ad 100)), (3, .int x3), (4, .int x4), (5, .int x5), (6, .int x6)] [] S := by
    intro n
    induction n with
    | zero =>
      intro x3 x4 x5 x6 S h
      have h : none = some (r0, T) := h
      cases h
    | succ n hk141 =>
      intro x3 x4 x5 x6 S h H locs ls hl w
      have h : mm_shift_141  (mm_shift_141L  n) x3 x4 x5 x6 S = some (r0, T) := h
      generalize mm_shift_141L  n = k141 at h hk141
      unfold mm_shift_141 at h
      refine lv_iload hx hb dX9_shift_141 (lv_at hl 4 rfl) ?_
      refine lv_iload hx hb dX9_shift_143 (lv_at hl 3 rfl) ?_
      refine lv_icmp_ge (tgt := 176) hx hb dX9_shift_145 (by decide) (fun q => ?_) (fun q => ?_)
      · have h := br_p q h
        refine lv_iload hx hb dX9_shift_176 (lv_at hl 3 rfl) ?_
        exact mw_iret cx (rt_e h) w dX9_shift_178
      · have h := br_n q h
        refine lv_aload_n hx hb dX9_shift_148 rfl (lv_at hl 0 rfl) ?_
        refine mw_getR cx hin w 38 (by decide) (List.mem_cons_of_mem _ uf_RX9_126) dX9_shift_149 ?_
        refine lv_bipush (v := (60 : Int32)) hx hb dX9_shift_152 (by decide) ?_
        refine lv_iload_n hx hb dX9_shift_154 rfl (lv_at hl 1 rfl) ?_
        refine lv_imul hx hb dX9_shift_155 ?_
        refine lv_iload hx hb dX9_shift_156 (lv_at hl 2 rfl) ?_
        refine lv_iadd hx hb dX9_shift_158 ?_
        refine lv_iload hx hb dX9_shift_159 (lv_at hl 4 rfl) ?_
        refine lv_iadd hx hb dX9_shift_161 ?_
        refine lv_aload_n hx hb dX9_shift_162 rfl (lv_at hl 0 rfl) ?_
        refine mw_getR cx hin w 39 (by decide) (List.mem_cons_of_mem _ uf_RX9_130) dX9_shift_163 ?_
        refine lv_iload hx hb dX9_shift_166 (lv_at hl 4 rfl) ?_
        obtain ⟨hq_401, h⟩ := ck_e h
        refine mw_lald cx w 26 39 60 (by decide) hq_401 dX9_shift_168 ?_
        obtain ⟨hq_402, h⟩ := ck_e h
        obtain ⟨S_403, eS_403, h⟩ := lt_e h
        refine mw_last cx w 25 38 360 (by decide) hq_402 eS_403 dX9_shift_169 (fun H locs w => ?_)
        obtain ⟨x6_404, ex6_404, h⟩ := lt_e h
        refine lv_iinc (v := x6_404) (lv' := [(6, .int x6_404), (0, .ref (ad 100)), (3, .int x3), (4, .int x4), (5, .int x5)]) hx hb dX9_shift_170 hl (k := 4) rfl (by rw [ex6_404]; rfl) (by decide) rfl (fun ls hl => ?_)
        refine lv_goto (tgt := 141) hx hb dX9_shift_173 (by decide) ?_
        exact hk141 x3 x4 x5 x6_404 S_403 h _ _ _ (lv_sub hl [1, 2, 3, 4, 0] rfl) w
  have L104 : ∀ (n : Nat) (x1 : Int32) (x2 : Int32) (x3 : Int32) (x4 : Int32) (x5 : Int32) (x6 : Int32) (S : MS), mm_shift_104L  n x1 x2 x3 x4 x5 x6 S = some (r0, T) → mGo p l e rmX9_shift s m args below meth c 7 D cs ad (mQI below D cs ad args s r0 T) 104 [(0, .ref (ad 100)), (1, .int x1), (2, .int x2), (3, .int x3), (4, .int x4), (5, .int x5), (6, .int x6)] [] S := by
    intro n
    induction n with
    | zero =>
      intro x1 x2 x3 x4 x5 x6 S h
      have h : none = some (r0, T) := h
      cases h
    | succ n hk104 =>
      intro x1 x2 x3 x4 x5 x6 S h H locs ls hl w
      have h : mm_shift_104  (mm_shift_104L  n) x1 x2 x3 x4 x5 x6 S = some (r0, T) := h
      generalize mm_shift_104L  n = k104 at h hk104
      unfold mm_shift_104 at h
      refine lv_iload hx hb dX9_shift_104 (lv_at hl 6 rfl) ?_
      refine lv_iload hx hb dX9_shift_106 (lv_at hl 5 rfl) ?_
      refine lv_icmp_ge (tgt := 138) hx hb dX9_shift_108 (by decide) (fun q => ?_) (fun q => ?_)
      · have h := br_p q h
        refine lv_iconst (v := (0 : Int32)) hx hb dX9_shift_138 (by decide) ?_
        obtain ⟨x6_505, ex6_505, h⟩ := lt_e h
        refine top_i ex6_505 ?_
        refine lv_istore (lv' := [(6, .int x6_505), (0, .ref (ad 100)), (1, .int x1), (2, .int x2), (3, .int x3), (4, .int x4), (5, .int x5)]) hx hb dX9_shift_139 hl (by decide) rfl (fun ls hl => ?_)
        exact L141  4000 x3 x4 x5 x6_505 S h _ _ _ (lv_sub hl [1, 4, 5, 6, 0] rfl) w
      · have h := br_n q h
        refine lv_aload_n hx hb dX9_shift_111 rfl (lv_at hl 0 rfl) ?_
        refine mw_getR cx hin w 39 (by decide) (List.mem_cons_of_mem _ uf_RX9_130) dX9_shift_112 ?_
        refine lv_iload hx hb dX9_shift_115 (lv_at hl 6 rfl) ?_
        refine lv_aload_n hx hb dX9_shift_117 rfl (lv_at hl 0 rfl) ?_
        refine mw_getR cx hin w 38 (by decide) (List.mem_cons_of_mem _ uf_RX9_126) dX9_shift_118 ?_
        refine lv_bipush (v := (60 : Int32)) hx hb dX9_shift_121 (by decide) ?_
        refine lv_iload_n hx hb dX9_shift_123 rfl (lv_at hl 1 rfl) ?_
        refine lv_imul hx hb dX9_shift_124 ?_
        refine lv_iload_n hx hb dX9_shift_125 rfl (lv_at hl 2 rfl) ?_
        refine lv_iadd hx hb dX9_shift_126 ?_
        refine lv_iload hx hb dX9_shift_127 (lv_at hl 6 rfl) ?_
        refine lv_iadd hx hb dX9_shift_129 ?_
        obtain ⟨hq_506, h⟩ := ck_e h
        refine mw_lald cx w 25 38 360 (by decide) hq_506 dX9_shift_130 ?_
        obtain ⟨hq_507, h⟩ := ck_e h
        obtain ⟨S_508, eS_508, h⟩ := lt_e h
        refine mw_last cx w 26 39 60 (by decide) hq_507 eS_508 dX9_shift_131 (fun H locs w => ?_)
        obtain ⟨x6_509, ex6_509, h⟩ := lt_e h
        refine lv_iinc (v := x6_509) (lv' := [(6, .int x6_509), (0, .ref (ad 100)), (1, .int x1), (2, .int x2), (3, .int x3), (4, .int x4), (5, .int x5)]) hx hb dX9_shift_132 hl (k := 6) rfl (by rw [ex6_509]; rfl) (by decide) rfl (fun ls hl => ?_)
        refine lv_goto (tgt := 104) hx hb dX9_shift_135 (by decide) ?_
        exact hk104 x1 x2 x3 x4 x5 x6_509 S_508 h _ _ _ (lv_sub hl [1, 2, 3, 4, 5, 6, 0] rfl) w
  unfold mm_shift at h
  refine lv_aload_n hx hb dX9_shift_0 rfl (lv_at hl 0 rfl) ?_
  refine lv_iload_n hx hb dX9_shift_1 rfl (lv_at hl 1 rfl) ?_
  obtain ⟨r_611, S_610, hc_612, h⟩ := bd_e h
  refine mw_calli (As := [.int a1]) (rest := []) cx (cc_isTape l D cs ad S S_610 a1 r_611 hc_612) (cwV 1 hts (uG uw_X9_isTape ul_RX9_255 ui_X9_isTape us_RX9_X9_isTape un_RX9) rfl rfl rfl ud_X9_isTape ⟨Nat.le_of_ble_eq_true rfl, Nat.le_of_ble_eq_true rfl⟩) w rfl hl.1 rfl (Nat.le_of_ble_eq_true rfl) dX9_shift_2 (fun H locs w => ?_)
  refine lv_if_eq (tgt := 16) hx hb dX9_shift_5 (by decide) (fun q => ?_) (fun q => ?_)
  · have h := br_p q h
    exact J16   S_610 h _ _ _ (lv_sub hl [] rfl) w
  · have h := br_n q h
    refine lv_aload_n hx hb dX9_shift_8 rfl (lv_at hl 0 rfl) ?_
    refine lv_iload_n hx hb dX9_shift_9 rfl (lv_at hl 3 rfl) ?_
    obtain ⟨r_614, S_613, hc_615, h⟩ := bd_e h
    refine mw_calli (As := [.int a3]) (rest := []) cx (cc_isTape l D cs ad S_610 S_613 a3 r_614 hc_615) (cwV 1 hts (uG uw_X9_isTape ul_RX9_255 ui_X9_isTape us_RX9_X9_isTape un_RX9) rfl rfl rfl ud_X9_isTape ⟨Nat.le_of_ble_eq_true rfl, Nat.le_of_ble_eq_true rfl⟩) w rfl hl.1 rfl (Nat.le_of_ble_eq_true rfl) dX9_shift_10 (fun H locs w => ?_)
    refine lv_if_ne (tgt := 18) hx hb dX9_shift_13 (by decide) (fun q => ?_) (fun q => ?_)
    · have h := br_n q h
      refine lv_aload_n hx hb dX9_shift_18 rfl (lv_at hl 0 rfl) ?_
      refine mw_getR cx hin w 36 (by decide) (List.mem_cons_of_mem _ uf_RX9_120) dX9_shift_19 ?_
      refine lv_iload_n hx hb dX9_shift_22 rfl (lv_at hl 1 rfl) ?_
      obtain ⟨hq_616, h⟩ := ck_e h
      refine mw_iald cx w 23 36 6 (by decide) hq_616 dX9_shift_23 ?_
      refine lv_if_lt (tgt := 36) hx hb dX9_shift_24 (by decide) (fun q => ?_) (fun q => ?_)
      · have h := br_p q h
        exact J36   S_613 h _ _ _ (lv_sub hl [] rfl) w
      · have h := br_n q h
        refine lv_aload_n hx hb dX9_shift_27 rfl (lv_at hl 0 rfl) ?_
        refine mw_getR cx hin w 36 (by decide) (List.mem_cons_of_mem _ uf_RX9_120) dX9_shift_28 ?_
        refine lv_iload_n hx hb dX9_shift_31 rfl (lv_at hl 3 rfl) ?_
        obtain ⟨hq_617, h⟩ := ck_e h
        refine mw_iald cx w 23 36 6 (by decide) hq_617 dX9_shift_32 ?_
        refine lv_if_ge (tgt := 39) hx hb dX9_shift_33 (by decide) (fun q => ?_) (fun q => ?_)
        · have h := br_p q h
          refine lv_aload_n hx hb dX9_shift_39 rfl (lv_at hl 0 rfl) ?_
          refine mw_getR cx hin w 36 (by decide) (List.mem_cons_of_mem _ uf_RX9_120) dX9_shift_40 ?_
          refine lv_iload_n hx hb dX9_shift_43 rfl (lv_at hl 1 rfl) ?_
          obtain ⟨hq_618, h⟩ := ck_e h
          refine mw_iald cx w 23 36 6 (by decide) hq_618 dX9_shift_44 ?_
          refine lv_aload_n hx hb dX9_shift_45 rfl (lv_at hl 0 rfl) ?_
          refine mw_getR cx hin w 36 (by decide) (List.mem_cons_of_mem _ uf_RX9_120) dX9_shift_46 ?_
          refine lv_iload_n hx hb dX9_shift_49 rfl (lv_at hl 3 rfl) ?_
          obtain ⟨hq_619, h⟩ := ck_e h
          refine mw_iald cx w 23 36 6 (by decide) hq_619 dX9_shift_50 ?_
          refine lv_icmp_eq (tgt := 57) hx hb dX9_shift_51 (by decide) (fun q => ?_) (fun q => ?_)
          · have h := br_p q h
            refine lv_iload hx hb dX9_shift_57 (lv_at hl 5 rfl) ?_
            refine lv_if_lt (tgt := 98) hx hb dX9_shift_59 (by decide) (fun q => ?_) (fun q => ?_)
            · have h := br_p q h
              exact J98   S_613 h _ _ _ (lv_sub hl [] rfl) w
            · have h := br_n q h
              refine lv_iload_n hx hb dX9_shift_62 rfl (lv_at hl 2 rfl) ?_
              refine lv_if_lt (tgt := 98) hx hb dX9_shift_63 (by decide) (fun q => ?_) (fun q => ?_)
              · have h := br_p q h
                exact J98   S_613 h _ _ _ (lv_sub hl [] rfl) w
              · have h := br_n q h
                refine lv_iload hx hb dX9_shift_66 (lv_at hl 4 rfl) ?_
                refine lv_if_lt (tgt := 98) hx hb dX9_shift_68 (by decide) (fun q => ?_) (fun q => ?_)
                · have h := br_p q h
                  exact J98   S_613 h _ _ _ (lv_sub hl [] rfl) w
                · have h := br_n q h
                  refine lv_iload_n hx hb dX9_shift_71 rfl (lv_at hl 2 rfl) ?_
                  refine lv_aload_n hx hb dX9_shift_72 rfl (lv_at hl 0 rfl) ?_
                  refine mw_getR cx hin w 37 (by decide) (List.mem_cons_of_mem _ uf_RX9_123) dX9_shift_73 ?_
                  refine lv_iload_n hx hb dX9_shift_76 rfl (lv_at hl 1 rfl) ?_
                  obtain ⟨hq_620, h⟩ := ck_e h
                  refine mw_iald cx w 24 37 6 (by decide) hq_620 dX9_shift_77 ?_
                  refine lv_iload hx hb dX9_shift_78 (lv_at hl 5 rfl) ?_
                  refine lv_isub hx hb dX9_shift_80 ?_
                  refine lv_icmp_gt (tgt := 98) hx hb dX9_shift_81 (by decide) (fun q => ?_) (fun q => ?_)
                  · have h := br_p q h
                    exact J98   S_613 h _ _ _ (lv_sub hl [] rfl) w
                  · have h := br_n q h
                    refine lv_iload hx hb dX9_shift_84 (lv_at hl 4 rfl) ?_
                    refine lv_aload_n hx hb dX9_shift_86 rfl (lv_at hl 0 rfl) ?_
                    refine mw_getR cx hin w 37 (by decide) (List.mem_cons_of_mem _ uf_RX9_123) dX9_shift_87 ?_
                    refine lv_iload_n hx hb dX9_shift_90 rfl (lv_at hl 3 rfl) ?_
                    obtain ⟨hq_621, h⟩ := ck_e h
                    refine mw_iald cx w 24 37 6 (by decide) hq_621 dX9_shift_91 ?_
                    refine lv_iload hx hb dX9_shift_92 (lv_at hl 5 rfl) ?_
                    refine lv_isub hx hb dX9_shift_94 ?_
                    refine lv_icmp_le (tgt := 101) hx hb dX9_shift_95 (by decide) (fun q => ?_) (fun q => ?_)
                    · have h := br_p q h
                      refine lv_iconst (v := (0 : Int32)) hx hb dX9_shift_101 (by decide) ?_
                      obtain ⟨x6_622, ex6_622, h⟩ := lt_e h
                      refine top_i ex6_622 ?_
                      refine lv_istore (lv' := [(6, .int x6_622), (0, .ref (ad 100)), (1, .int a1), (2, .int a2), (3, .int a3), (4, .int a4), (5, .int a5)]) hx hb dX9_shift_102 hl (by decide) rfl (fun ls hl => ?_)
                      exact L104  4000 a1 a2 a3 a4 a5 x6_622 S_613 h _ _ _ (lv_sub hl [1, 2, 3, 4, 5, 6, 0] rfl) w
                    · have h := br_n q h
                      exact J98   S_613 h _ _ _ (lv_sub hl [] rfl) w
          · have h := br_n q h
            refine lv_bipush (v := (-12 : Int32)) hx hb dX9_shift_54 (by decide) ?_
            exact mw_iret cx (rt_e h) w dX9_shift_56
        · have h := br_n q h
          exact J36   S_613 h _ _ _ (lv_sub hl [] rfl) w
    · have h := br_p q h
      exact J16   S_613 h _ _ _ (lv_sub hl [] rfl) w
