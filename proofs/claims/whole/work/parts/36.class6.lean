def hm_J0_isLatin1_aae02_17  (P : PS) : Option (Int32 × PS) := some ((0 : Int32), P)
def hm_J0_isLatin1_aae02 (P : PS) (th : Nat) : Option (Int32 × PS) := if (1 : Int32) = (0 : Int32) then (hm_J0_isLatin1_aae02_17   P) else (ck (lt11 th) (if (0 : Int32) = (0 : Int32) then (some ((1 : Int32), P)) else (hm_J0_isLatin1_aae02_17   P)))
abbrev wu_J0_isLatin1_aae02 : List Cond := .code yJ0_isLatin1_aae02 cJ0_isLatin1_aae02 1 (some .boolean) :: wsL_law
theorem ud_J0_isLatin1_aae02 : yJ0_isLatin1_aae02.cls = RJ0 ∧ yJ0_isLatin1_aae02.cls ≠ "java/lang/invoke/MethodHandle" ∧ yJ0_isLatin1_aae02.cls ≠ "java/lang/invoke/VarHandle" ∧ (parseMethodDescriptor yJ0_isLatin1_aae02.desc).map (fun d => d.parameters.length) = some 0 := by decide +kernel
abbrev rmc_J0_isLatin1_aae02 : Room := { frames := 0, cells := 0, slots := 0, locals := 0 }
set_option maxHeartbeats 4000000 in
set_option maxRecDepth 100000 in
theorem hcc_J0_isLatin1_aae02 (l : Launch) (D : va_G) (cs : Nat → ClassId) (t0 : TS) (P0 T : PS) (th : Nat) (r0 : Int32) (h : hm_J0_isLatin1_aae02 P0 th = some (r0, T)) : MetCI l yJ0_isLatin1_aae02 wu_J0_isLatin1_aae02 rmc_J0_isLatin1_aae02 D cs t0 [.ref (t0.2.2.1 th)] P0 T r0 0 0 := by
  refine co_start (own := RJ0) (ty := (some .boolean)) (cc := cJ0_isLatin1_aae02) (maxL := 1) ⟨by decide, rfl⟩ rfl (Nat.le_of_ble_eq_true rfl) ?_
  intro p e s m args below meth c ls cx hnm hl w
  have hx := cx.1
  have hb := cx.2.1
  have hts := cx.2.2.2.1
  have hown := cx.2.2.2.2.1
  have hml := cx.2.2.2.2.2.2
  have hsub : ∀ w ∈ wsL_law, w ∈ wu_J0_isLatin1_aae02 := fun _ hq => List.mem_cons_of_mem _ hq
  have hl : lv_has ls 1 [(0, .ref (t0.2.2.1 th))] := hl
  have J17 : ∀  (P : PS), hm_J0_isLatin1_aae02_17   P = some (r0, T) → cGo p l e rmc_J0_isLatin1_aae02 s m args below meth c 1 D cs t0 (pA P0) (cQI below D cs P0 args s 0 0 r0 T) 0 0 17 [] [] P := by
    intro  P h H locs ls hl w
    unfold hm_J0_isLatin1_aae02_17 at h
    refine lv_iconst (v := (0 : Int32)) hx hb dJ0_isLatin1_aae02_17 (by decide) ?_
    exact cw_zret cx (Or.inl rfl) (rt_e h) w dJ0_isLatin1_aae02_18
  have hP0 : P0 = P0 := rfl
  unfold hm_J0_isLatin1_aae02 at h
  refine cw_cmpS cx hsub w uf_RJ0_38 dJ0_isLatin1_aae02_0 ?_
  refine lv_if_eq (tgt := 17) hx hb dJ0_isLatin1_aae02_3 (by decide) (fun q => ?_) (fun q => ?_)
  · replace h := br_p q h
    exact J17   P0 h _ _ _ (lv_sub hl [] rfl) w
  · replace h := br_n q h
    refine lv_aload_n hx hb dJ0_isLatin1_aae02_6 rfl (lv_at hl 0 rfl) ?_
    replace h := ck_e h
    obtain ⟨hq_201, h⟩ := h
    refine cw_scod cx hsub w hq_201 uf_RJ0_15 dJ0_isLatin1_aae02_7 ?_
    refine lv_if_ne (tgt := 17) hx hb dJ0_isLatin1_aae02_10 (by decide) (fun q => ?_) (fun q => ?_)
    · replace h := br_n q h
      exact J17   P0 h _ _ _ (lv_sub hl [] rfl) w
    · replace h := br_p q h
      refine lv_iconst (v := (1 : Int32)) hx hb dJ0_isLatin1_aae02_13 (by decide) ?_
      refine lv_goto (tgt := 18) hx hb dJ0_isLatin1_aae02_14 (by decide) ?_
      exact cw_zret cx (Or.inr rfl) (rt_e h) w dJ0_isLatin1_aae02_18
def hm_J0_coder_7d493 (P : PS) (th : Nat) : Option (Int32 × PS) := if (1 : Int32) = (0 : Int32) then (ck (isBy (1 : Int32)) (some ((1 : Int32), P))) else (ck (lt11 th) (ck (isBy (0 : Int32)) (some ((0 : Int32), P))))
abbrev wu_J0_coder_7d493 : List Cond := .code yJ0_coder_7d493 cJ0_coder_7d493 1 (some .byte) :: wsL_law
theorem ud_J0_coder_7d493 : yJ0_coder_7d493.cls = RJ0 ∧ yJ0_coder_7d493.cls ≠ "java/lang/invoke/MethodHandle" ∧ yJ0_coder_7d493.cls ≠ "java/lang/invoke/VarHandle" ∧ (parseMethodDescriptor yJ0_coder_7d493.desc).map (fun d => d.parameters.length) = some 0 := by decide +kernel
abbrev rmc_J0_coder_7d493 : Room := { frames := 0, cells := 0, slots := 0, locals := 0 }
set_option maxHeartbeats 4000000 in
set_option maxRecDepth 100000 in
theorem hcc_J0_coder_7d493 (l : Launch) (D : va_G) (cs : Nat → ClassId) (t0 : TS) (P0 T : PS) (th : Nat) (r0 : Int32) (h : hm_J0_coder_7d493 P0 th = some (r0, T)) : MetCI l yJ0_coder_7d493 wu_J0_coder_7d493 rmc_J0_coder_7d493 D cs t0 [.ref (t0.2.2.1 th)] P0 T r0 0 0 := by
  refine co_start (own := RJ0) (ty := (some .byte)) (cc := cJ0_coder_7d493) (maxL := 1) ⟨by decide, rfl⟩ rfl (Nat.le_of_ble_eq_true rfl) ?_
  intro p e s m args below meth c ls cx hnm hl w
  have hx := cx.1
  have hb := cx.2.1
  have hts := cx.2.2.2.1
  have hown := cx.2.2.2.2.1
  have hml := cx.2.2.2.2.2.2
  have hsub : ∀ w ∈ wsL_law, w ∈ wu_J0_coder_7d493 := fun _ hq => List.mem_cons_of_mem _ hq
  have hl : lv_has ls 1 [(0, .ref (t0.2.2.1 th))] := hl
  have hP0 : P0 = P0 := rfl
  unfold hm_J0_coder_7d493 at h
  refine cw_cmpS cx hsub w uf_RJ0_38 dJ0_coder_7d493_0 ?_
  refine lv_if_eq (tgt := 13) hx hb dJ0_coder_7d493_3 (by decide) (fun q => ?_) (fun q => ?_)
  · replace h := br_p q h
    refine lv_iconst (v := (1 : Int32)) hx hb dJ0_coder_7d493_13 (by decide) ?_
    replace h := ck_e h
    obtain ⟨hq_101, h⟩ := h
    exact cw_cret cx (isBy_e hq_101) (rt_e h) w dJ0_coder_7d493_14
  · replace h := br_n q h
    refine lv_aload_n hx hb dJ0_coder_7d493_6 rfl (lv_at hl 0 rfl) ?_
    replace h := ck_e h
    obtain ⟨hq_102, h⟩ := h
    refine cw_scod cx hsub w hq_102 uf_RJ0_15 dJ0_coder_7d493_7 ?_
    refine lv_goto (tgt := 14) hx hb dJ0_coder_7d493_10 (by decide) ?_
    replace h := ck_e h
    obtain ⟨hq_103, h⟩ := h
    exact cw_cret cx (isBy_e hq_103) (rt_e h) w dJ0_coder_7d493_14
def hm_J0_length_8abf5 (P : PS) (th : Nat) : Option (Int32 × PS) := ck (lt11 th) (ck (lt11 th) (bd (hm_J0_coder_7d493  P th) (fun r_104 P_103 => ck (lt11 th) (some (((nI (strL.getD th 0)) >>> (r_104 &&& 31)), P_103)))))
abbrev wu_J0_length_8abf5 : List Cond := .code yJ0_length_8abf5 cJ0_length_8abf5 1 (some .int) :: wsL_law
theorem ud_J0_length_8abf5 : yJ0_length_8abf5.cls = RJ0 ∧ yJ0_length_8abf5.cls ≠ "java/lang/invoke/MethodHandle" ∧ yJ0_length_8abf5.cls ≠ "java/lang/invoke/VarHandle" ∧ (parseMethodDescriptor yJ0_length_8abf5.desc).map (fun d => d.parameters.length) = some 0 := by decide +kernel
abbrev rmc_J0_length_8abf5 : Room := { frames := 1, cells := 0, slots := 0, locals := 20 }
set_option maxHeartbeats 4000000 in
set_option maxRecDepth 100000 in
theorem hcc_J0_length_8abf5 (l : Launch) (D : va_G) (cs : Nat → ClassId) (t0 : TS) (P0 T : PS) (th : Nat) (r0 : Int32) (h : hm_J0_length_8abf5 P0 th = some (r0, T)) : MetCI l yJ0_length_8abf5 wu_J0_length_8abf5 rmc_J0_length_8abf5 D cs t0 [.ref (t0.2.2.1 th)] P0 T r0 0 0 := by
  refine co_start (own := RJ0) (ty := (some .int)) (cc := cJ0_length_8abf5) (maxL := 1) ⟨by decide, rfl⟩ rfl (Nat.le_of_ble_eq_true rfl) ?_
  intro p e s m args below meth c ls cx hnm hl w
  have hx := cx.1
  have hb := cx.2.1
  have hts := cx.2.2.2.1
  have hown := cx.2.2.2.2.1
  have hml := cx.2.2.2.2.2.2
  have hsub : ∀ w ∈ wsL_law, w ∈ wu_J0_length_8abf5 := fun _ hq => List.mem_cons_of_mem _ hq
  have hl : lv_has ls 1 [(0, .ref (t0.2.2.1 th))] := hl
  have hP0 : P0 = P0 := rfl
  unfold hm_J0_length_8abf5 at h
  refine lv_aload_n hx hb dJ0_length_8abf5_0 rfl (lv_at hl 0 rfl) ?_
  replace h := ck_e h
  obtain ⟨hq_101, h⟩ := h
  refine cw_sval cx hsub w hq_101 uf_RJ0_9 dJ0_length_8abf5_1 ?_
  replace h := ck_e h
  obtain ⟨hq_102, h⟩ := h
  refine cw_slen cx w hq_102 dJ0_length_8abf5_4 ?_
  refine lv_aload_n hx hb dJ0_length_8abf5_5 rfl (lv_at hl 0 rfl) ?_
  replace h := bd_e h
  obtain ⟨r_104, P_103, hc_105, h⟩ := h
  replace h := ck_e h
  obtain ⟨hq_106, h⟩ := h
  refine cc_i (cr_Vs (As := []) (rest := [.int (nI (strL.getD th 0))]) cx (hcc_J0_coder_7d493 l D cs t0  P0 P_103 th r_104 hc_105) hq_106 (cwV 0 hts (uG uw_J0_coder_7d493 ul_RJ0_335 ui_J0_coder_7d493 us_RJ0_J0_coder_7d493 un_RJ0) rfl rfl rfl ud_J0_coder_7d493 ⟨Nat.le_of_ble_eq_true rfl, Nat.le_of_ble_eq_true rfl⟩) w rfl hl.1 rfl (Nat.le_of_ble_eq_true rfl) dJ0_length_8abf5_6 ⟨(Nat.le_of_ble_eq_true rfl), (Nat.le_of_ble_eq_true rfl)⟩) (fun H locs w => ?_)
  refine lv_ishr hx hb dJ0_length_8abf5_9 ?_
  exact cw_iret cx (rt_e h) w dJ0_length_8abf5_10
def hm_J1_canEncode_9a6ad_15  (P : PS) : Option (Int32 × PS) := some ((0 : Int32), P)
def hm_J1_canEncode_9a6ad (P : PS) (a1 : Int32) : Option (Int32 × PS) := if a1 < (0 : Int32) then (hm_J1_canEncode_9a6ad_15   P) else (if (255 : Int32) < a1 then (hm_J1_canEncode_9a6ad_15   P) else (some ((1 : Int32), P)))
abbrev wu_J1_canEncode_9a6ad : List Cond := .code yJ1_canEncode_9a6ad cJ1_canEncode_9a6ad 1 (some .boolean) :: wsL_law
theorem ud_J1_canEncode_9a6ad : yJ1_canEncode_9a6ad.cls = RJ1 ∧ yJ1_canEncode_9a6ad.cls ≠ "java/lang/invoke/MethodHandle" ∧ yJ1_canEncode_9a6ad.cls ≠ "java/lang/invoke/VarHandle" ∧ (parseMethodDescriptor yJ1_canEncode_9a6ad.desc).map (fun d => d.parameters.length) = some 1 := by decide +kernel
abbrev rmc_J1_canEncode_9a6ad : Room := { frames := 0, cells := 0, slots := 0, locals := 0 }
set_option maxHeartbeats 4000000 in
set_option maxRecDepth 100000 in
theorem hcc_J1_canEncode_9a6ad (l : Launch) (D : va_G) (cs : Nat → ClassId) (t0 : TS) (P0 T : PS) (a1 : Int32) (r0 : Int32) (h : hm_J1_canEncode_9a6ad P0 a1 = some (r0, T)) : MetCI l yJ1_canEncode_9a6ad wu_J1_canEncode_9a6ad rmc_J1_canEncode_9a6ad D cs t0 [.int a1] P0 T r0 0 0 := by
  refine co_start (own := RJ1) (ty := (some .boolean)) (cc := cJ1_canEncode_9a6ad) (maxL := 1) ⟨by decide, rfl⟩ rfl (Nat.le_of_ble_eq_true rfl) ?_
  intro p e s m args below meth c ls cx hnm hl w
  have hx := cx.1
  have hb := cx.2.1
  have hts := cx.2.2.2.1
  have hown := cx.2.2.2.2.1
  have hml := cx.2.2.2.2.2.2
  have hsub : ∀ w ∈ wsL_law, w ∈ wu_J1_canEncode_9a6ad := fun _ hq => List.mem_cons_of_mem _ hq
  have hl : lv_has ls 1 [(0, .int a1)] := hl
  have J15 : ∀  (P : PS), hm_J1_canEncode_9a6ad_15   P = some (r0, T) → cGo p l e rmc_J1_canEncode_9a6ad s m args below meth c 1 D cs t0 (pA P0) (cQI below D cs P0 args s 0 0 r0 T) 0 0 15 [] [] P := by
    intro  P h H locs ls hl w
    unfold hm_J1_canEncode_9a6ad_15 at h
    refine lv_iconst (v := (0 : Int32)) hx hb dJ1_canEncode_9a6ad_15 (by decide) ?_
    exact cw_zret cx (Or.inl rfl) (rt_e h) w dJ1_canEncode_9a6ad_16
  have hP0 : P0 = P0 := rfl
  unfold hm_J1_canEncode_9a6ad at h
  refine lv_iload_n hx hb dJ1_canEncode_9a6ad_0 rfl (lv_at hl 0 rfl) ?_
  refine lv_if_lt (tgt := 15) hx hb dJ1_canEncode_9a6ad_1 (by decide) (fun q => ?_) (fun q => ?_)
  · replace h := br_p q h
    exact J15   P0 h _ _ _ (lv_sub hl [] rfl) w
  · replace h := br_n q h
    refine lv_iload_n hx hb dJ1_canEncode_9a6ad_4 rfl (lv_at hl 0 rfl) ?_
    refine lv_sipush (v := (255 : Int32)) hx hb dJ1_canEncode_9a6ad_5 (by decide) ?_
    refine lv_icmp_gt (tgt := 15) hx hb dJ1_canEncode_9a6ad_8 (by decide) (fun q => ?_) (fun q => ?_)
    · replace h := br_p q h
      exact J15   P0 h _ _ _ (lv_sub hl [] rfl) w
    · replace h := br_n q h
      refine lv_iconst (v := (1 : Int32)) hx hb dJ1_canEncode_9a6ad_11 (by decide) ?_
      refine lv_goto (tgt := 16) hx hb dJ1_canEncode_9a6ad_12 (by decide) ?_
      exact cw_zret cx (Or.inr rfl) (rt_e h) w dJ1_canEncode_9a6ad_16
def hm_J1_indexOfChar_4cfef_7 (k7 : Nat → Int32 → Int32 → Int32 → PS → Option (Int32 × PS)) (o0 : Nat) (x3 : Int32) (x4 : Int32) (x5 : Int32) (P : PS) : Option (Int32 × PS) := if x3 ≤ x5 then (some ((-1 : Int32), P)) else (ck (lt11 o0) (ck (vin x5 (strL.getD o0 0)) (if ((strB.getD o0 []).getD (x5).toNatClampNeg 0) = x4 then (some (x5, P)) else (lt_ (x5 + (1 : Int32)) (fun x5_103 => k7 o0 x3 x4 x5_103 P)))))
def hm_J1_indexOfChar_4cfef_7L : Nat → Nat → Int32 → Int32 → Int32 → PS → Option (Int32 × PS)
  | 0, _, _, _, _, _ => none
  | n + 1, o0, x3, x4, x5, P => hm_J1_indexOfChar_4cfef_7  (hm_J1_indexOfChar_4cfef_7L  n) o0 x3 x4 x5 P
def hm_J1_indexOfChar_4cfef (P : PS) (a1 : Nat) (a2 : Int32) (a3 : Int32) (a4 : Int32) : Option (Int32 × PS) := lt_ ((a2).toInt8.toInt32) (fun x4_204 => hm_J1_indexOfChar_4cfef_7L  4000 a1 a4 x4_204 a3 P)
abbrev wu_J1_indexOfChar_4cfef : List Cond := .code yJ1_indexOfChar_4cfef cJ1_indexOfChar_4cfef 6 (some .int) :: wsL_law
theorem ud_J1_indexOfChar_4cfef : yJ1_indexOfChar_4cfef.cls = RJ1 ∧ yJ1_indexOfChar_4cfef.cls ≠ "java/lang/invoke/MethodHandle" ∧ yJ1_indexOfChar_4cfef.cls ≠ "java/lang/invoke/VarHandle" ∧ (parseMethodDescriptor yJ1_indexOfChar_4cfef.desc).map (fun d => d.parameters.length) = some 4 := by decide +kernel
abbrev rmc_J1_indexOfChar_4cfef : Room := { frames := 0, cells := 0, slots := 0, locals := 0 }
set_option maxHeartbeats 4000000 in
set_option maxRecDepth 100000 in
theorem hcc_J1_indexOfChar_4cfef (l : Launch) (D : va_G) (cs : Nat → ClassId) (t0 : TS) (P0 T : PS) (a1 : Nat) (a2 : Int32) (a3 : Int32) (a4 : Int32) (r0 : Int32) (h : hm_J1_indexOfChar_4cfef P0 a1 a2 a3 a4 = some (r0, T)) : MetCI l yJ1_indexOfChar_4cfef wu_J1_indexOfChar_4cfef rmc_J1_indexOfChar_4cfef D cs t0 [.ref (t0.2.2.2.1 a1), .int a2, .int a3, .int a4] P0 T r0 0 0 := by
  refine co_start (own := RJ1) (ty := (some .int)) (cc := cJ1_indexOfChar_4cfef) (maxL := 6) ⟨by decide, rfl⟩ rfl (Nat.le_of_ble_eq_true rfl) ?_
  intro p e s m args below meth c ls cx hnm hl w
  have hx := cx.1
  have hb := cx.2.1
  have hts := cx.2.2.2.1
  have hown := cx.2.2.2.2.1
  have hml := cx.2.2.2.2.2.2
  have hsub : ∀ w ∈ wsL_law, w ∈ wu_J1_indexOfChar_4cfef := fun _ hq => List.mem_cons_of_mem _ hq
  have hl : lv_has ls 6 [(0, .ref (t0.2.2.2.1 a1)), (1, .int a2), (2, .int a3), (3, .int a4)] := hl
  have L7 : ∀ (n : Nat) (o0 : Nat) (x3 : Int32) (x4 : Int32) (x5 : Int32) (P : PS), hm_J1_indexOfChar_4cfef_7L  n o0 x3 x4 x5 P = some (r0, T) → cGo p l e rmc_J1_indexOfChar_4cfef s m args below meth c 6 D cs t0 (pA P0) (cQI below D cs P0 args s 0 0 r0 T) 0 0 7 [(0, .ref (t0.2.2.2.1 o0)), (3, .int x3), (4, .int x4), (5, .int x5)] [] P := by
    intro n
    induction n with
    | zero =>
      intro o0 x3 x4 x5 P h
      have h : none = some (r0, T) := h
      cases h
    | succ n hk7 =>
      intro o0 x3 x4 x5 P h H locs ls hl w
      have h : hm_J1_indexOfChar_4cfef_7  (hm_J1_indexOfChar_4cfef_7L  n) o0 x3 x4 x5 P = some (r0, T) := h
      generalize hm_J1_indexOfChar_4cfef_7L  n = k7 at h hk7
      unfold hm_J1_indexOfChar_4cfef_7 at h
      refine lv_iload hx hb dJ1_indexOfChar_4cfef_7 (lv_at hl 3 rfl) ?_
      refine lv_iload_n hx hb dJ1_indexOfChar_4cfef_9 rfl (lv_at hl 1 rfl) ?_
      refine lv_icmp_ge (tgt := 31) hx hb dJ1_indexOfChar_4cfef_10 (by decide) (fun q => ?_) (fun q => ?_)
      · replace h := br_p q h
        refine lv_iconst (v := (-1 : Int32)) hx hb dJ1_indexOfChar_4cfef_31 (by decide) ?_
        exact cw_iret cx (rt_e h) w dJ1_indexOfChar_4cfef_32
      · replace h := br_n q h
        refine lv_aload_n hx hb dJ1_indexOfChar_4cfef_13 rfl (lv_at hl 0 rfl) ?_
        refine lv_iload hx hb dJ1_indexOfChar_4cfef_14 (lv_at hl 3 rfl) ?_
        replace h := ck_e h
        obtain ⟨hq_101, h⟩ := h
        replace h := ck_e h
        obtain ⟨hq_102, h⟩ := h
        refine cw_sbald cx w hq_101 hq_102 dJ1_indexOfChar_4cfef_16 ?_
        refine lv_iload hx hb dJ1_indexOfChar_4cfef_17 (lv_at hl 2 rfl) ?_
        refine lv_icmp_ne (tgt := 25) hx hb dJ1_indexOfChar_4cfef_19 (by decide) (fun q => ?_) (fun q => ?_)
        · replace h := br_n q h
          replace h := lt_e h
          obtain ⟨x5_103, ex5_103, h⟩ := h
          refine lv_iinc (v := x5_103) (lv' := [(5, .int x5_103), (0, .ref (t0.2.2.2.1 o0)), (3, .int x3), (4, .int x4)]) hx hb dJ1_indexOfChar_4cfef_25 hl (k := 3) rfl (by rw [ex5_103]; rfl) (by decide) (rfl) (fun ls hl => ?_)
          refine lv_goto (tgt := 7) hx hb dJ1_indexOfChar_4cfef_28 (by decide) ?_
          exact hk7 o0 x3 x4 x5_103 P h _ _ _ (lv_sub hl [1, 2, 3, 0] rfl) w
        · replace h := br_p q h
          refine lv_iload hx hb dJ1_indexOfChar_4cfef_22 (lv_at hl 3 rfl) ?_
          exact cw_iret cx (rt_e h) w dJ1_indexOfChar_4cfef_24
  have hP0 : P0 = P0 := rfl
  unfold hm_J1_indexOfChar_4cfef at h
  refine lv_iload_n hx hb dJ1_indexOfChar_4cfef_0 rfl (lv_at hl 1 rfl) ?_
  refine lv_i2b hx hb dJ1_indexOfChar_4cfef_1 rfl ?_
  replace h := lt_e h
  obtain ⟨x4_204, ex4_204, h⟩ := h
  refine top_i ex4_204 ?_
  refine lv_istore (lv' := [(4, .int x4_204), (0, .ref (t0.2.2.2.1 a1)), (1, .int a2), (2, .int a3), (3, .int a4)]) hx hb dJ1_indexOfChar_4cfef_2 hl (by decide) (rfl) (fun ls hl => ?_)
  refine lv_iload_n hx hb dJ1_indexOfChar_4cfef_4 rfl (lv_at hl 3 rfl) ?_
  refine lv_istore (lv' := [(5, .int a3), (4, .int x4_204), (0, .ref (t0.2.2.2.1 a1)), (1, .int a2), (2, .int a3), (3, .int a4)]) hx hb dJ1_indexOfChar_4cfef_5 hl (by decide) (rfl) (fun ls hl => ?_)
  exact L7  4000 a1 a4 x4_204 a3 P0 h _ _ _ (lv_sub hl [2, 5, 1, 0] rfl) w
def hm_J1_indexOf_4cfef (P : PS) (a1 : Nat) (a2 : Int32) (a3 : Int32) (a4 : Int32) : Option (Int32 × PS) := bd (hm_J1_canEncode_9a6ad  P a2) (fun r_102 P_101 => if r_102 = (0 : Int32) then (some ((-1 : Int32), P_101)) else (lt_ ((if a3 < (0 : Int32) then (0 : Int32) else a3)) (fun x2_104 => ck (lt11 a1) (lt_ ((if (nI (strL.getD a1 0)) < a4 then (nI (strL.getD a1 0)) else a4)) (fun x3_106 => if x2_104 < x3_106 then (bd (hm_J1_indexOfChar_4cfef  P_101 a1 a2 x2_104 x3_106) (fun r_108 P_107 => some (r_108, P_107))) else (some ((-1 : Int32), P_101)))))))
abbrev wu_J1_indexOf_4cfef : List Cond := .code yJ1_indexOf_4cfef cJ1_indexOf_4cfef 4 (some .int) :: wsL_law
theorem ud_J1_indexOf_4cfef : yJ1_indexOf_4cfef.cls = RJ1 ∧ yJ1_indexOf_4cfef.cls ≠ "java/lang/invoke/MethodHandle" ∧ yJ1_indexOf_4cfef.cls ≠ "java/lang/invoke/VarHandle" ∧ (parseMethodDescriptor yJ1_indexOf_4cfef.desc).map (fun d => d.parameters.length) = some 4 := by decide +kernel
abbrev rmc_J1_indexOf_4cfef : Room := { frames := 1, cells := 0, slots := 0, locals := 40 }
set_option maxHeartbeats 4000000 in
set_option maxRecDepth 100000 in
theorem hcc_J1_indexOf_4cfef (l : Launch) (D : va_G) (cs : Nat → ClassId) (t0 : TS) (P0 T : PS) (a1 : Nat) (a2 : Int32) (a3 : Int32) (a4 : Int32) (r0 : Int32) (h : hm_J1_indexOf_4cfef P0 a1 a2 a3 a4 = some (r0, T)) : MetCI l yJ1_indexOf_4cfef wu_J1_indexOf_4cfef rmc_J1_indexOf_4cfef D cs t0 [.ref (t0.2.2.2.1 a1), .int a2, .int a3, .int a4] P0 T r0 0 0 := by
  refine co_start (own := RJ1) (ty := (some .int)) (cc := cJ1_indexOf_4cfef) (maxL := 4) ⟨by decide, rfl⟩ rfl (Nat.le_of_ble_eq_true rfl) ?_
  intro p e s m args below meth c ls cx hnm hl w
  have hx := cx.1
  have hb := cx.2.1
  have hts := cx.2.2.2.1
  have hown := cx.2.2.2.2.1
  have hml := cx.2.2.2.2.2.2
  have hsub : ∀ w ∈ wsL_law, w ∈ wu_J1_indexOf_4cfef := fun _ hq => List.mem_cons_of_mem _ hq
  have hl : lv_has ls 4 [(0, .ref (t0.2.2.2.1 a1)), (1, .int a2), (2, .int a3), (3, .int a4)] := hl
  have hP0 : P0 = P0 := rfl
  unfold hm_J1_indexOf_4cfef at h
  refine lv_iload_n hx hb dJ1_indexOf_4cfef_0 rfl (lv_at hl 1 rfl) ?_
  replace h := bd_e h
  obtain ⟨r_102, P_101, hc_103, h⟩ := h
  refine cc_i (cr_S (As := [.int a2]) (rest := []) cx (hcc_J1_canEncode_9a6ad l D cs t0  P0 P_101 a2 r_102 hc_103) (va_cwS 1 hts (uGS uw_J1_canEncode_9a6ad ul_RJ1_88 ut_J1_canEncode_9a6ad un_RJ1) rfl rfl rfl ud_J1_canEncode_9a6ad.2 ⟨Nat.le_of_ble_eq_true rfl, Nat.le_of_ble_eq_true rfl⟩) w rfl hl.1 rfl (Nat.le_of_ble_eq_true rfl) dJ1_indexOf_4cfef_1 ⟨(Nat.le_of_ble_eq_true rfl), (Nat.le_of_ble_eq_true rfl)⟩) (fun H locs w => ?_)
  refine lv_if_ne (tgt := 9) hx hb dJ1_indexOf_4cfef_4 (by decide) (fun q => ?_) (fun q => ?_)
  · replace h := br_n q h
    refine lv_iload_n hx hb dJ1_indexOf_4cfef_9 rfl (lv_at hl 2 rfl) ?_
    refine lv_iconst (v := (0 : Int32)) hx hb dJ1_indexOf_4cfef_10 (by decide) ?_
    refine cw_max cx hsub hl.1 ul_RJ1_92 (Nat.le_of_ble_eq_true rfl) (Nat.le_of_ble_eq_true rfl) (Nat.le_of_ble_eq_true rfl) (Nat.le_of_ble_eq_true rfl) dJ1_indexOf_4cfef_11 ?_
    replace h := lt_e h
    obtain ⟨x2_104, ex2_104, h⟩ := h
    refine top_i ex2_104 ?_
    refine lv_istore_n (lv' := [(2, .int x2_104), (0, .ref (t0.2.2.2.1 a1)), (1, .int a2), (3, .int a4)]) hx hb dJ1_indexOf_4cfef_14 rfl hl (by decide) (rfl) (fun ls hl => ?_)
    refine lv_iload_n hx hb dJ1_indexOf_4cfef_15 rfl (lv_at hl 3 rfl) ?_
    refine lv_aload_n hx hb dJ1_indexOf_4cfef_16 rfl (lv_at hl 1 rfl) ?_
    replace h := ck_e h
    obtain ⟨hq_105, h⟩ := h
    refine cw_slen cx w hq_105 dJ1_indexOf_4cfef_17 ?_
    refine cw_min cx hsub hl.1 ul_RJ1_38 (Nat.le_of_ble_eq_true rfl) (Nat.le_of_ble_eq_true rfl) (Nat.le_of_ble_eq_true rfl) (Nat.le_of_ble_eq_true rfl) dJ1_indexOf_4cfef_18 ?_
    replace h := lt_e h
    obtain ⟨x3_106, ex3_106, h⟩ := h
    refine top_i ex3_106 ?_
    refine lv_istore_n (lv' := [(3, .int x3_106), (2, .int x2_104), (0, .ref (t0.2.2.2.1 a1)), (1, .int a2)]) hx hb dJ1_indexOf_4cfef_21 rfl hl (by decide) (rfl) (fun ls hl => ?_)
    refine lv_iload_n hx hb dJ1_indexOf_4cfef_22 rfl (lv_at hl 1 rfl) ?_
    refine lv_iload_n hx hb dJ1_indexOf_4cfef_23 rfl (lv_at hl 0 rfl) ?_
    refine lv_icmp_lt (tgt := 29) hx hb dJ1_indexOf_4cfef_24 (by decide) (fun q => ?_) (fun q => ?_)
    · replace h := br_p q h
      refine lv_aload_n hx hb dJ1_indexOf_4cfef_29 rfl (lv_at hl 2 rfl) ?_
      refine lv_iload_n hx hb dJ1_indexOf_4cfef_30 rfl (lv_at hl 3 rfl) ?_
      refine lv_iload_n hx hb dJ1_indexOf_4cfef_31 rfl (lv_at hl 1 rfl) ?_
      refine lv_iload_n hx hb dJ1_indexOf_4cfef_32 rfl (lv_at hl 0 rfl) ?_
      replace h := bd_e h
      obtain ⟨r_108, P_107, hc_109, h⟩ := h
      refine cc_i (cr_S (As := [.ref (t0.2.2.2.1 a1), .int a2, .int x2_104, .int x3_106]) (rest := []) cx (hcc_J1_indexOfChar_4cfef l D cs t0  P_101 P_107 a1 a2 x2_104 x3_106 r_108 hc_109) (va_cwS 4 hts (uGS uw_J1_indexOfChar_4cfef ul_RJ1_95 ut_J1_indexOfChar_4cfef un_RJ1) rfl rfl rfl ud_J1_indexOfChar_4cfef.2 ⟨Nat.le_of_ble_eq_true rfl, Nat.le_of_ble_eq_true rfl⟩) w rfl hl.1 rfl (Nat.le_of_ble_eq_true rfl) dJ1_indexOf_4cfef_33 ⟨(Nat.le_of_ble_eq_true rfl), (Nat.le_of_ble_eq_true rfl)⟩) (fun H locs w => ?_)
      exact cw_iret cx (rt_e h) w dJ1_indexOf_4cfef_36
    · replace h := br_n q h
      refine lv_iconst (v := (-1 : Int32)) hx hb dJ1_indexOf_4cfef_27 (by decide) ?_
      exact cw_iret cx (rt_e h) w dJ1_indexOf_4cfef_28
  · replace h := br_p q h
    refine lv_iconst (v := (-1 : Int32)) hx hb dJ1_indexOf_4cfef_7 (by decide) ?_
    exact cw_iret cx (rt_e h) w dJ1_indexOf_4cfef_8
def hm_J0_indexOf_7cf53 (P : PS) (th : Nat) (a1 : Int32) (a2 : Int32) : Option (Int32 × PS) := bd (hm_J0_isLatin1_aae02  P th) (fun r_102 P_101 => ck (lt11 th) (if r_102 = (0 : Int32) then (none) else (ck (lt11 th) (bd (hm_J0_length_8abf5  P_101 th) (fun r_107 P_106 => ck (lt11 th) (bd (hm_J1_indexOf_4cfef  P_106 th a1 a2 r_107) (fun r_111 P_110 => some (r_111, P_110))))))))
abbrev wu_J0_indexOf_7cf53 : List Cond := .code yJ0_indexOf_7cf53 cJ0_indexOf_7cf53 3 (some .int) :: wsL_law
theorem ud_J0_indexOf_7cf53 : yJ0_indexOf_7cf53.cls = RJ0 ∧ yJ0_indexOf_7cf53.cls ≠ "java/lang/invoke/MethodHandle" ∧ yJ0_indexOf_7cf53.cls ≠ "java/lang/invoke/VarHandle" ∧ (parseMethodDescriptor yJ0_indexOf_7cf53.desc).map (fun d => d.parameters.length) = some 2 := by decide +kernel
abbrev rmc_J0_indexOf_7cf53 : Room := { frames := 2, cells := 0, slots := 0, locals := 63 }
set_option maxHeartbeats 4000000 in
set_option maxRecDepth 100000 in
theorem hcc_J0_indexOf_7cf53 (l : Launch) (D : va_G) (cs : Nat → ClassId) (t0 : TS) (P0 T : PS) (th : Nat) (a1 : Int32) (a2 : Int32) (r0 : Int32) (h : hm_J0_indexOf_7cf53 P0 th a1 a2 = some (r0, T)) : MetCI l yJ0_indexOf_7cf53 wu_J0_indexOf_7cf53 rmc_J0_indexOf_7cf53 D cs t0 [.ref (t0.2.2.1 th), .int a1, .int a2] P0 T r0 0 0 := by
  refine co_start (own := RJ0) (ty := (some .int)) (cc := cJ0_indexOf_7cf53) (maxL := 3) ⟨by decide, rfl⟩ rfl (Nat.le_of_ble_eq_true rfl) ?_
  intro p e s m args below meth c ls cx hnm hl w
  have hx := cx.1
  have hb := cx.2.1
  have hts := cx.2.2.2.1
  have hown := cx.2.2.2.2.1
  have hml := cx.2.2.2.2.2.2
  have hsub : ∀ w ∈ wsL_law, w ∈ wu_J0_indexOf_7cf53 := fun _ hq => List.mem_cons_of_mem _ hq
  have hl : lv_has ls 3 [(0, .ref (t0.2.2.1 th)), (1, .int a1), (2, .int a2)] := hl
  have hP0 : P0 = P0 := rfl
  unfold hm_J0_indexOf_7cf53 at h
  refine lv_aload_n hx hb dJ0_indexOf_7cf53_0 rfl (lv_at hl 0 rfl) ?_
  replace h := bd_e h
  obtain ⟨r_102, P_101, hc_103, h⟩ := h
  replace h := ck_e h
  obtain ⟨hq_104, h⟩ := h
  refine cc_i (cr_Vs (As := []) (rest := []) cx (hcc_J0_isLatin1_aae02 l D cs t0  P0 P_101 th r_102 hc_103) hq_104 (cwV 0 hts (uG uw_J0_isLatin1_aae02 ul_RJ0_492 ui_J0_isLatin1_aae02 us_RJ0_J0_isLatin1_aae02 un_RJ0) rfl rfl rfl ud_J0_isLatin1_aae02 ⟨Nat.le_of_ble_eq_true rfl, Nat.le_of_ble_eq_true rfl⟩) w rfl hl.1 rfl (Nat.le_of_ble_eq_true rfl) dJ0_indexOf_7cf53_1 ⟨(Nat.le_of_ble_eq_true rfl), (Nat.le_of_ble_eq_true rfl)⟩) (fun H locs w => ?_)
  refine lv_if_eq (tgt := 23) hx hb dJ0_indexOf_7cf53_4 (by decide) (fun q => ?_) (fun q => ?_)
  · replace h := br_p q h
    cases h
  · replace h := br_n q h
    refine lv_aload_n hx hb dJ0_indexOf_7cf53_7 rfl (lv_at hl 0 rfl) ?_
    replace h := ck_e h
    obtain ⟨hq_105, h⟩ := h
    refine cw_sval cx hsub w hq_105 uf_RJ0_9 dJ0_indexOf_7cf53_8 ?_
    refine lv_iload_n hx hb dJ0_indexOf_7cf53_11 rfl (lv_at hl 1 rfl) ?_
    refine lv_iload_n hx hb dJ0_indexOf_7cf53_12 rfl (lv_at hl 2 rfl) ?_
    refine lv_aload_n hx hb dJ0_indexOf_7cf53_13 rfl (lv_at hl 0 rfl) ?_
    replace h := bd_e h
    obtain ⟨r_107, P_106, hc_108, h⟩ := h
    replace h := ck_e h
    obtain ⟨hq_109, h⟩ := h
    refine cc_i (cr_Vs (As := []) (rest := [.int a2, .int a1, .ref (t0.2.2.2.1 th)]) cx (hcc_J0_length_8abf5 l D cs t0  P_101 P_106 th r_107 hc_108) hq_109 (cwV 0 hts (uG uw_J0_length_8abf5 ul_RJ0_505 ui_J0_length_8abf5 us_RJ0_J0_length_8abf5 un_RJ0) rfl rfl rfl ud_J0_length_8abf5 ⟨Nat.le_of_ble_eq_true rfl, Nat.le_of_ble_eq_true rfl⟩) w rfl hl.1 rfl (Nat.le_of_ble_eq_true rfl) dJ0_indexOf_7cf53_14 ⟨(Nat.le_of_ble_eq_true rfl), (Nat.le_of_ble_eq_true rfl)⟩) (fun H locs w => ?_)
    replace h := bd_e h
    obtain ⟨r_111, P_110, hc_112, h⟩ := h
    refine cc_i (cr_S (As := [.ref (t0.2.2.2.1 th), .int a1, .int a2, .int r_107]) (rest := []) cx (hcc_J1_indexOf_4cfef l D cs t0  P_106 P_110 th a1 a2 r_107 r_111 hc_112) (va_cwS 4 hts (uGS uw_J1_indexOf_4cfef ul_RJ0_637 ut_J1_indexOf_4cfef un_RJ1) rfl rfl rfl ud_J1_indexOf_4cfef.2 ⟨Nat.le_of_ble_eq_true rfl, Nat.le_of_ble_eq_true rfl⟩) w rfl hl.1 rfl (Nat.le_of_ble_eq_true rfl) dJ0_indexOf_7cf53_17 ⟨(Nat.le_of_ble_eq_true rfl), (Nat.le_of_ble_eq_true rfl)⟩) (fun H locs w => ?_)
    refine lv_goto (tgt := 36) hx hb dJ0_indexOf_7cf53_20 (by decide) ?_
    exact cw_iret cx (rt_e h) w dJ0_indexOf_7cf53_36
def hm_J0_indexOf_0f7a4 (P : PS) (th : Nat) (a1 : Int32) : Option (Int32 × PS) := bd (hm_J0_indexOf_7cf53  P th a1 (0 : Int32)) (fun r_102 P_101 => ck (lt11 th) (some (r_102, P_101)))
abbrev wu_J0_indexOf_0f7a4 : List Cond := .code yJ0_indexOf_0f7a4 cJ0_indexOf_0f7a4 2 (some .int) :: wsL_law
theorem ud_J0_indexOf_0f7a4 : yJ0_indexOf_0f7a4.cls = RJ0 ∧ yJ0_indexOf_0f7a4.cls ≠ "java/lang/invoke/MethodHandle" ∧ yJ0_indexOf_0f7a4.cls ≠ "java/lang/invoke/VarHandle" ∧ (parseMethodDescriptor yJ0_indexOf_0f7a4.desc).map (fun d => d.parameters.length) = some 1 := by decide +kernel
abbrev rmc_J0_indexOf_0f7a4 : Room := { frames := 3, cells := 0, slots := 0, locals := 85 }
set_option maxHeartbeats 4000000 in
set_option maxRecDepth 100000 in
theorem hcc_J0_indexOf_0f7a4 (l : Launch) (D : va_G) (cs : Nat → ClassId) (t0 : TS) (P0 T : PS) (th : Nat) (a1 : Int32) (r0 : Int32) (h : hm_J0_indexOf_0f7a4 P0 th a1 = some (r0, T)) : MetCI l yJ0_indexOf_0f7a4 wu_J0_indexOf_0f7a4 rmc_J0_indexOf_0f7a4 D cs t0 [.ref (t0.2.2.1 th), .int a1] P0 T r0 0 0 := by
  refine co_start (own := RJ0) (ty := (some .int)) (cc := cJ0_indexOf_0f7a4) (maxL := 2) ⟨by decide, rfl⟩ rfl (Nat.le_of_ble_eq_true rfl) ?_
  intro p e s m args below meth c ls cx hnm hl w
  have hx := cx.1
  have hb := cx.2.1
  have hts := cx.2.2.2.1
  have hown := cx.2.2.2.2.1
  have hml := cx.2.2.2.2.2.2
  have hsub : ∀ w ∈ wsL_law, w ∈ wu_J0_indexOf_0f7a4 := fun _ hq => List.mem_cons_of_mem _ hq
  have hl : lv_has ls 2 [(0, .ref (t0.2.2.1 th)), (1, .int a1)] := hl
  have hP0 : P0 = P0 := rfl
  unfold hm_J0_indexOf_0f7a4 at h
  refine lv_aload_n hx hb dJ0_indexOf_0f7a4_0 rfl (lv_at hl 0 rfl) ?_
  refine lv_iload_n hx hb dJ0_indexOf_0f7a4_1 rfl (lv_at hl 1 rfl) ?_
  refine lv_iconst (v := (0 : Int32)) hx hb dJ0_indexOf_0f7a4_2 (by decide) ?_
  replace h := bd_e h
  obtain ⟨r_102, P_101, hc_103, h⟩ := h
  replace h := ck_e h
  obtain ⟨hq_104, h⟩ := h
  refine cc_i (cr_Vs (As := [.int a1, .int (0 : Int32)]) (rest := []) cx (hcc_J0_indexOf_7cf53 l D cs t0  P0 P_101 th a1 (0 : Int32) r_102 hc_103) hq_104 (cwV 2 hts (uG uw_J0_indexOf_7cf53 ul_RJ0_633 ui_J0_indexOf_7cf53 us_RJ0_J0_indexOf_7cf53 un_RJ0) rfl rfl rfl ud_J0_indexOf_7cf53 ⟨Nat.le_of_ble_eq_true rfl, Nat.le_of_ble_eq_true rfl⟩) w rfl hl.1 rfl (Nat.le_of_ble_eq_true rfl) dJ0_indexOf_0f7a4_3 ⟨(Nat.le_of_ble_eq_true rfl), (Nat.le_of_ble_eq_true rfl)⟩) (fun H locs w => ?_)
  exact cw_iret cx (rt_e h) w dJ0_indexOf_0f7a4_6
def hm_X3_pick_19 (o0 : Nat) (sv0 : Int32) (P : PS) : Option (Int32 × PS) := if (0 : Int32) ≤ sv0 then (ck (kk P o0 4) (lt_ (pIu P o0 3 ((pI P o0 3) + (1 : Int32))) (fun P_102 => some (sv0, P_102)))) else (ck (kk P o0 4) (lt_ (pIu P o0 4 (1 : Int32)) (fun P_104 => some ((0 : Int32), P_104))))
def hm_X3_pick (P : PS) (th : Nat) (a1 : Nat) : Option (Int32 × PS) := bd (hm_X3_peek  P th) (fun r_206 P_205 => ck (kk P th 4) (if (0 : Int32) ≤ r_206 then (bd (hm_J0_indexOf_0f7a4  P_205 a1 ((r_206).toUInt32 % 65536).toInt32) (fun r_210 P_209 => ck (lt11 a1) (hm_X3_pick_19  th r_210 P_209))) else (hm_X3_pick_19  th (-1 : Int32) P_205)))
abbrev wu_X3_pick : List Cond := .code yX3_pick cX3_pick 4 (some .int) :: wsL_law
theorem ud_X3_pick : yX3_pick.cls = RX3 ∧ yX3_pick.cls ≠ "java/lang/invoke/MethodHandle" ∧ yX3_pick.cls ≠ "java/lang/invoke/VarHandle" ∧ (parseMethodDescriptor yX3_pick.desc).map (fun d => d.parameters.length) = some 1 := by decide +kernel
abbrev rmc_X3_pick : Room := { frames := 4, cells := 0, slots := 0, locals := 106 }
set_option maxHeartbeats 4000000 in
set_option maxRecDepth 100000 in
theorem hcc_X3_pick (l : Launch) (D : va_G) (cs : Nat → ClassId) (t0 : TS) (P0 T : PS) (th : Nat) (a1 : Nat) (r0 : Int32) (h : hm_X3_pick P0 th a1 = some (r0, T)) : MetCI l yX3_pick wu_X3_pick rmc_X3_pick D cs t0 [.ref th, .ref (t0.2.2.1 a1)] P0 T r0 0 0 := by
  refine co_start (own := RX3) (ty := (some .int)) (cc := cX3_pick) (maxL := 4) ⟨by decide, rfl⟩ rfl (Nat.le_of_ble_eq_true rfl) ?_
  intro p e s m args below meth c ls cx hnm hl w
  have hx := cx.1
  have hb := cx.2.1
  have hts := cx.2.2.2.1
  have hown := cx.2.2.2.2.1
  have hml := cx.2.2.2.2.2.2
  have hsub : ∀ w ∈ wsL_law, w ∈ wu_X3_pick := fun _ hq => List.mem_cons_of_mem _ hq
  have hl : lv_has ls 4 [(0, .ref th), (1, .ref (t0.2.2.1 a1))] := hl
  have J19 : ∀ (o0 : Nat) (sv0 : Int32) (P : PS), hm_X3_pick_19  o0 sv0 P = some (r0, T) → cGo p l e rmc_X3_pick s m args below meth c 4 D cs t0 (pA P0) (cQI below D cs P0 args s 0 0 r0 T) 0 0 19 [(0, .ref o0)] [.int sv0] P := by
    intro o0 sv0 P h H locs ls hl w
    unfold hm_X3_pick_19 at h
    refine lv_istore_n (lv' := [(3, .int sv0), (0, .ref o0)]) hx hb dX3_pick_19 rfl hl (by decide) (rfl) (fun ls hl => ?_)
    refine lv_iload_n hx hb dX3_pick_20 rfl (lv_at hl 0 rfl) ?_
    refine lv_if_ge (tgt := 31) hx hb dX3_pick_21 (by decide) (fun q => ?_) (fun q => ?_)
    · replace h := br_p q h
      refine lv_aload_n hx hb dX3_pick_31 rfl (lv_at hl 1 rfl) ?_
      refine lv_dup hx hb dX3_pick_32 rfl ?_
      replace h := ck_e h
      obtain ⟨hk_101, h⟩ := h
      refine cw_getI cx hsub w kT4 hk_101 3 (by decide) ⟨hsub _ uf_RX3_23, Or.inl rfl⟩ dX3_pick_33 ?_
      refine lv_iconst (v := (1 : Int32)) hx hb dX3_pick_36 (by decide) ?_
      refine lv_iadd hx hb dX3_pick_37 ?_
      replace h := lt_e h
      obtain ⟨P_102, eP_102, h⟩ := h
      refine cw_putI cx hsub w kT4 hk_101 3 eP_102 ⟨by decide, by decide, rfl⟩ (Or.inl rfl) ⟨hsub _ uf_RX3_23, Or.inl rfl⟩ dX3_pick_38 (fun H locs w => ?_)
      refine lv_iload_n hx hb dX3_pick_41 rfl (lv_at hl 0 rfl) ?_
      exact cw_iret cx (rt_e h) w dX3_pick_42
    · replace h := br_n q h
      refine lv_aload_n hx hb dX3_pick_24 rfl (lv_at hl 1 rfl) ?_
      refine lv_iconst (v := (1 : Int32)) hx hb dX3_pick_25 (by decide) ?_
      replace h := ck_e h
      obtain ⟨hk_103, h⟩ := h
      replace h := lt_e h
      obtain ⟨P_104, eP_104, h⟩ := h
      refine cw_putZ cx hsub w kT4 hk_103 4 (Or.inr rfl) eP_104 (by decide) (Or.inl rfl) ⟨hsub _ uf_RX3_26, Or.inl rfl⟩ dX3_pick_26 (fun H locs w => ?_)
      refine lv_iconst (v := (0 : Int32)) hx hb dX3_pick_29 (by decide) ?_
      exact cw_iret cx (rt_e h) w dX3_pick_30
  have hP0 : P0 = P0 := rfl
  unfold hm_X3_pick at h
  refine lv_aload_n hx hb dX3_pick_0 rfl (lv_at hl 0 rfl) ?_
  replace h := bd_e h
  obtain ⟨r_206, P_205, hc_207, h⟩ := h
  replace h := ck_e h
  obtain ⟨hk_208, h⟩ := h
  refine cc_i (cr_V (As := []) (rest := []) cx (hcc_X3_peek l D cs t0  P0 P_205 th r_206 hc_207) kT4 hk_208 (cwV 0 hts (uG uw_X3_peek ul_RX3_118 ui_X3_peek us_RX3_X3_peek un_RX3) rfl rfl rfl ud_X3_peek ⟨Nat.le_of_ble_eq_true rfl, Nat.le_of_ble_eq_true rfl⟩) w rfl hl.1 rfl (Nat.le_of_ble_eq_true rfl) dX3_pick_1 ⟨(Nat.le_of_ble_eq_true rfl), (Nat.le_of_ble_eq_true rfl)⟩) (fun H locs w => ?_)
  refine lv_istore_n (lv' := [(2, .int r_206), (0, .ref th), (1, .ref (t0.2.2.1 a1))]) hx hb dX3_pick_4 rfl hl (by decide) (rfl) (fun ls hl => ?_)
  refine lv_iload_n hx hb dX3_pick_5 rfl (lv_at hl 0 rfl) ?_
  refine lv_if_ge (tgt := 13) hx hb dX3_pick_6 (by decide) (fun q => ?_) (fun q => ?_)
  · replace h := br_p q h
    refine lv_aload_n hx hb dX3_pick_13 rfl (lv_at hl 2 rfl) ?_
    refine lv_iload_n hx hb dX3_pick_14 rfl (lv_at hl 0 rfl) ?_
    refine lv_i2c hx hb dX3_pick_15 rfl ?_
    replace h := bd_e h
    obtain ⟨r_210, P_209, hc_211, h⟩ := h
    replace h := ck_e h
    obtain ⟨hq_212, h⟩ := h
    refine cc_i (cr_Vs (As := [.int ((r_206).toUInt32 % 65536).toInt32]) (rest := []) cx (hcc_J0_indexOf_0f7a4 l D cs t0  P_205 P_209 a1 ((r_206).toUInt32 % 65536).toInt32 r_210 hc_211) hq_212 (cwV 1 hts (uG uw_J0_indexOf_0f7a4 ul_RX3_129 ui_J0_indexOf_0f7a4 us_RJ0_J0_indexOf_0f7a4 un_RJ0) rfl rfl rfl ud_J0_indexOf_0f7a4 ⟨Nat.le_of_ble_eq_true rfl, Nat.le_of_ble_eq_true rfl⟩) w rfl hl.1 rfl (Nat.le_of_ble_eq_true rfl) dX3_pick_16 ⟨(Nat.le_of_ble_eq_true rfl), (Nat.le_of_ble_eq_true rfl)⟩) (fun H locs w => ?_)
    exact J19  th r_210 P_209 h _ _ _ (lv_sub hl [1] rfl) w
  · replace h := br_n q h
    refine lv_iconst (v := (-1 : Int32)) hx hb dX3_pick_9 (by decide) ?_
    refine lv_goto (tgt := 19) hx hb dX3_pick_10 (by decide) ?_
    exact J19  th (-1 : Int32) P_205 h _ _ _ (lv_sub hl [1] rfl) w
def hm_J0_checkIndex_df160 (t0 : TS) (P : PS) (a1 : Int32) (a2 : Int32) : Option (Int32 × PS) := bd (hm_J3_checkIndex_8e157  P a1 a2 t0.2.2.2.2) (fun r_103 P_102 => some ((0 : Int32), P_102))
abbrev wu_J0_checkIndex_df160 : List Cond := .code yJ0_checkIndex_df160 cJ0_checkIndex_df160 2 none :: wsL_law
theorem ud_J0_checkIndex_df160 : yJ0_checkIndex_df160.cls = RJ0 ∧ yJ0_checkIndex_df160.cls ≠ "java/lang/invoke/MethodHandle" ∧ yJ0_checkIndex_df160.cls ≠ "java/lang/invoke/VarHandle" ∧ (parseMethodDescriptor yJ0_checkIndex_df160.desc).map (fun d => d.parameters.length) = some 2 := by decide +kernel
abbrev rmc_J0_checkIndex_df160 : Room := { frames := 1, cells := 0, slots := 0, locals := 22 }
set_option maxHeartbeats 4000000 in
set_option maxRecDepth 100000 in
theorem hcc_J0_checkIndex_df160 (l : Launch) (D : va_G) (cs : Nat → ClassId) (t0 : TS) (P0 T : PS) (a1 : Int32) (a2 : Int32) (r0 : Int32) (h : hm_J0_checkIndex_df160 t0 P0 a1 a2 = some (r0, T)) : MetCV l yJ0_checkIndex_df160 wu_J0_checkIndex_df160 rmc_J0_checkIndex_df160 D cs t0 [.int a1, .int a2] P0 T r0 0 0 := by
  refine co_start (own := RJ0) (ty := none) (cc := cJ0_checkIndex_df160) (maxL := 2) ⟨by decide, rfl⟩ rfl (Nat.le_of_ble_eq_true rfl) ?_
  intro p e s m args below meth c ls cx hnm hl w
  have hx := cx.1
  have hb := cx.2.1
  have hts := cx.2.2.2.1
  have hown := cx.2.2.2.2.1
  have hml := cx.2.2.2.2.2.2
  have hsub : ∀ w ∈ wsL_law, w ∈ wu_J0_checkIndex_df160 := fun _ hq => List.mem_cons_of_mem _ hq
  have hl : lv_has ls 2 [(0, .int a1), (1, .int a2)] := hl
  have hP0 : P0 = P0 := rfl
  unfold hm_J0_checkIndex_df160 at h
  refine lv_iload_n hx hb dJ0_checkIndex_df160_0 rfl (lv_at hl 0 rfl) ?_
  refine lv_iload_n hx hb dJ0_checkIndex_df160_1 rfl (lv_at hl 1 rfl) ?_
  refine cw_fmt cx hsub w uf_RJ0_1053 dJ0_checkIndex_df160_2 ?_
  replace h := bd_e h
  obtain ⟨r_103, P_102, hc_104, h⟩ := h
  refine cc_i (cr_S (As := [.int a1, .int a2, va_rf t0.2.2.2.2]) (rest := []) cx (hcc_J3_checkIndex_8e157 l D cs t0  P0 P_102 a1 a2 t0.2.2.2.2 r_103 hc_104) (va_cwS 3 hts (uGS uw_J3_checkIndex_8e157 ul_RJ0_1059 ut_J3_checkIndex_8e157 un_RJ3) rfl rfl rfl ud_J3_checkIndex_8e157.2 ⟨Nat.le_of_ble_eq_true rfl, Nat.le_of_ble_eq_true rfl⟩) w rfl hl.1 rfl (Nat.le_of_ble_eq_true rfl) dJ0_checkIndex_df160_5 ⟨(Nat.le_of_ble_eq_true rfl), (Nat.le_of_ble_eq_true rfl)⟩) (fun H locs w => ?_)
  refine lv_pop hx hb dJ0_checkIndex_df160_8 rfl ?_
  exact cw_vret cx (rt_e h) w dJ0_checkIndex_df160_9
def hm_J1_charAt_3b067 (t0 : TS) (P : PS) (a1 : Nat) (a2 : Int32) : Option (Int32 × PS) := ck (lt11 a1) (bd (hm_J0_checkIndex_df160 t0  P a2 (nI (strL.getD a1 0))) (fun _ P_102 => ck (lt11 a1) (ck (vin a2 (strL.getD a1 0)) (ck (isCh (((((strB.getD a1 []).getD (a2).toNatClampNeg 0) &&& (255 : Int32))).toUInt32 % 65536).toInt32) (some ((((((strB.getD a1 []).getD (a2).toNatClampNeg 0) &&& (255 : Int32))).toUInt32 % 65536).toInt32, P_102))))))
abbrev wu_J1_charAt_3b067 : List Cond := .code yJ1_charAt_3b067 cJ1_charAt_3b067 2 (some .char) :: wsL_law
theorem ud_J1_charAt_3b067 : yJ1_charAt_3b067.cls = RJ1 ∧ yJ1_charAt_3b067.cls ≠ "java/lang/invoke/MethodHandle" ∧ yJ1_charAt_3b067.cls ≠ "java/lang/invoke/VarHandle" ∧ (parseMethodDescriptor yJ1_charAt_3b067.desc).map (fun d => d.parameters.length) = some 2 := by decide +kernel
abbrev rmc_J1_charAt_3b067 : Room := { frames := 2, cells := 0, slots := 0, locals := 43 }
set_option maxHeartbeats 4000000 in
set_option maxRecDepth 100000 in
theorem hcc_J1_charAt_3b067 (l : Launch) (D : va_G) (cs : Nat → ClassId) (t0 : TS) (P0 T : PS) (a1 : Nat) (a2 : Int32) (r0 : Int32) (h : hm_J1_charAt_3b067 t0 P0 a1 a2 = some (r0, T)) : MetCI l yJ1_charAt_3b067 wu_J1_charAt_3b067 rmc_J1_charAt_3b067 D cs t0 [.ref (t0.2.2.2.1 a1), .int a2] P0 T r0 0 0 := by
  refine co_start (own := RJ1) (ty := (some .char)) (cc := cJ1_charAt_3b067) (maxL := 2) ⟨by decide, rfl⟩ rfl (Nat.le_of_ble_eq_true rfl) ?_
  intro p e s m args below meth c ls cx hnm hl w
  have hx := cx.1
  have hb := cx.2.1
  have hts := cx.2.2.2.1
  have hown := cx.2.2.2.2.1
  have hml := cx.2.2.2.2.2.2
  have hsub : ∀ w ∈ wsL_law, w ∈ wu_J1_charAt_3b067 := fun _ hq => List.mem_cons_of_mem _ hq
  have hl : lv_has ls 2 [(0, .ref (t0.2.2.2.1 a1)), (1, .int a2)] := hl
  have hP0 : P0 = P0 := rfl
  unfold hm_J1_charAt_3b067 at h
  refine lv_iload_n hx hb dJ1_charAt_3b067_0 rfl (lv_at hl 1 rfl) ?_
  refine lv_aload_n hx hb dJ1_charAt_3b067_1 rfl (lv_at hl 0 rfl) ?_
  replace h := ck_e h
  obtain ⟨hq_101, h⟩ := h
  refine cw_slen cx w hq_101 dJ1_charAt_3b067_2 ?_
  replace h := bd_e h
  obtain ⟨r_103, P_102, hc_104, h⟩ := h
  refine cc_v (cr_S (As := [.int a2, .int (nI (strL.getD a1 0))]) (rest := []) cx (hcc_J0_checkIndex_df160 l D cs t0  P0 P_102 a2 (nI (strL.getD a1 0)) r_103 hc_104) (va_cwS 2 hts (uGS uw_J0_checkIndex_df160 ul_RJ1_9 ut_J0_checkIndex_df160 un_RJ0) rfl rfl rfl ud_J0_checkIndex_df160.2 ⟨Nat.le_of_ble_eq_true rfl, Nat.le_of_ble_eq_true rfl⟩) w rfl hl.1 rfl (Nat.le_of_ble_eq_true rfl) dJ1_charAt_3b067_3 ⟨(Nat.le_of_ble_eq_true rfl), (Nat.le_of_ble_eq_true rfl)⟩) (fun H locs w => ?_)
  refine lv_aload_n hx hb dJ1_charAt_3b067_6 rfl (lv_at hl 0 rfl) ?_
  refine lv_iload_n hx hb dJ1_charAt_3b067_7 rfl (lv_at hl 1 rfl) ?_
  replace h := ck_e h
  obtain ⟨hq_105, h⟩ := h
  replace h := ck_e h
  obtain ⟨hq_106, h⟩ := h
  refine cw_sbald cx w hq_105 hq_106 dJ1_charAt_3b067_8 ?_
  refine lv_sipush (v := (255 : Int32)) hx hb dJ1_charAt_3b067_9 (by decide) ?_
  refine lv_iand hx hb dJ1_charAt_3b067_12 ?_
  refine lv_i2c hx hb dJ1_charAt_3b067_13 rfl ?_
  replace h := ck_e h
  obtain ⟨hq_107, h⟩ := h
  exact cw_cret cx (isCh_e hq_107) (rt_e h) w dJ1_charAt_3b067_14
def hm_J0_charAt_5068e (t0 : TS) (P : PS) (th : Nat) (a1 : Int32) : Option (Int32 × PS) := bd (hm_J0_isLatin1_aae02  P th) (fun r_102 P_101 => ck (lt11 th) (if r_102 = (0 : Int32) then (none) else (ck (lt11 th) (bd (hm_J1_charAt_3b067 t0  P_101 th a1) (fun r_107 P_106 => ck (isCh r_107) (some (r_107, P_106)))))))
abbrev wu_J0_charAt_5068e : List Cond := .code yJ0_charAt_5068e cJ0_charAt_5068e 2 (some .char) :: wsL_law
theorem ud_J0_charAt_5068e : yJ0_charAt_5068e.cls = RJ0 ∧ yJ0_charAt_5068e.cls ≠ "java/lang/invoke/MethodHandle" ∧ yJ0_charAt_5068e.cls ≠ "java/lang/invoke/VarHandle" ∧ (parseMethodDescriptor yJ0_charAt_5068e.desc).map (fun d => d.parameters.length) = some 1 := by decide +kernel
abbrev rmc_J0_charAt_5068e : Room := { frames := 3, cells := 0, slots := 0, locals := 64 }
set_option maxHeartbeats 4000000 in
set_option maxRecDepth 100000 in
theorem hcc_J0_charAt_5068e (l : Launch) (D : va_G) (cs : Nat → ClassId) (t0 : TS) (P0 T : PS) (th : Nat) (a1 : Int32) (r0 : Int32) (h : hm_J0_charAt_5068e t0 P0 th a1 = some (r0, T)) : MetCI l yJ0_charAt_5068e wu_J0_charAt_5068e rmc_J0_charAt_5068e D cs t0 [.ref (t0.2.2.1 th), .int a1] P0 T r0 0 0 := by
  refine co_start (own := RJ0) (ty := (some .char)) (cc := cJ0_charAt_5068e) (maxL := 2) ⟨by decide, rfl⟩ rfl (Nat.le_of_ble_eq_true rfl) ?_
  intro p e s m args below meth c ls cx hnm hl w
  have hx := cx.1
  have hb := cx.2.1
  have hts := cx.2.2.2.1
  have hown := cx.2.2.2.2.1
  have hml := cx.2.2.2.2.2.2
  have hsub : ∀ w ∈ wsL_law, w ∈ wu_J0_charAt_5068e := fun _ hq => List.mem_cons_of_mem _ hq
  have hl : lv_has ls 2 [(0, .ref (t0.2.2.1 th)), (1, .int a1)] := hl
  have hP0 : P0 = P0 := rfl
  unfold hm_J0_charAt_5068e at h
  refine lv_aload_n hx hb dJ0_charAt_5068e_0 rfl (lv_at hl 0 rfl) ?_
  replace h := bd_e h
  obtain ⟨r_102, P_101, hc_103, h⟩ := h
  replace h := ck_e h
  obtain ⟨hq_104, h⟩ := h
  refine cc_i (cr_Vs (As := []) (rest := []) cx (hcc_J0_isLatin1_aae02 l D cs t0  P0 P_101 th r_102 hc_103) hq_104 (cwV 0 hts (uG uw_J0_isLatin1_aae02 ul_RJ0_492 ui_J0_isLatin1_aae02 us_RJ0_J0_isLatin1_aae02 un_RJ0) rfl rfl rfl ud_J0_isLatin1_aae02 ⟨Nat.le_of_ble_eq_true rfl, Nat.le_of_ble_eq_true rfl⟩) w rfl hl.1 rfl (Nat.le_of_ble_eq_true rfl) dJ0_charAt_5068e_1 ⟨(Nat.le_of_ble_eq_true rfl), (Nat.le_of_ble_eq_true rfl)⟩) (fun H locs w => ?_)
  refine lv_if_eq (tgt := 16) hx hb dJ0_charAt_5068e_4 (by decide) (fun q => ?_) (fun q => ?_)
  · replace h := br_p q h
    cases h
  · replace h := br_n q h
    refine lv_aload_n hx hb dJ0_charAt_5068e_7 rfl (lv_at hl 0 rfl) ?_
    replace h := ck_e h
    obtain ⟨hq_105, h⟩ := h
    refine cw_sval cx hsub w hq_105 uf_RJ0_9 dJ0_charAt_5068e_8 ?_
    refine lv_iload_n hx hb dJ0_charAt_5068e_11 rfl (lv_at hl 1 rfl) ?_
    replace h := bd_e h
    obtain ⟨r_107, P_106, hc_108, h⟩ := h
    refine cc_i (cr_S (As := [.ref (t0.2.2.2.1 th), .int a1]) (rest := []) cx (hcc_J1_charAt_3b067 l D cs t0  P_101 P_106 th a1 r_107 hc_108) (va_cwS 2 hts (uGS uw_J1_charAt_3b067 ul_RJ0_495 ut_J1_charAt_3b067 un_RJ1) rfl rfl rfl ud_J1_charAt_3b067.2 ⟨Nat.le_of_ble_eq_true rfl, Nat.le_of_ble_eq_true rfl⟩) w rfl hl.1 rfl (Nat.le_of_ble_eq_true rfl) dJ0_charAt_5068e_12 ⟨(Nat.le_of_ble_eq_true rfl), (Nat.le_of_ble_eq_true rfl)⟩) (fun H locs w => ?_)
    replace h := ck_e h
    obtain ⟨hq_109, h⟩ := h
    exact cw_cret cx (isCh_e hq_109) (rt_e h) w dJ0_charAt_5068e_15
def hm_X3_expectAll_27 (t0 : TS) (k2 : Nat → Nat → Int32 → PS → Option (Int32 × PS)) (o0 : Nat) (o1 : Nat) (x2 : Int32) (P : PS) : Option (Int32 × PS) := lt_ (x2 + (1 : Int32)) (fun x2_101 => k2 o0 o1 x2_101 P)
def hm_X3_expectAll_2 (t0 : TS) (k2 : Nat → Nat → Int32 → PS → Option (Int32 × PS)) (o0 : Nat) (o1 : Nat) (x2 : Int32) (P : PS) : Option (Int32 × PS) := bd (hm_J0_length_8abf5  P o1) (fun r_203 P_202 => ck (lt11 o1) (if r_203 ≤ x2 then (some ((0 : Int32), P_202)) else (bd (hm_J0_charAt_5068e t0  P_202 o1 x2) (fun r_207 P_206 => ck (lt11 o1) (bd (hm_X3_accept  P_206 o0 r_207) (fun r_211 P_210 => ck (kk P_206 o0 4) (if r_211 = (0 : Int32) then (ck (kk P_210 o0 4) (lt_ (pIu P_210 o0 4 (1 : Int32)) (fun P_215 => hm_X3_expectAll_27 t0 k2 o0 o1 x2 P_215))) else (hm_X3_expectAll_27 t0 k2 o0 o1 x2 P_210))))))))
def hm_X3_expectAll_2L (t0 : TS) : Nat → Nat → Nat → Int32 → PS → Option (Int32 × PS)
  | 0, _, _, _, _ => none
  | n + 1, o0, o1, x2, P => hm_X3_expectAll_2 t0  (hm_X3_expectAll_2L t0  n) o0 o1 x2 P
def hm_X3_expectAll (t0 : TS) (P : PS) (th : Nat) (a1 : Nat) : Option (Int32 × PS) := lt_ ((0 : Int32)) (fun x2_316 => hm_X3_expectAll_2L t0  4000 th a1 x2_316 P)
abbrev wu_X3_expectAll : List Cond := .code yX3_expectAll cX3_expectAll 3 none :: wsL_law
theorem ud_X3_expectAll : yX3_expectAll.cls = RX3 ∧ yX3_expectAll.cls ≠ "java/lang/invoke/MethodHandle" ∧ yX3_expectAll.cls ≠ "java/lang/invoke/VarHandle" ∧ (parseMethodDescriptor yX3_expectAll.desc).map (fun d => d.parameters.length) = some 1 := by decide +kernel
abbrev rmc_X3_expectAll : Room := { frames := 4, cells := 0, slots := 0, locals := 85 }
set_option maxHeartbeats 4000000 in
set_option maxRecDepth 100000 in
theorem hcc_X3_expectAll (l : Launch) (D : va_G) (cs : Nat → ClassId) (t0 : TS) (P0 T : PS) (th : Nat) (a1 : Nat) (r0 : Int32) (h : hm_X3_expectAll t0 P0 th a1 = some (r0, T)) : MetCV l yX3_expectAll wu_X3_expectAll rmc_X3_expectAll D cs t0 [.ref th, .ref (t0.2.2.1 a1)] P0 T r0 0 0 := by
  refine co_start (own := RX3) (ty := none) (cc := cX3_expectAll) (maxL := 3) ⟨by decide, rfl⟩ rfl (Nat.le_of_ble_eq_true rfl) ?_
  intro p e s m args below meth c ls cx hnm hl w
  have hx := cx.1
  have hb := cx.2.1
  have hts := cx.2.2.2.1
  have hown := cx.2.2.2.2.1
  have hml := cx.2.2.2.2.2.2
  have hsub : ∀ w ∈ wsL_law, w ∈ wu_X3_expectAll := fun _ hq => List.mem_cons_of_mem _ hq
  have hl : lv_has ls 3 [(0, .ref th), (1, .ref (t0.2.2.1 a1))] := hl
  have J27 : ∀ (k2 : Nat → Nat → Int32 → PS → Option (Int32 × PS)) (hk2 : ∀ (o0 : Nat) (o1 : Nat) (x2 : Int32) (P : PS), k2 o0 o1 x2 P = some (r0, T) → cGo p l e rmc_X3_expectAll s m args below meth c 3 D cs t0 (pA P0) (cQV below D cs P0 args s 0 0 r0 T) 0 0 2 [(0, .ref o0), (1, .ref (t0.2.2.1 o1)), (2, .int x2)] [] P) (o0 : Nat) (o1 : Nat) (x2 : Int32) (P : PS), hm_X3_expectAll_27 t0 k2 o0 o1 x2 P = some (r0, T) → cGo p l e rmc_X3_expectAll s m args below meth c 3 D cs t0 (pA P0) (cQV below D cs P0 args s 0 0 r0 T) 0 0 27 [(0, .ref o0), (1, .ref (t0.2.2.1 o1)), (2, .int x2)] [] P := by
    intro k2 hk2 o0 o1 x2 P h H locs ls hl w
    unfold hm_X3_expectAll_27 at h
    replace h := lt_e h
    obtain ⟨x2_101, ex2_101, h⟩ := h
    refine lv_iinc (v := x2_101) (lv' := [(2, .int x2_101), (0, .ref o0), (1, .ref (t0.2.2.1 o1))]) hx hb dX3_expectAll_27 hl (k := 2) rfl (by rw [ex2_101]; rfl) (by decide) (rfl) (fun ls hl => ?_)
    refine lv_goto (tgt := 2) hx hb dX3_expectAll_30 (by decide) ?_
    exact hk2 o0 o1 x2_101 P h _ _ _ (lv_sub hl [1, 2, 0] rfl) w
  have L2 : ∀ (n : Nat) (o0 : Nat) (o1 : Nat) (x2 : Int32) (P : PS), hm_X3_expectAll_2L t0  n o0 o1 x2 P = some (r0, T) → cGo p l e rmc_X3_expectAll s m args below meth c 3 D cs t0 (pA P0) (cQV below D cs P0 args s 0 0 r0 T) 0 0 2 [(0, .ref o0), (1, .ref (t0.2.2.1 o1)), (2, .int x2)] [] P := by
    intro n
    induction n with
    | zero =>
      intro o0 o1 x2 P h
      have h : none = some (r0, T) := h
      cases h
    | succ n hk2 =>
      intro o0 o1 x2 P h H locs ls hl w
      have h : hm_X3_expectAll_2 t0  (hm_X3_expectAll_2L t0  n) o0 o1 x2 P = some (r0, T) := h
      generalize hm_X3_expectAll_2L t0  n = k2 at h hk2
      unfold hm_X3_expectAll_2 at h
      refine lv_iload_n hx hb dX3_expectAll_2 rfl (lv_at hl 2 rfl) ?_
      refine lv_aload_n hx hb dX3_expectAll_3 rfl (lv_at hl 1 rfl) ?_
      replace h := bd_e h
      obtain ⟨r_203, P_202, hc_204, h⟩ := h
      replace h := ck_e h
      obtain ⟨hq_205, h⟩ := h
      refine cc_i (cr_Vs (As := []) (rest := [.int x2]) cx (hcc_J0_length_8abf5 l D cs t0  P P_202 o1 r_203 hc_204) hq_205 (cwV 0 hts (uG uw_J0_length_8abf5 ul_RX3_121 ui_J0_length_8abf5 us_RJ0_J0_length_8abf5 un_RJ0) rfl rfl rfl ud_J0_length_8abf5 ⟨Nat.le_of_ble_eq_true rfl, Nat.le_of_ble_eq_true rfl⟩) w rfl hl.1 rfl (Nat.le_of_ble_eq_true rfl) dX3_expectAll_4 ⟨(Nat.le_of_ble_eq_true rfl), (Nat.le_of_ble_eq_true rfl)⟩) (fun H locs w => ?_)
      refine lv_icmp_ge (tgt := 33) hx hb dX3_expectAll_7 (by decide) (fun q => ?_) (fun q => ?_)
      · replace h := br_p q h
        exact cw_vret cx (rt_e h) w dX3_expectAll_33
      · replace h := br_n q h
        refine lv_aload_n hx hb dX3_expectAll_10 rfl (lv_at hl 0 rfl) ?_
        refine lv_aload_n hx hb dX3_expectAll_11 rfl (lv_at hl 1 rfl) ?_
        refine lv_iload_n hx hb dX3_expectAll_12 rfl (lv_at hl 2 rfl) ?_
        replace h := bd_e h
        obtain ⟨r_207, P_206, hc_208, h⟩ := h
        replace h := ck_e h
        obtain ⟨hq_209, h⟩ := h
        refine cc_i (cr_Vs (As := [.int x2]) (rest := [.ref o0]) cx (hcc_J0_charAt_5068e l D cs t0  P_202 P_206 o1 x2 r_207 hc_208) hq_209 (cwV 1 hts (uG uw_J0_charAt_5068e ul_RX3_125 ui_J0_charAt_5068e us_RJ0_J0_charAt_5068e un_RJ0) rfl rfl rfl ud_J0_charAt_5068e ⟨Nat.le_of_ble_eq_true rfl, Nat.le_of_ble_eq_true rfl⟩) w rfl hl.1 rfl (Nat.le_of_ble_eq_true rfl) dX3_expectAll_13 ⟨(Nat.le_of_ble_eq_true rfl), (Nat.le_of_ble_eq_true rfl)⟩) (fun H locs w => ?_)
        replace h := bd_e h
        obtain ⟨r_211, P_210, hc_212, h⟩ := h
        replace h := ck_e h
        obtain ⟨hk_213, h⟩ := h
        refine cc_i (cr_V (As := [.int r_207]) (rest := []) cx (hcc_X3_accept l D cs t0  P_206 P_210 o0 r_207 r_211 hc_212) kT4 hk_213 (cwV 1 hts (uG uw_X3_accept ul_RX3_46 ui_X3_accept us_RX3_X3_accept un_RX3) rfl rfl rfl ud_X3_accept ⟨Nat.le_of_ble_eq_true rfl, Nat.le_of_ble_eq_true rfl⟩) w rfl hl.1 rfl (Nat.le_of_ble_eq_true rfl) dX3_expectAll_16 ⟨(Nat.le_of_ble_eq_true rfl), (Nat.le_of_ble_eq_true rfl)⟩) (fun H locs w => ?_)
        refine lv_if_ne (tgt := 27) hx hb dX3_expectAll_19 (by decide) (fun q => ?_) (fun q => ?_)
        · replace h := br_n q h
          exact J27 k2 hk2 o0 o1 x2 P_210 h _ _ _ (lv_sub hl [0, 1, 2] rfl) w
        · replace h := br_p q h
          refine lv_aload_n hx hb dX3_expectAll_22 rfl (lv_at hl 0 rfl) ?_
          refine lv_iconst (v := (1 : Int32)) hx hb dX3_expectAll_23 (by decide) ?_
          replace h := ck_e h
          obtain ⟨hk_214, h⟩ := h
          replace h := lt_e h
          obtain ⟨P_215, eP_215, h⟩ := h
          refine cw_putZ cx hsub w kT4 hk_214 4 (Or.inr rfl) eP_215 (by decide) (Or.inl rfl) ⟨hsub _ uf_RX3_26, Or.inl rfl⟩ dX3_expectAll_24 (fun H locs w => ?_)
          exact J27 k2 hk2 o0 o1 x2 P_215 h _ _ _ (lv_sub hl [0, 1, 2] rfl) w
  have hP0 : P0 = P0 := rfl
  unfold hm_X3_expectAll at h
  refine lv_iconst (v := (0 : Int32)) hx hb dX3_expectAll_0 (by decide) ?_
  replace h := lt_e h
  obtain ⟨x2_316, ex2_316, h⟩ := h
  refine top_i ex2_316 ?_
  refine lv_istore_n (lv' := [(2, .int x2_316), (0, .ref th), (1, .ref (t0.2.2.1 a1))]) hx hb dX3_expectAll_1 rfl hl (by decide) (rfl) (fun ls hl => ?_)
  exact L2  4000 th a1 x2_316 P0 h _ _ _ (lv_sub hl [1, 2, 0] rfl) w
def hm_X3_readSort_69 (t0 : TS) (x1 : Int32) (P : PS) : Option (Int32 × PS) := some (x1, P)
def hm_X3_readSort (t0 : TS) (P : PS) (th : Nat) : Option (Int32 × PS) := bd (hm_X3_pick  P th 0) (fun r_202 P_201 => ck (kk P th 4) (if r_202 = (0 : Int32) then (bd (hm_X3_expectAll t0  P_201 th 4) (fun _ P_206 => ck (kk P_201 th 4) (hm_X3_readSort_69 t0  r_202 P_206))) else (if r_202 = (1 : Int32) then (bd (hm_X3_expectAll t0  P_201 th 5) (fun _ P_211 => ck (kk P_201 th 4) (hm_X3_readSort_69 t0  r_202 P_211))) else (if r_202 = (2 : Int32) then (bd (hm_X3_expectAll t0  P_201 th 6) (fun _ P_216 => ck (kk P_201 th 4) (hm_X3_readSort_69 t0  r_202 P_216))) else (bd (hm_X3_expectAll t0  P_201 th 7) (fun _ P_220 => ck (kk P_201 th 4) (hm_X3_readSort_69 t0  r_202 P_220)))))))
abbrev wu_X3_readSort : List Cond := .code yX3_readSort cX3_readSort 2 (some .int) :: wsL_law
theorem ud_X3_readSort : yX3_readSort.cls = RX3 ∧ yX3_readSort.cls ≠ "java/lang/invoke/MethodHandle" ∧ yX3_readSort.cls ≠ "java/lang/invoke/VarHandle" ∧ (parseMethodDescriptor yX3_readSort.desc).map (fun d => d.parameters.length) = some 0 := by decide +kernel
abbrev rmc_X3_readSort : Room := { frames := 5, cells := 0, slots := 0, locals := 129 }
set_option maxHeartbeats 4000000 in
set_option maxRecDepth 100000 in
theorem hcc_X3_readSort (l : Launch) (D : va_G) (cs : Nat → ClassId) (t0 : TS) (P0 T : PS) (th : Nat) (r0 : Int32) (h : hm_X3_readSort t0 P0 th = some (r0, T)) : MetCI l yX3_readSort wu_X3_readSort rmc_X3_readSort D cs t0 [.ref th] P0 T r0 0 0 := by
  refine co_start (own := RX3) (ty := (some .int)) (cc := cX3_readSort) (maxL := 2) ⟨by decide, rfl⟩ rfl (Nat.le_of_ble_eq_true rfl) ?_
  intro p e s m args below meth c ls cx hnm hl w
  have hx := cx.1
  have hb := cx.2.1
  have hts := cx.2.2.2.1
  have hown := cx.2.2.2.2.1
  have hml := cx.2.2.2.2.2.2
  have hsub : ∀ w ∈ wsL_law, w ∈ wu_X3_readSort := fun _ hq => List.mem_cons_of_mem _ hq
  have hl : lv_has ls 2 [(0, .ref th)] := hl
  have J69 : ∀ (x1 : Int32) (P : PS), hm_X3_readSort_69 t0  x1 P = some (r0, T) → cGo p l e rmc_X3_readSort s m args below meth c 2 D cs t0 (pA P0) (cQI below D cs P0 args s 0 0 r0 T) 0 0 69 [(1, .int x1)] [] P := by
    intro x1 P h H locs ls hl w
    unfold hm_X3_readSort_69 at h
    refine lv_iload_n hx hb dX3_readSort_69 rfl (lv_at hl 0 rfl) ?_
    exact cw_iret cx (rt_e h) w dX3_readSort_70
  have hP0 : P0 = P0 := rfl
  unfold hm_X3_readSort at h
  refine lv_aload_n hx hb dX3_readSort_0 rfl (lv_at hl 0 rfl) ?_
  refine cw_ldcS cx w 0 rfl dX3_readSort_1 ?_
  replace h := bd_e h
  obtain ⟨r_202, P_201, hc_203, h⟩ := h
  replace h := ck_e h
  obtain ⟨hk_204, h⟩ := h
  refine cc_i (cr_V (As := [.ref (t0.2.2.1 0)]) (rest := []) cx (hcc_X3_pick l D cs t0  P0 P_201 th 0 r_202 hc_203) kT4 hk_204 (cwV 1 hts (uG uw_X3_pick ul_RX3_57 ui_X3_pick us_RX3_X3_pick un_RX3) rfl rfl rfl ud_X3_pick ⟨Nat.le_of_ble_eq_true rfl, Nat.le_of_ble_eq_true rfl⟩) w rfl hl.1 rfl (Nat.le_of_ble_eq_true rfl) dX3_readSort_3 ⟨(Nat.le_of_ble_eq_true rfl), (Nat.le_of_ble_eq_true rfl)⟩) (fun H locs w => ?_)
  refine lv_istore_n (lv' := [(1, .int r_202), (0, .ref th)]) hx hb dX3_readSort_6 rfl hl (by decide) (rfl) (fun ls hl => ?_)
  refine lv_iload_n hx hb dX3_readSort_7 rfl (lv_at hl 0 rfl) ?_
  by_cases q_205 : r_202 = (0 : Int32)
  · replace h := br_p q_205 h
    refine lv_tableIn (tgt := 36) hx hb dX3_readSort_8 (by rw [q_205]; decide) (by rw [q_205]; decide) (by rw [q_205]; rfl) (by decide) ?_
    refine lv_aload_n hx hb dX3_readSort_36 rfl (lv_at hl 1 rfl) ?_
    refine cw_ldcS cx w 4 rfl dX3_readSort_37 ?_
    replace h := bd_e h
    obtain ⟨r_207, P_206, hc_208, h⟩ := h
    replace h := ck_e h
    obtain ⟨hk_209, h⟩ := h
    refine cc_v (cr_V (As := [.ref (t0.2.2.1 4)]) (rest := []) cx (hcc_X3_expectAll l D cs t0  P_201 P_206 th 4 r_207 hc_208) kT4 hk_209 (cwV 1 hts (uG uw_X3_expectAll ul_RX3_63 ui_X3_expectAll us_RX3_X3_expectAll un_RX3) rfl rfl rfl ud_X3_expectAll ⟨Nat.le_of_ble_eq_true rfl, Nat.le_of_ble_eq_true rfl⟩) w rfl hl.1 rfl (Nat.le_of_ble_eq_true rfl) dX3_readSort_39 ⟨(Nat.le_of_ble_eq_true rfl), (Nat.le_of_ble_eq_true rfl)⟩) (fun H locs w => ?_)
    refine lv_goto (tgt := 69) hx hb dX3_readSort_42 (by decide) ?_
    exact J69  r_202 P_206 h _ _ _ (lv_sub hl [0] rfl) w
  replace h := br_n q_205 h
  by_cases q_210 : r_202 = (1 : Int32)
  · replace h := br_p q_210 h
    refine lv_tableIn (tgt := 45) hx hb dX3_readSort_8 (by rw [q_210]; decide) (by rw [q_210]; decide) (by rw [q_210]; rfl) (by decide) ?_
    refine lv_aload_n hx hb dX3_readSort_45 rfl (lv_at hl 1 rfl) ?_
    refine cw_ldcS cx w 5 rfl dX3_readSort_46 ?_
    replace h := bd_e h
    obtain ⟨r_212, P_211, hc_213, h⟩ := h
    replace h := ck_e h
    obtain ⟨hk_214, h⟩ := h
    refine cc_v (cr_V (As := [.ref (t0.2.2.1 5)]) (rest := []) cx (hcc_X3_expectAll l D cs t0  P_201 P_211 th 5 r_212 hc_213) kT4 hk_214 (cwV 1 hts (uG uw_X3_expectAll ul_RX3_63 ui_X3_expectAll us_RX3_X3_expectAll un_RX3) rfl rfl rfl ud_X3_expectAll ⟨Nat.le_of_ble_eq_true rfl, Nat.le_of_ble_eq_true rfl⟩) w rfl hl.1 rfl (Nat.le_of_ble_eq_true rfl) dX3_readSort_48 ⟨(Nat.le_of_ble_eq_true rfl), (Nat.le_of_ble_eq_true rfl)⟩) (fun H locs w => ?_)
    refine lv_goto (tgt := 69) hx hb dX3_readSort_51 (by decide) ?_
    exact J69  r_202 P_211 h _ _ _ (lv_sub hl [0] rfl) w
  replace h := br_n q_210 h
  by_cases q_215 : r_202 = (2 : Int32)
  · replace h := br_p q_215 h
    refine lv_tableIn (tgt := 54) hx hb dX3_readSort_8 (by rw [q_215]; decide) (by rw [q_215]; decide) (by rw [q_215]; rfl) (by decide) ?_
    refine lv_aload_n hx hb dX3_readSort_54 rfl (lv_at hl 1 rfl) ?_
    refine cw_ldcS cx w 6 rfl dX3_readSort_55 ?_
    replace h := bd_e h
    obtain ⟨r_217, P_216, hc_218, h⟩ := h
    replace h := ck_e h
    obtain ⟨hk_219, h⟩ := h
    refine cc_v (cr_V (As := [.ref (t0.2.2.1 6)]) (rest := []) cx (hcc_X3_expectAll l D cs t0  P_201 P_216 th 6 r_217 hc_218) kT4 hk_219 (cwV 1 hts (uG uw_X3_expectAll ul_RX3_63 ui_X3_expectAll us_RX3_X3_expectAll un_RX3) rfl rfl rfl ud_X3_expectAll ⟨Nat.le_of_ble_eq_true rfl, Nat.le_of_ble_eq_true rfl⟩) w rfl hl.1 rfl (Nat.le_of_ble_eq_true rfl) dX3_readSort_57 ⟨(Nat.le_of_ble_eq_true rfl), (Nat.le_of_ble_eq_true rfl)⟩) (fun H locs w => ?_)
    refine lv_goto (tgt := 69) hx hb dX3_readSort_60 (by decide) ?_
    exact J69  r_202 P_216 h _ _ _ (lv_sub hl [0] rfl) w
  replace h := br_n q_215 h
  refine lv_tableH (tgt := 63) hx hb dX3_readSort_8 (by exact Or.inl (by have := lv_neT q_205 (a := 0) (by decide); have := lv_neT q_210 (a := 1) (by decide); have := lv_neT q_215 (a := 2) (by decide); omega)) (by decide) ?_
  refine lv_aload_n hx hb dX3_readSort_63 rfl (lv_at hl 1 rfl) ?_
  refine cw_ldcS cx w 7 rfl dX3_readSort_64 ?_
  replace h := bd_e h
  obtain ⟨r_221, P_220, hc_222, h⟩ := h
  replace h := ck_e h
  obtain ⟨hk_223, h⟩ := h
  refine cc_v (cr_V (As := [.ref (t0.2.2.1 7)]) (rest := []) cx (hcc_X3_expectAll l D cs t0  P_201 P_220 th 7 r_221 hc_222) kT4 hk_223 (cwV 1 hts (uG uw_X3_expectAll ul_RX3_63 ui_X3_expectAll us_RX3_X3_expectAll un_RX3) rfl rfl rfl ud_X3_expectAll ⟨Nat.le_of_ble_eq_true rfl, Nat.le_of_ble_eq_true rfl⟩) w rfl hl.1 rfl (Nat.le_of_ble_eq_true rfl) dX3_readSort_66 ⟨(Nat.le_of_ble_eq_true rfl), (Nat.le_of_ble_eq_true rfl)⟩) (fun H locs w => ?_)
  exact J69  r_202 P_220 h _ _ _ (lv_sub hl [0] rfl) w
def hm_X3_readTest_64 (o0 : Nat) (x3 : Int32) (x4 : Int32) (P : PS) : Option (Int32 × PS) := bd (hm_X3_put  P o0 x3 x4) (fun _ P_101 => ck (kk P o0 4) (some ((0 : Int32), P_101)))
def hm_X3_readTest_31 (o0 : Nat) (x1 : Int32) (x2 : Int32) (P : PS) : Option (Int32 × PS) := lt_ ((((3 : Int32) * x1) + x2)) (fun x3_205 => bd (hm_X3_pick  P o0 3) (fun r_207 P_206 => ck (kk P o0 4) (if x3_205 = (19 : Int32) then (ck (kk P_206 o0 4) (lt_ (pIu P_206 o0 6 ((pI P_206 o0 6) ||| ((1 : Int32) <<< (r_207 &&& 31)))) (fun P_211 => hm_X3_readTest_64  o0 x3_205 r_207 P_211))) else (hm_X3_readTest_64  o0 x3_205 r_207 P_206))))
def hm_X3_readTest (P : PS) (th : Nat) : Option (Int32 × PS) := bd (hm_X3_pick  P th 1) (fun r_313 P_312 => ck (kk P th 4) (lt_ ((1 : Int32)) (fun x2_316 => if (1 : Int32) < r_313 then (bd (hm_X3_pick  P_312 th 10) (fun r_318 P_317 => ck (kk P_312 th 4) (hm_X3_readTest_31  th r_313 x2_316 P_317))) else (bd (hm_X3_pick  P_312 th 2) (fun r_322 P_321 => ck (kk P_312 th 4) (hm_X3_readTest_31  th r_313 r_322 P_321))))))
abbrev wu_X3_readTest : List Cond := .code yX3_readTest cX3_readTest 5 none :: wsL_law
theorem ud_X3_readTest : yX3_readTest.cls = RX3 ∧ yX3_readTest.cls ≠ "java/lang/invoke/MethodHandle" ∧ yX3_readTest.cls ≠ "java/lang/invoke/VarHandle" ∧ (parseMethodDescriptor yX3_readTest.desc).map (fun d => d.parameters.length) = some 0 := by decide +kernel
abbrev rmc_X3_readTest : Room := { frames := 5, cells := 0, slots := 0, locals := 129 }
set_option maxHeartbeats 4000000 in
set_option maxRecDepth 100000 in
theorem hcc_X3_readTest (l : Launch) (D : va_G) (cs : Nat → ClassId) (t0 : TS) (P0 T : PS) (th : Nat) (r0 : Int32) (h : hm_X3_readTest P0 th = some (r0, T)) : MetCV l yX3_readTest wu_X3_readTest rmc_X3_readTest D cs t0 [.ref th] P0 T r0 0 0 := by
  refine co_start (own := RX3) (ty := none) (cc := cX3_readTest) (maxL := 5) ⟨by decide, rfl⟩ rfl (Nat.le_of_ble_eq_true rfl) ?_
  intro p e s m args below meth c ls cx hnm hl w
  have hx := cx.1
  have hb := cx.2.1
  have hts := cx.2.2.2.1
  have hown := cx.2.2.2.2.1
  have hml := cx.2.2.2.2.2.2
  have hsub : ∀ w ∈ wsL_law, w ∈ wu_X3_readTest := fun _ hq => List.mem_cons_of_mem _ hq
  have hl : lv_has ls 5 [(0, .ref th)] := hl
  have J64 : ∀ (o0 : Nat) (x3 : Int32) (x4 : Int32) (P : PS), hm_X3_readTest_64  o0 x3 x4 P = some (r0, T) → cGo p l e rmc_X3_readTest s m args below meth c 5 D cs t0 (pA P0) (cQV below D cs P0 args s 0 0 r0 T) 0 0 64 [(0, .ref o0), (3, .int x3), (4, .int x4)] [] P := by
    intro o0 x3 x4 P h H locs ls hl w
    unfold hm_X3_readTest_64 at h
    refine lv_aload_n hx hb dX3_readTest_64 rfl (lv_at hl 0 rfl) ?_
    refine lv_iload_n hx hb dX3_readTest_65 rfl (lv_at hl 1 rfl) ?_
    refine lv_iload hx hb dX3_readTest_66 (lv_at hl 2 rfl) ?_
    replace h := bd_e h
    obtain ⟨r_102, P_101, hc_103, h⟩ := h
    replace h := ck_e h
    obtain ⟨hk_104, h⟩ := h
    refine cc_v (cr_V (As := [.int x3, .int x4]) (rest := []) cx (hcc_X3_put l D cs t0  P P_101 o0 x3 x4 r_102 hc_103) kT4 hk_104 (cwV 2 hts (uG uw_X3_put ul_RX3_104 ui_X3_put us_RX3_X3_put un_RX3) rfl rfl rfl ud_X3_put ⟨Nat.le_of_ble_eq_true rfl, Nat.le_of_ble_eq_true rfl⟩) w rfl hl.1 rfl (Nat.le_of_ble_eq_true rfl) dX3_readTest_68 ⟨(Nat.le_of_ble_eq_true rfl), (Nat.le_of_ble_eq_true rfl)⟩) (fun H locs w => ?_)
    exact cw_vret cx (rt_e h) w dX3_readTest_71
  have J31 : ∀ (o0 : Nat) (x1 : Int32) (x2 : Int32) (P : PS), hm_X3_readTest_31  o0 x1 x2 P = some (r0, T) → cGo p l e rmc_X3_readTest s m args below meth c 5 D cs t0 (pA P0) (cQV below D cs P0 args s 0 0 r0 T) 0 0 31 [(0, .ref o0), (1, .int x1), (2, .int x2)] [] P := by
    intro o0 x1 x2 P h H locs ls hl w
    unfold hm_X3_readTest_31 at h
    refine lv_iconst (v := (3 : Int32)) hx hb dX3_readTest_31 (by decide) ?_
    refine lv_iload_n hx hb dX3_readTest_32 rfl (lv_at hl 1 rfl) ?_
    refine lv_imul hx hb dX3_readTest_33 ?_
    refine lv_iload_n hx hb dX3_readTest_34 rfl (lv_at hl 2 rfl) ?_
    refine lv_iadd hx hb dX3_readTest_35 ?_
    replace h := lt_e h
    obtain ⟨x3_205, ex3_205, h⟩ := h
    refine top_i ex3_205 ?_
    refine lv_istore_n (lv' := [(3, .int x3_205), (0, .ref o0), (1, .int x1), (2, .int x2)]) hx hb dX3_readTest_36 rfl hl (by decide) (rfl) (fun ls hl => ?_)
    refine lv_aload_n hx hb dX3_readTest_37 rfl (lv_at hl 1 rfl) ?_
    refine cw_ldcS cx w 3 rfl dX3_readTest_38 ?_
    replace h := bd_e h
    obtain ⟨r_207, P_206, hc_208, h⟩ := h
    replace h := ck_e h
    obtain ⟨hk_209, h⟩ := h
    refine cc_i (cr_V (As := [.ref (t0.2.2.1 3)]) (rest := []) cx (hcc_X3_pick l D cs t0  P P_206 o0 3 r_207 hc_208) kT4 hk_209 (cwV 1 hts (uG uw_X3_pick ul_RX3_57 ui_X3_pick us_RX3_X3_pick un_RX3) rfl rfl rfl ud_X3_pick ⟨Nat.le_of_ble_eq_true rfl, Nat.le_of_ble_eq_true rfl⟩) w rfl hl.1 rfl (Nat.le_of_ble_eq_true rfl) dX3_readTest_40 ⟨(Nat.le_of_ble_eq_true rfl), (Nat.le_of_ble_eq_true rfl)⟩) (fun H locs w => ?_)
    refine lv_istore (lv' := [(4, .int r_207), (3, .int x3_205), (0, .ref o0), (1, .int x1), (2, .int x2)]) hx hb dX3_readTest_43 hl (by decide) (rfl) (fun ls hl => ?_)
    refine lv_iload_n hx hb dX3_readTest_45 rfl (lv_at hl 1 rfl) ?_
    refine lv_bipush (v := (19 : Int32)) hx hb dX3_readTest_46 (by decide) ?_
    refine lv_icmp_ne (tgt := 64) hx hb dX3_readTest_48 (by decide) (fun q => ?_) (fun q => ?_)
    · replace h := br_n q h
      exact J64  o0 x3_205 r_207 P_206 h _ _ _ (lv_sub hl [2, 1, 0] rfl) w
    · replace h := br_p q h
      refine lv_aload_n hx hb dX3_readTest_51 rfl (lv_at hl 2 rfl) ?_
      refine lv_dup hx hb dX3_readTest_52 rfl ?_
      replace h := ck_e h
      obtain ⟨hk_210, h⟩ := h
      refine cw_getI cx hsub w kT4 hk_210 6 (by decide) ⟨hsub _ uf_RX3_30, Or.inl rfl⟩ dX3_readTest_53 ?_
      refine lv_iconst (v := (1 : Int32)) hx hb dX3_readTest_56 (by decide) ?_
      refine lv_iload hx hb dX3_readTest_57 (lv_at hl 0 rfl) ?_
      refine lv_ishl hx hb dX3_readTest_59 ?_
      refine lv_ior hx hb dX3_readTest_60 ?_
      replace h := lt_e h
      obtain ⟨P_211, eP_211, h⟩ := h
      refine cw_putI cx hsub w kT4 hk_210 6 eP_211 ⟨by decide, by decide, rfl⟩ (Or.inl rfl) ⟨hsub _ uf_RX3_30, Or.inl rfl⟩ dX3_readTest_61 (fun H locs w => ?_)
      exact J64  o0 x3_205 r_207 P_211 h _ _ _ (lv_sub hl [2, 1, 0] rfl) w
  have hP0 : P0 = P0 := rfl
  unfold hm_X3_readTest at h
  refine lv_aload_n hx hb dX3_readTest_0 rfl (lv_at hl 0 rfl) ?_
  refine cw_ldcS cx w 1 rfl dX3_readTest_1 ?_
  replace h := bd_e h
  obtain ⟨r_313, P_312, hc_314, h⟩ := h
  replace h := ck_e h
  obtain ⟨hk_315, h⟩ := h
  refine cc_i (cr_V (As := [.ref (t0.2.2.1 1)]) (rest := []) cx (hcc_X3_pick l D cs t0  P0 P_312 th 1 r_313 hc_314) kT4 hk_315 (cwV 1 hts (uG uw_X3_pick ul_RX3_57 ui_X3_pick us_RX3_X3_pick un_RX3) rfl rfl rfl ud_X3_pick ⟨Nat.le_of_ble_eq_true rfl, Nat.le_of_ble_eq_true rfl⟩) w rfl hl.1 rfl (Nat.le_of_ble_eq_true rfl) dX3_readTest_3 ⟨(Nat.le_of_ble_eq_true rfl), (Nat.le_of_ble_eq_true rfl)⟩) (fun H locs w => ?_)
  refine lv_istore_n (lv' := [(1, .int r_313), (0, .ref th)]) hx hb dX3_readTest_6 rfl hl (by decide) (rfl) (fun ls hl => ?_)
  refine lv_iconst (v := (1 : Int32)) hx hb dX3_readTest_7 (by decide) ?_
  replace h := lt_e h
  obtain ⟨x2_316, ex2_316, h⟩ := h
  refine top_i ex2_316 ?_
  refine lv_istore_n (lv' := [(2, .int x2_316), (1, .int r_313), (0, .ref th)]) hx hb dX3_readTest_8 rfl hl (by decide) (rfl) (fun ls hl => ?_)
  refine lv_iload_n hx hb dX3_readTest_9 rfl (lv_at hl 1 rfl) ?_
  refine lv_iconst (v := (1 : Int32)) hx hb dX3_readTest_10 (by decide) ?_
  refine lv_icmp_gt (tgt := 24) hx hb dX3_readTest_11 (by decide) (fun q => ?_) (fun q => ?_)
  · replace h := br_p q h
    refine lv_aload_n hx hb dX3_readTest_24 rfl (lv_at hl 2 rfl) ?_
    refine cw_ldcS cx w 10 rfl dX3_readTest_25 ?_
    replace h := bd_e h
    obtain ⟨r_318, P_317, hc_319, h⟩ := h
    replace h := ck_e h
    obtain ⟨hk_320, h⟩ := h
    refine cc_i (cr_V (As := [.ref (t0.2.2.1 10)]) (rest := []) cx (hcc_X3_pick l D cs t0  P_312 P_317 th 10 r_318 hc_319) kT4 hk_320 (cwV 1 hts (uG uw_X3_pick ul_RX3_57 ui_X3_pick us_RX3_X3_pick un_RX3) rfl rfl rfl ud_X3_pick ⟨Nat.le_of_ble_eq_true rfl, Nat.le_of_ble_eq_true rfl⟩) w rfl hl.1 rfl (Nat.le_of_ble_eq_true rfl) dX3_readTest_27 ⟨(Nat.le_of_ble_eq_true rfl), (Nat.le_of_ble_eq_true rfl)⟩) (fun H locs w => ?_)
    refine lv_pop hx hb dX3_readTest_30 rfl ?_
    exact J31  th r_313 x2_316 P_317 h _ _ _ (lv_sub hl [2, 1, 0] rfl) w
  · replace h := br_n q h
    refine lv_aload_n hx hb dX3_readTest_14 rfl (lv_at hl 2 rfl) ?_
    refine cw_ldcS cx w 2 rfl dX3_readTest_15 ?_
    replace h := bd_e h
    obtain ⟨r_322, P_321, hc_323, h⟩ := h
    replace h := ck_e h
    obtain ⟨hk_324, h⟩ := h
    refine cc_i (cr_V (As := [.ref (t0.2.2.1 2)]) (rest := []) cx (hcc_X3_pick l D cs t0  P_312 P_321 th 2 r_322 hc_323) kT4 hk_324 (cwV 1 hts (uG uw_X3_pick ul_RX3_57 ui_X3_pick us_RX3_X3_pick un_RX3) rfl rfl rfl ud_X3_pick ⟨Nat.le_of_ble_eq_true rfl, Nat.le_of_ble_eq_true rfl⟩) w rfl hl.1 rfl (Nat.le_of_ble_eq_true rfl) dX3_readTest_17 ⟨(Nat.le_of_ble_eq_true rfl), (Nat.le_of_ble_eq_true rfl)⟩) (fun H locs w => ?_)
    refine lv_istore_n (lv' := [(2, .int r_322), (1, .int r_313), (0, .ref th)]) hx hb dX3_readTest_20 rfl hl (by decide) (rfl) (fun ls hl => ?_)
    refine lv_goto (tgt := 31) hx hb dX3_readTest_21 (by decide) ?_
    exact J31  th r_313 r_322 P_321 h _ _ _ (lv_sub hl [2, 1, 0] rfl) w
def hm_X3_readOne_61 (t0 : TS) (selfO selfC : PS → Nat → Int32 → Option (Int32 × PS)) (o0 : Nat) (P : PS) : Option (Int32 × PS) := bd (hm_X3_readTest  P o0) (fun _ P_101 => ck (kk P o0 4) (some ((0 : Int32), P_101)))
def hm_X3_readOne_31 (t0 : TS) (selfO selfC : PS → Nat → Int32 → Option (Int32 × PS)) (o0 : Nat) (x1 : Int32) (P : PS) : Option (Int32 × PS) := if (4 : Int32) ≤ x1 then (hm_X3_readOne_61 t0 selfO selfC  o0 P) else (bd (hm_X3_accept  P o0 (40 : Int32)) (fun r_206 P_205 => ck (kk P o0 4) (if r_206 = (0 : Int32) then (hm_X3_readOne_61 t0 selfO selfC  o0 P_205) else (bd (selfC P_205 o0 (x1 + (1 : Int32))) (fun _ P_209 => ck (kk P_205 o0 4) (bd (hm_X3_expectAll t0  P_209 o0 9) (fun _ P_213 => ck (kk P_209 o0 4) (some ((0 : Int32), P_213)))))))))
def hmb_X3_readOne (t0 : TS) (selfO selfC : PS → Nat → Int32 → Option (Int32 × PS)) (P : PS) (th : Nat) (a1 : Int32) : Option (Int32 × PS) := if (4 : Int32) ≤ a1 then (hm_X3_readOne_31 t0 selfO selfC  th a1 P) else (bd (hm_X3_accept  P th (33 : Int32)) (fun r_318 P_317 => ck (kk P th 4) (if r_318 = (0 : Int32) then (hm_X3_readOne_31 t0 selfO selfC  th a1 P_317) else (bd (selfO P_317 th (a1 + (1 : Int32))) (fun _ P_321 => ck (kk P_317 th 4) (bd (hm_X3_put  P_321 th (21 : Int32) (0 : Int32)) (fun _ P_325 => ck (kk P_321 th 4) (some ((0 : Int32), P_325)))))))))
abbrev wu_X3_readOne : List Cond := .code yX3_readOne cX3_readOne 2 none :: wsL_law
theorem ud_X3_readOne : yX3_readOne.cls = RX3 ∧ yX3_readOne.cls ≠ "java/lang/invoke/MethodHandle" ∧ yX3_readOne.cls ≠ "java/lang/invoke/VarHandle" ∧ (parseMethodDescriptor yX3_readOne.desc).map (fun d => d.parameters.length) = some 1 := by decide +kernel
def hm_X3_readCondition_79 (t0 : TS) (selfO selfC : PS → Nat → Int32 → Option (Int32 × PS)) (k12 : Nat → Int32 → Int32 → Int32 → Int32 → PS → Option (Int32 × PS)) (o0 : Nat) (x1 : Int32) (x2 : Int32) (x3 : Int32) (x4 : Int32) (P : PS) : Option (Int32 × PS) := lt_ (x4 + (1 : Int32)) (fun x4_101 => k12 o0 x1 x2 x3 x4_101 P)
def hm_X3_readCondition_67 (t0 : TS) (selfO selfC : PS → Nat → Int32 → Option (Int32 × PS)) (k12 : Nat → Int32 → Int32 → Int32 → Int32 → PS → Option (Int32 × PS)) (o0 : Nat) (x1 : Int32) (x3 : Int32) (x4 : Int32) (P : PS) : Option (Int32 × PS) := lt_ ((1 : Int32)) (fun x2_202 => bd (selfO P o0 x1) (fun _ P_203 => ck (kk P o0 4) (hm_X3_readCondition_79 t0 selfO selfC k12 o0 x1 x2_202 x3 x4 P_203)))
def hm_X3_readCondition_85 (t0 : TS) (selfO selfC : PS → Nat → Int32 → Option (Int32 × PS)) (o0 : Nat) (x2 : Int32) (P : PS) : Option (Int32 × PS) := if x2 = (0 : Int32) then (some ((0 : Int32), P)) else (bd (hm_X3_put  P o0 (23 : Int32) (0 : Int32)) (fun _ P_307 => ck (kk P o0 4) (some ((0 : Int32), P_307))))
def hm_X3_readCondition_12 (t0 : TS) (selfO selfC : PS → Nat → Int32 → Option (Int32 × PS)) (k12 : Nat → Int32 → Int32 → Int32 → Int32 → PS → Option (Int32 × PS)) (o0 : Nat) (x1 : Int32) (x2 : Int32) (x3 : Int32) (x4 : Int32) (P : PS) : Option (Int32 × PS) := if (100 : Int32) ≤ x4 then (hm_X3_readCondition_85 t0 selfO selfC  o0 x2 P) else (if x3 = (0 : Int32) then (hm_X3_readCondition_85 t0 selfO selfC  o0 x2 P) else (bd (hm_X3_accept  P o0 (38 : Int32)) (fun r_412 P_411 => ck (kk P o0 4) (if r_412 = (0 : Int32) then (bd (hm_X3_accept  P_411 o0 (124 : Int32)) (fun r_416 P_415 => ck (kk P_411 o0 4) (if r_416 = (0 : Int32) then (lt_ ((0 : Int32)) (fun x3_419 => hm_X3_readCondition_79 t0 selfO selfC k12 o0 x1 x2 x3_419 x4 P_415)) else (if x2 = (0 : Int32) then (hm_X3_readCondition_67 t0 selfO selfC k12 o0 x1 x3 x4 P_415) else (bd (hm_X3_put  P_415 o0 (23 : Int32) (0 : Int32)) (fun _ P_420 => ck (kk P_415 o0 4) (hm_X3_readCondition_67 t0 selfO selfC k12 o0 x1 x3 x4 P_420))))))) else (bd (selfO P_411 o0 x1) (fun _ P_424 => ck (kk P_411 o0 4) (bd (hm_X3_put  P_424 o0 (22 : Int32) (0 : Int32)) (fun _ P_428 => ck (kk P_424 o0 4) (hm_X3_readCondition_79 t0 selfO selfC k12 o0 x1 x2 x3 x4 P_428)))))))))
def hm_X3_readCondition_12L (t0 : TS) (selfO selfC : PS → Nat → Int32 → Option (Int32 × PS)) : Nat → Nat → Int32 → Int32 → Int32 → Int32 → PS → Option (Int32 × PS)
  | 0, _, _, _, _, _, _ => none
  | n + 1, o0, x1, x2, x3, x4, P => hm_X3_readCondition_12 t0 selfO selfC  (hm_X3_readCondition_12L t0 selfO selfC  n) o0 x1 x2 x3 x4 P
def hmb_X3_readCondition (t0 : TS) (selfO selfC : PS → Nat → Int32 → Option (Int32 × PS)) (P : PS) (th : Nat) (a1 : Int32) : Option (Int32 × PS) := lt_ ((0 : Int32)) (fun x2_532 => bd (selfO P th a1) (fun _ P_533 => ck (kk P th 4) (lt_ ((1 : Int32)) (fun x3_537 => lt_ ((0 : Int32)) (fun x4_538 => hm_X3_readCondition_12L t0 selfO selfC  4000 th a1 x2_532 x3_537 x4_538 P_533)))))
abbrev wu_X3_readCondition : List Cond := .code yX3_readCondition cX3_readCondition 5 none :: wsL_law
theorem ud_X3_readCondition : yX3_readCondition.cls = RX3 ∧ yX3_readCondition.cls ≠ "java/lang/invoke/MethodHandle" ∧ yX3_readCondition.cls ≠ "java/lang/invoke/VarHandle" ∧ (parseMethodDescriptor yX3_readCondition.desc).map (fun d => d.parameters.length) = some 1 := by decide +kernel
def hm_X3_rd (t0 : TS) : Nat → Bool → PS → Nat → Int32 → Option (Int32 × PS)
  | 0, _ => fun _ _ _ => none
  | d + 1, true => hmb_X3_readOne t0 (hm_X3_rd t0 d true) (hm_X3_rd t0 d false)
  | d + 1, false => hmb_X3_readCondition t0 (hm_X3_rd t0 d true) (hm_X3_rd t0 d false)
def rmd_X3_rd (d : Nat) : Room := { frames := 6 + d, cells := 0, slots := 0, locals := 153 + d * 24 }
theorem rm_X3_rd {d : Nat} : (rmd_X3_rd d).frames + 1 ≤ (rmd_X3_rd (d + 1)).frames := by unfold rmd_X3_rd; simp only; omega
theorem rl_X3_rd {d k : Nat} (hk : 8 + (k + 11) ≤ 24 := by decide) : 8 + (k + 11) + (rmd_X3_rd d).locals ≤ (rmd_X3_rd (d + 1)).locals := by unfold rmd_X3_rd; simp only; omega
set_option maxHeartbeats 4000000 in
set_option maxRecDepth 100000 in
theorem hcc_X3_rd (l : Launch) (D : va_G) (cs : Nat → ClassId) (t0 : TS) : ∀ d : Nat, (∀ (P0 T : PS) (th : Nat) (a1 : Int32) (r0 : Int32), hm_X3_rd t0 d true P0 th a1 = some (r0, T) → MetCV l yX3_readOne wu_X3_readOne (rmd_X3_rd d) D cs t0 [.ref th, .int a1] P0 T r0 0 0) ∧ (∀ (P0 T : PS) (th : Nat) (a1 : Int32) (r0 : Int32), hm_X3_rd t0 d false P0 th a1 = some (r0, T) → MetCV l yX3_readCondition wu_X3_readCondition (rmd_X3_rd d) D cs t0 [.ref th, .int a1] P0 T r0 0 0) := by
  intro d
  induction d with
  | zero => exact ⟨fun P0 T th a1 r0 h => (by have h : none = some (r0, T) := h; cases h), fun P0 T th a1 r0 h => (by have h : none = some (r0, T) := h; cases h)⟩
  | succ d hself =>
    obtain ⟨hsO, hsC⟩ := hself
    refine ⟨?_, ?_⟩
    · intro P0 T th a1 r0 h
      have h : hmb_X3_readOne t0 (hm_X3_rd t0 d true) (hm_X3_rd t0 d false) P0 th a1 = some (r0, T) := h
      generalize hm_X3_rd t0 d true = selfO at h hsO
      generalize hm_X3_rd t0 d false = selfC at h hsC
      refine co_start (own := RX3) (ty := none) (cc := cX3_readOne) (maxL := 2) ⟨by decide, rfl⟩ rfl (Nat.le_of_ble_eq_true rfl) ?_
      intro p e s m args below meth c ls cx hnm hl w
      have hx := cx.1
      have hb := cx.2.1
      have hts := cx.2.2.2.1
      have hown := cx.2.2.2.2.1
      have hml := cx.2.2.2.2.2.2
      have hsub : ∀ w ∈ wsL_law, w ∈ wu_X3_readOne := fun _ hq => List.mem_cons_of_mem _ hq
      have hl : lv_has ls 2 [(0, .ref th), (1, .int a1)] := hl
      have J61 : ∀ (o0 : Nat) (P : PS), hm_X3_readOne_61 t0 selfO selfC  o0 P = some (r0, T) → cGo p l e (rmd_X3_rd (d + 1)) s m args below meth c 2 D cs t0 (pA P0) (cQV below D cs P0 args s 0 0 r0 T) 0 0 61 [(0, .ref o0)] [] P := by
        intro o0 P h H locs ls hl w
        unfold hm_X3_readOne_61 at h
        refine lv_aload_n hx hb dX3_readOne_61 rfl (lv_at hl 0 rfl) ?_
        replace h := bd_e h
        obtain ⟨r_102, P_101, hc_103, h⟩ := h
        replace h := ck_e h
        obtain ⟨hk_104, h⟩ := h
        refine cc_v (cr_V (As := []) (rest := []) cx (hcc_X3_readTest l D cs t0  P P_101 o0 r_102 hc_103) kT4 hk_104 (cwV 0 hts (uG uw_X3_readTest ul_RX3_109 ui_X3_readTest us_RX3_X3_readTest un_RX3) rfl rfl rfl ud_X3_readTest ⟨Nat.le_trans (Nat.le_of_ble_eq_true rfl) (Nat.le_add_right _ _), Nat.le_trans (Nat.le_of_ble_eq_true rfl) (Nat.le_add_right _ _)⟩) w rfl hl.1 rfl (Nat.le_of_ble_eq_true rfl) dX3_readOne_62 ⟨(Nat.le_of_ble_eq_true rfl), (Nat.le_of_ble_eq_true rfl)⟩) (fun H locs w => ?_)
        exact cw_vret cx (rt_e h) w dX3_readOne_65
      have J31 : ∀ (o0 : Nat) (x1 : Int32) (P : PS), hm_X3_readOne_31 t0 selfO selfC  o0 x1 P = some (r0, T) → cGo p l e (rmd_X3_rd (d + 1)) s m args below meth c 2 D cs t0 (pA P0) (cQV below D cs P0 args s 0 0 r0 T) 0 0 31 [(0, .ref o0), (1, .int x1)] [] P := by
        intro o0 x1 P h H locs ls hl w
        unfold hm_X3_readOne_31 at h
        refine lv_iload_n hx hb dX3_readOne_31 rfl (lv_at hl 1 rfl) ?_
        refine lv_iconst (v := (4 : Int32)) hx hb dX3_readOne_32 (by decide) ?_
        refine lv_icmp_ge (tgt := 61) hx hb dX3_readOne_33 (by decide) (fun q => ?_) (fun q => ?_)
        · replace h := br_p q h
          exact J61  o0 P h _ _ _ (lv_sub hl [0] rfl) w
        · replace h := br_n q h
          refine lv_aload_n hx hb dX3_readOne_36 rfl (lv_at hl 0 rfl) ?_
          refine lv_bipush (v := (40 : Int32)) hx hb dX3_readOne_37 (by decide) ?_
          replace h := bd_e h
          obtain ⟨r_206, P_205, hc_207, h⟩ := h
          replace h := ck_e h
          obtain ⟨hk_208, h⟩ := h
          refine cc_i (cr_V (As := [.int (40 : Int32)]) (rest := []) cx (hcc_X3_accept l D cs t0  P P_205 o0 (40 : Int32) r_206 hc_207) kT4 hk_208 (cwV 1 hts (uG uw_X3_accept ul_RX3_46 ui_X3_accept us_RX3_X3_accept un_RX3) rfl rfl rfl ud_X3_accept ⟨Nat.le_trans (Nat.le_of_ble_eq_true rfl) (Nat.le_add_right _ _), Nat.le_trans (Nat.le_of_ble_eq_true rfl) (Nat.le_add_right _ _)⟩) w rfl hl.1 rfl (Nat.le_of_ble_eq_true rfl) dX3_readOne_39 ⟨(Nat.le_of_ble_eq_true rfl), (Nat.le_of_ble_eq_true rfl)⟩) (fun H locs w => ?_)
          refine lv_if_eq (tgt := 61) hx hb dX3_readOne_42 (by decide) (fun q => ?_) (fun q => ?_)
          · replace h := br_p q h
            exact J61  o0 P_205 h _ _ _ (lv_sub hl [0] rfl) w
          · replace h := br_n q h
            refine lv_aload_n hx hb dX3_readOne_45 rfl (lv_at hl 0 rfl) ?_
            refine lv_iload_n hx hb dX3_readOne_46 rfl (lv_at hl 1 rfl) ?_
            refine lv_iconst (v := (1 : Int32)) hx hb dX3_readOne_47 (by decide) ?_
            refine lv_iadd hx hb dX3_readOne_48 ?_
            replace h := bd_e h
            obtain ⟨r_210, P_209, hc_211, h⟩ := h
            replace h := ck_e h
            obtain ⟨hk_212, h⟩ := h
            refine cc_v (cr_V (As := [.int (x1 + (1 : Int32))]) (rest := []) cx (hsC P_205 P_209 o0 (x1 + (1 : Int32)) r_210 hc_211) kT4 hk_212 (cwV 1 hts (uG uw_X3_readCondition ul_RX3_70 ui_X3_readCondition us_RX3_X3_readCondition un_RX3) rfl rfl rfl ud_X3_readCondition ⟨rm_X3_rd, rl_X3_rd⟩) w rfl hl.1 rfl (Nat.le_of_ble_eq_true rfl) dX3_readOne_49 ⟨(Nat.le_of_ble_eq_true rfl), (Nat.le_of_ble_eq_true rfl)⟩) (fun H locs w => ?_)
            refine lv_aload_n hx hb dX3_readOne_52 rfl (lv_at hl 0 rfl) ?_
            refine cw_ldcS cx w 9 rfl dX3_readOne_53 ?_
            replace h := bd_e h
            obtain ⟨r_214, P_213, hc_215, h⟩ := h
            replace h := ck_e h
            obtain ⟨hk_216, h⟩ := h
            refine cc_v (cr_V (As := [.ref (t0.2.2.1 9)]) (rest := []) cx (hcc_X3_expectAll l D cs t0  P_209 P_213 o0 9 r_214 hc_215) kT4 hk_216 (cwV 1 hts (uG uw_X3_expectAll ul_RX3_63 ui_X3_expectAll us_RX3_X3_expectAll un_RX3) rfl rfl rfl ud_X3_expectAll ⟨Nat.le_trans (Nat.le_of_ble_eq_true rfl) (Nat.le_add_right _ _), Nat.le_trans (Nat.le_of_ble_eq_true rfl) (Nat.le_add_right _ _)⟩) w rfl hl.1 rfl (Nat.le_of_ble_eq_true rfl) dX3_readOne_55 ⟨(Nat.le_of_ble_eq_true rfl), (Nat.le_of_ble_eq_true rfl)⟩) (fun H locs w => ?_)
            refine lv_goto (tgt := 65) hx hb dX3_readOne_58 (by decide) ?_
            exact cw_vret cx (rt_e h) w dX3_readOne_65
      have hP0 : P0 = P0 := rfl
      unfold hmb_X3_readOne at h
      refine lv_iload_n hx hb dX3_readOne_0 rfl (lv_at hl 1 rfl) ?_
      refine lv_iconst (v := (4 : Int32)) hx hb dX3_readOne_1 (by decide) ?_
      refine lv_icmp_ge (tgt := 31) hx hb dX3_readOne_2 (by decide) (fun q => ?_) (fun q => ?_)
      · replace h := br_p q h
        exact J31  th a1 P0 h _ _ _ (lv_sub hl [0, 1] rfl) w
      · replace h := br_n q h
        refine lv_aload_n hx hb dX3_readOne_5 rfl (lv_at hl 0 rfl) ?_
        refine lv_bipush (v := (33 : Int32)) hx hb dX3_readOne_6 (by decide) ?_
        replace h := bd_e h
        obtain ⟨r_318, P_317, hc_319, h⟩ := h
        replace h := ck_e h
        obtain ⟨hk_320, h⟩ := h
        refine cc_i (cr_V (As := [.int (33 : Int32)]) (rest := []) cx (hcc_X3_accept l D cs t0  P0 P_317 th (33 : Int32) r_318 hc_319) kT4 hk_320 (cwV 1 hts (uG uw_X3_accept ul_RX3_46 ui_X3_accept us_RX3_X3_accept un_RX3) rfl rfl rfl ud_X3_accept ⟨Nat.le_trans (Nat.le_of_ble_eq_true rfl) (Nat.le_add_right _ _), Nat.le_trans (Nat.le_of_ble_eq_true rfl) (Nat.le_add_right _ _)⟩) w rfl hl.1 rfl (Nat.le_of_ble_eq_true rfl) dX3_readOne_8 ⟨(Nat.le_of_ble_eq_true rfl), (Nat.le_of_ble_eq_true rfl)⟩) (fun H locs w => ?_)
        refine lv_if_eq (tgt := 31) hx hb dX3_readOne_11 (by decide) (fun q => ?_) (fun q => ?_)
        · replace h := br_p q h
          exact J31  th a1 P_317 h _ _ _ (lv_sub hl [0, 1] rfl) w
        · replace h := br_n q h
          refine lv_aload_n hx hb dX3_readOne_14 rfl (lv_at hl 0 rfl) ?_
          refine lv_iload_n hx hb dX3_readOne_15 rfl (lv_at hl 1 rfl) ?_
          refine lv_iconst (v := (1 : Int32)) hx hb dX3_readOne_16 (by decide) ?_
          refine lv_iadd hx hb dX3_readOne_17 ?_
          replace h := bd_e h
          obtain ⟨r_322, P_321, hc_323, h⟩ := h
          replace h := ck_e h
          obtain ⟨hk_324, h⟩ := h
          refine cc_v (cr_V (As := [.int (a1 + (1 : Int32))]) (rest := []) cx (hsO P_317 P_321 th (a1 + (1 : Int32)) r_322 hc_323) kT4 hk_324 (cwV 1 hts (uG uw_X3_readOne ul_RX3_101 ui_X3_readOne us_RX3_X3_readOne un_RX3) rfl rfl rfl ud_X3_readOne ⟨rm_X3_rd, rl_X3_rd⟩) w rfl hl.1 rfl (Nat.le_of_ble_eq_true rfl) dX3_readOne_18 ⟨(Nat.le_of_ble_eq_true rfl), (Nat.le_of_ble_eq_true rfl)⟩) (fun H locs w => ?_)
          refine lv_aload_n hx hb dX3_readOne_21 rfl (lv_at hl 0 rfl) ?_
          refine lv_bipush (v := (21 : Int32)) hx hb dX3_readOne_22 (by decide) ?_
          refine lv_iconst (v := (0 : Int32)) hx hb dX3_readOne_24 (by decide) ?_
          replace h := bd_e h
          obtain ⟨r_326, P_325, hc_327, h⟩ := h
          replace h := ck_e h
          obtain ⟨hk_328, h⟩ := h
          refine cc_v (cr_V (As := [.int (21 : Int32), .int (0 : Int32)]) (rest := []) cx (hcc_X3_put l D cs t0  P_321 P_325 th (21 : Int32) (0 : Int32) r_326 hc_327) kT4 hk_328 (cwV 2 hts (uG uw_X3_put ul_RX3_104 ui_X3_put us_RX3_X3_put un_RX3) rfl rfl rfl ud_X3_put ⟨Nat.le_trans (Nat.le_of_ble_eq_true rfl) (Nat.le_add_right _ _), Nat.le_trans (Nat.le_of_ble_eq_true rfl) (Nat.le_add_right _ _)⟩) w rfl hl.1 rfl (Nat.le_of_ble_eq_true rfl) dX3_readOne_25 ⟨(Nat.le_of_ble_eq_true rfl), (Nat.le_of_ble_eq_true rfl)⟩) (fun H locs w => ?_)
          refine lv_goto (tgt := 65) hx hb dX3_readOne_28 (by decide) ?_
          exact cw_vret cx (rt_e h) w dX3_readOne_65
    · intro P0 T th a1 r0 h
      have h : hmb_X3_readCondition t0 (hm_X3_rd t0 d true) (hm_X3_rd t0 d false) P0 th a1 = some (r0, T) := h
      generalize hm_X3_rd t0 d true = selfO at h hsO
      generalize hm_X3_rd t0 d false = selfC at h hsC
      refine co_start (own := RX3) (ty := none) (cc := cX3_readCondition) (maxL := 5) ⟨by decide, rfl⟩ rfl (Nat.le_of_ble_eq_true rfl) ?_
      intro p e s m args below meth c ls cx hnm hl w
      have hx := cx.1
      have hb := cx.2.1
      have hts := cx.2.2.2.1
      have hown := cx.2.2.2.2.1
      have hml := cx.2.2.2.2.2.2
      have hsub : ∀ w ∈ wsL_law, w ∈ wu_X3_readCondition := fun _ hq => List.mem_cons_of_mem _ hq
      have hl : lv_has ls 5 [(0, .ref th), (1, .int a1)] := hl
      have J79 : ∀ (k12 : Nat → Int32 → Int32 → Int32 → Int32 → PS → Option (Int32 × PS)) (hk12 : ∀ (o0 : Nat) (x1 : Int32) (x2 : Int32) (x3 : Int32) (x4 : Int32) (P : PS), k12 o0 x1 x2 x3 x4 P = some (r0, T) → cGo p l e (rmd_X3_rd (d + 1)) s m args below meth c 5 D cs t0 (pA P0) (cQV below D cs P0 args s 0 0 r0 T) 0 0 12 [(0, .ref o0), (1, .int x1), (2, .int x2), (3, .int x3), (4, .int x4)] [] P) (o0 : Nat) (x1 : Int32) (x2 : Int32) (x3 : Int32) (x4 : Int32) (P : PS), hm_X3_readCondition_79 t0 selfO selfC k12 o0 x1 x2 x3 x4 P = some (r0, T) → cGo p l e (rmd_X3_rd (d + 1)) s m args below meth c 5 D cs t0 (pA P0) (cQV below D cs P0 args s 0 0 r0 T) 0 0 79 [(0, .ref o0), (1, .int x1), (2, .int x2), (3, .int x3), (4, .int x4)] [] P := by
        intro k12 hk12 o0 x1 x2 x3 x4 P h H locs ls hl w
        unfold hm_X3_readCondition_79 at h
        replace h := lt_e h
        obtain ⟨x4_101, ex4_101, h⟩ := h
        refine lv_iinc (v := x4_101) (lv' := [(4, .int x4_101), (0, .ref o0), (1, .int x1), (2, .int x2), (3, .int x3)]) hx hb dX3_readCondition_79 hl (k := 4) rfl (by rw [ex4_101]; rfl) (by decide) (rfl) (fun ls hl => ?_)
        refine lv_goto (tgt := 12) hx hb dX3_readCondition_82 (by decide) ?_
        exact hk12 o0 x1 x2 x3 x4_101 P h _ _ _ (lv_sub hl [1, 2, 3, 4, 0] rfl) w
      have J67 : ∀ (k12 : Nat → Int32 → Int32 → Int32 → Int32 → PS → Option (Int32 × PS)) (hk12 : ∀ (o0 : Nat) (x1 : Int32) (x2 : Int32) (x3 : Int32) (x4 : Int32) (P : PS), k12 o0 x1 x2 x3 x4 P = some (r0, T) → cGo p l e (rmd_X3_rd (d + 1)) s m args below meth c 5 D cs t0 (pA P0) (cQV below D cs P0 args s 0 0 r0 T) 0 0 12 [(0, .ref o0), (1, .int x1), (2, .int x2), (3, .int x3), (4, .int x4)] [] P) (o0 : Nat) (x1 : Int32) (x3 : Int32) (x4 : Int32) (P : PS), hm_X3_readCondition_67 t0 selfO selfC k12 o0 x1 x3 x4 P = some (r0, T) → cGo p l e (rmd_X3_rd (d + 1)) s m args below meth c 5 D cs t0 (pA P0) (cQV below D cs P0 args s 0 0 r0 T) 0 0 67 [(0, .ref o0), (1, .int x1), (3, .int x3), (4, .int x4)] [] P := by
        intro k12 hk12 o0 x1 x3 x4 P h H locs ls hl w
        unfold hm_X3_readCondition_67 at h
        refine lv_iconst (v := (1 : Int32)) hx hb dX3_readCondition_67 (by decide) ?_
        replace h := lt_e h
        obtain ⟨x2_202, ex2_202, h⟩ := h
        refine top_i ex2_202 ?_
        refine lv_istore_n (lv' := [(2, .int x2_202), (0, .ref o0), (1, .int x1), (3, .int x3), (4, .int x4)]) hx hb dX3_readCondition_68 rfl hl (by decide) (rfl) (fun ls hl => ?_)
        refine lv_aload_n hx hb dX3_readCondition_69 rfl (lv_at hl 1 rfl) ?_
        refine lv_iload_n hx hb dX3_readCondition_70 rfl (lv_at hl 2 rfl) ?_
        replace h := bd_e h
        obtain ⟨r_204, P_203, hc_205, h⟩ := h
        replace h := ck_e h
        obtain ⟨hk_206, h⟩ := h
        refine cc_v (cr_V (As := [.int x1]) (rest := []) cx (hsO P P_203 o0 x1 r_204 hc_205) kT4 hk_206 (cwV 1 hts (uG uw_X3_readOne ul_RX3_101 ui_X3_readOne us_RX3_X3_readOne un_RX3) rfl rfl rfl ud_X3_readOne ⟨rm_X3_rd, rl_X3_rd⟩) w rfl hl.1 rfl (Nat.le_of_ble_eq_true rfl) dX3_readCondition_71 ⟨(Nat.le_of_ble_eq_true rfl), (Nat.le_of_ble_eq_true rfl)⟩) (fun H locs w => ?_)
        refine lv_goto (tgt := 79) hx hb dX3_readCondition_74 (by decide) ?_
        exact J79 k12 hk12 o0 x1 x2_202 x3 x4 P_203 h _ _ _ (lv_sub hl [1, 2, 0, 3, 4] rfl) w
      have J85 : ∀ (o0 : Nat) (x2 : Int32) (P : PS), hm_X3_readCondition_85 t0 selfO selfC  o0 x2 P = some (r0, T) → cGo p l e (rmd_X3_rd (d + 1)) s m args below meth c 5 D cs t0 (pA P0) (cQV below D cs P0 args s 0 0 r0 T) 0 0 85 [(0, .ref o0), (2, .int x2)] [] P := by
        intro o0 x2 P h H locs ls hl w
        unfold hm_X3_readCondition_85 at h
        refine lv_iload_n hx hb dX3_readCondition_85 rfl (lv_at hl 1 rfl) ?_
        refine lv_if_eq (tgt := 96) hx hb dX3_readCondition_86 (by decide) (fun q => ?_) (fun q => ?_)
        · replace h := br_p q h
          exact cw_vret cx (rt_e h) w dX3_readCondition_96
        · replace h := br_n q h
          refine lv_aload_n hx hb dX3_readCondition_89 rfl (lv_at hl 0 rfl) ?_
          refine lv_bipush (v := (23 : Int32)) hx hb dX3_readCondition_90 (by decide) ?_
          refine lv_iconst (v := (0 : Int32)) hx hb dX3_readCondition_92 (by decide) ?_
          replace h := bd_e h
          obtain ⟨r_308, P_307, hc_309, h⟩ := h
          replace h := ck_e h
          obtain ⟨hk_310, h⟩ := h
          refine cc_v (cr_V (As := [.int (23 : Int32), .int (0 : Int32)]) (rest := []) cx (hcc_X3_put l D cs t0  P P_307 o0 (23 : Int32) (0 : Int32) r_308 hc_309) kT4 hk_310 (cwV 2 hts (uG uw_X3_put ul_RX3_104 ui_X3_put us_RX3_X3_put un_RX3) rfl rfl rfl ud_X3_put ⟨Nat.le_trans (Nat.le_of_ble_eq_true rfl) (Nat.le_add_right _ _), Nat.le_trans (Nat.le_of_ble_eq_true rfl) (Nat.le_add_right _ _)⟩) w rfl hl.1 rfl (Nat.le_of_ble_eq_true rfl) dX3_readCondition_93 ⟨(Nat.le_of_ble_eq_true rfl), (Nat.le_of_ble_eq_true rfl)⟩) (fun H locs w => ?_)
          exact cw_vret cx (rt_e h) w dX3_readCondition_96
      have L12 : ∀ (n : Nat) (o0 : Nat) (x1 : Int32) (x2 : Int32) (x3 : Int32) (x4 : Int32) (P : PS), hm_X3_readCondition_12L t0 selfO selfC  n o0 x1 x2 x3 x4 P = some (r0, T) → cGo p l e (rmd_X3_rd (d + 1)) s m args below meth c 5 D cs t0 (pA P0) (cQV below D cs P0 args s 0 0 r0 T) 0 0 12 [(0, .ref o0), (1, .int x1), (2, .int x2), (3, .int x3), (4, .int x4)] [] P := by
        intro n
        induction n with
        | zero =>
          intro o0 x1 x2 x3 x4 P h
          have h : none = some (r0, T) := h
          cases h
        | succ n hk12 =>
          intro o0 x1 x2 x3 x4 P h H locs ls hl w
          have h : hm_X3_readCondition_12 t0 selfO selfC  (hm_X3_readCondition_12L t0 selfO selfC  n) o0 x1 x2 x3 x4 P = some (r0, T) := h
          generalize hm_X3_readCondition_12L t0 selfO selfC  n = k12 at h hk12
          unfold hm_X3_readCondition_12 at h
          refine lv_iload hx hb dX3_readCondition_12 (lv_at hl 4 rfl) ?_
          refine lv_bipush (v := (100 : Int32)) hx hb dX3_readCondition_14 (by decide) ?_
          refine lv_icmp_ge (tgt := 85) hx hb dX3_readCondition_16 (by decide) (fun q => ?_) (fun q => ?_)
          · replace h := br_p q h
            exact J85  o0 x2 P h _ _ _ (lv_sub hl [0, 2] rfl) w
          · replace h := br_n q h
            refine lv_iload_n hx hb dX3_readCondition_19 rfl (lv_at hl 3 rfl) ?_
            refine lv_if_eq (tgt := 85) hx hb dX3_readCondition_20 (by decide) (fun q => ?_) (fun q => ?_)
            · replace h := br_p q h
              exact J85  o0 x2 P h _ _ _ (lv_sub hl [0, 2] rfl) w
            · replace h := br_n q h
              refine lv_aload_n hx hb dX3_readCondition_23 rfl (lv_at hl 0 rfl) ?_
              refine lv_bipush (v := (38 : Int32)) hx hb dX3_readCondition_24 (by decide) ?_
              replace h := bd_e h
              obtain ⟨r_412, P_411, hc_413, h⟩ := h
              replace h := ck_e h
              obtain ⟨hk_414, h⟩ := h
              refine cc_i (cr_V (As := [.int (38 : Int32)]) (rest := []) cx (hcc_X3_accept l D cs t0  P P_411 o0 (38 : Int32) r_412 hc_413) kT4 hk_414 (cwV 1 hts (uG uw_X3_accept ul_RX3_46 ui_X3_accept us_RX3_X3_accept un_RX3) rfl rfl rfl ud_X3_accept ⟨Nat.le_trans (Nat.le_of_ble_eq_true rfl) (Nat.le_add_right _ _), Nat.le_trans (Nat.le_of_ble_eq_true rfl) (Nat.le_add_right _ _)⟩) w rfl hl.1 rfl (Nat.le_of_ble_eq_true rfl) dX3_readCondition_26 ⟨(Nat.le_of_ble_eq_true rfl), (Nat.le_of_ble_eq_true rfl)⟩) (fun H locs w => ?_)
              refine lv_if_eq (tgt := 47) hx hb dX3_readCondition_29 (by decide) (fun q => ?_) (fun q => ?_)
              · replace h := br_p q h
                refine lv_aload_n hx hb dX3_readCondition_47 rfl (lv_at hl 0 rfl) ?_
                refine lv_bipush (v := (124 : Int32)) hx hb dX3_readCondition_48 (by decide) ?_
                replace h := bd_e h
                obtain ⟨r_416, P_415, hc_417, h⟩ := h
                replace h := ck_e h
                obtain ⟨hk_418, h⟩ := h
                refine cc_i (cr_V (As := [.int (124 : Int32)]) (rest := []) cx (hcc_X3_accept l D cs t0  P_411 P_415 o0 (124 : Int32) r_416 hc_417) kT4 hk_418 (cwV 1 hts (uG uw_X3_accept ul_RX3_46 ui_X3_accept us_RX3_X3_accept un_RX3) rfl rfl rfl ud_X3_accept ⟨Nat.le_trans (Nat.le_of_ble_eq_true rfl) (Nat.le_add_right _ _), Nat.le_trans (Nat.le_of_ble_eq_true rfl) (Nat.le_add_right _ _)⟩) w rfl hl.1 rfl (Nat.le_of_ble_eq_true rfl) dX3_readCondition_50 ⟨(Nat.le_of_ble_eq_true rfl), (Nat.le_of_ble_eq_true rfl)⟩) (fun H locs w => ?_)
                refine lv_if_eq (tgt := 77) hx hb dX3_readCondition_53 (by decide) (fun q => ?_) (fun q => ?_)
                · replace h := br_p q h
                  refine lv_iconst (v := (0 : Int32)) hx hb dX3_readCondition_77 (by decide) ?_
                  replace h := lt_e h
                  obtain ⟨x3_419, ex3_419, h⟩ := h
                  refine top_i ex3_419 ?_
                  refine lv_istore_n (lv' := [(3, .int x3_419), (0, .ref o0), (1, .int x1), (2, .int x2), (4, .int x4)]) hx hb dX3_readCondition_78 rfl hl (by decide) (rfl) (fun ls hl => ?_)
                  exact J79 k12 hk12 o0 x1 x2 x3_419 x4 P_415 h _ _ _ (lv_sub hl [1, 2, 3, 0, 4] rfl) w
                · replace h := br_n q h
                  refine lv_iload_n hx hb dX3_readCondition_56 rfl (lv_at hl 2 rfl) ?_
                  refine lv_if_eq (tgt := 67) hx hb dX3_readCondition_57 (by decide) (fun q => ?_) (fun q => ?_)
                  · replace h := br_p q h
                    exact J67 k12 hk12 o0 x1 x3 x4 P_415 h _ _ _ (lv_sub hl [0, 1, 3, 4] rfl) w
                  · replace h := br_n q h
                    refine lv_aload_n hx hb dX3_readCondition_60 rfl (lv_at hl 0 rfl) ?_
                    refine lv_bipush (v := (23 : Int32)) hx hb dX3_readCondition_61 (by decide) ?_
                    refine lv_iconst (v := (0 : Int32)) hx hb dX3_readCondition_63 (by decide) ?_
                    replace h := bd_e h
                    obtain ⟨r_421, P_420, hc_422, h⟩ := h
                    replace h := ck_e h
                    obtain ⟨hk_423, h⟩ := h
                    refine cc_v (cr_V (As := [.int (23 : Int32), .int (0 : Int32)]) (rest := []) cx (hcc_X3_put l D cs t0  P_415 P_420 o0 (23 : Int32) (0 : Int32) r_421 hc_422) kT4 hk_423 (cwV 2 hts (uG uw_X3_put ul_RX3_104 ui_X3_put us_RX3_X3_put un_RX3) rfl rfl rfl ud_X3_put ⟨Nat.le_trans (Nat.le_of_ble_eq_true rfl) (Nat.le_add_right _ _), Nat.le_trans (Nat.le_of_ble_eq_true rfl) (Nat.le_add_right _ _)⟩) w rfl hl.1 rfl (Nat.le_of_ble_eq_true rfl) dX3_readCondition_64 ⟨(Nat.le_of_ble_eq_true rfl), (Nat.le_of_ble_eq_true rfl)⟩) (fun H locs w => ?_)
                    exact J67 k12 hk12 o0 x1 x3 x4 P_420 h _ _ _ (lv_sub hl [0, 1, 3, 4] rfl) w
              · replace h := br_n q h
                refine lv_aload_n hx hb dX3_readCondition_32 rfl (lv_at hl 0 rfl) ?_
                refine lv_iload_n hx hb dX3_readCondition_33 rfl (lv_at hl 1 rfl) ?_
                replace h := bd_e h
                obtain ⟨r_425, P_424, hc_426, h⟩ := h
                replace h := ck_e h
                obtain ⟨hk_427, h⟩ := h
                refine cc_v (cr_V (As := [.int x1]) (rest := []) cx (hsO P_411 P_424 o0 x1 r_425 hc_426) kT4 hk_427 (cwV 1 hts (uG uw_X3_readOne ul_RX3_101 ui_X3_readOne us_RX3_X3_readOne un_RX3) rfl rfl rfl ud_X3_readOne ⟨rm_X3_rd, rl_X3_rd⟩) w rfl hl.1 rfl (Nat.le_of_ble_eq_true rfl) dX3_readCondition_34 ⟨(Nat.le_of_ble_eq_true rfl), (Nat.le_of_ble_eq_true rfl)⟩) (fun H locs w => ?_)
                refine lv_aload_n hx hb dX3_readCondition_37 rfl (lv_at hl 0 rfl) ?_
                refine lv_bipush (v := (22 : Int32)) hx hb dX3_readCondition_38 (by decide) ?_
                refine lv_iconst (v := (0 : Int32)) hx hb dX3_readCondition_40 (by decide) ?_
                replace h := bd_e h
                obtain ⟨r_429, P_428, hc_430, h⟩ := h
                replace h := ck_e h
                obtain ⟨hk_431, h⟩ := h
                refine cc_v (cr_V (As := [.int (22 : Int32), .int (0 : Int32)]) (rest := []) cx (hcc_X3_put l D cs t0  P_424 P_428 o0 (22 : Int32) (0 : Int32) r_429 hc_430) kT4 hk_431 (cwV 2 hts (uG uw_X3_put ul_RX3_104 ui_X3_put us_RX3_X3_put un_RX3) rfl rfl rfl ud_X3_put ⟨Nat.le_trans (Nat.le_of_ble_eq_true rfl) (Nat.le_add_right _ _), Nat.le_trans (Nat.le_of_ble_eq_true rfl) (Nat.le_add_right _ _)⟩) w rfl hl.1 rfl (Nat.le_of_ble_eq_true rfl) dX3_readCondition_41 ⟨(Nat.le_of_ble_eq_true rfl), (Nat.le_of_ble_eq_true rfl)⟩) (fun H locs w => ?_)
                refine lv_goto (tgt := 79) hx hb dX3_readCondition_44 (by decide) ?_
                exact J79 k12 hk12 o0 x1 x2 x3 x4 P_428 h _ _ _ (lv_sub hl [0, 1, 2, 3, 4] rfl) w
      have hP0 : P0 = P0 := rfl
      unfold hmb_X3_readCondition at h
      refine lv_iconst (v := (0 : Int32)) hx hb dX3_readCondition_0 (by decide) ?_
      replace h := lt_e h
      obtain ⟨x2_532, ex2_532, h⟩ := h
      refine top_i ex2_532 ?_
      refine lv_istore_n (lv' := [(2, .int x2_532), (0, .ref th), (1, .int a1)]) hx hb dX3_readCondition_1 rfl hl (by decide) (rfl) (fun ls hl => ?_)
      refine lv_aload_n hx hb dX3_readCondition_2 rfl (lv_at hl 1 rfl) ?_
      refine lv_iload_n hx hb dX3_readCondition_3 rfl (lv_at hl 2 rfl) ?_
      replace h := bd_e h
      obtain ⟨r_534, P_533, hc_535, h⟩ := h
      replace h := ck_e h
      obtain ⟨hk_536, h⟩ := h
      refine cc_v (cr_V (As := [.int a1]) (rest := []) cx (hsO P0 P_533 th a1 r_534 hc_535) kT4 hk_536 (cwV 1 hts (uG uw_X3_readOne ul_RX3_101 ui_X3_readOne us_RX3_X3_readOne un_RX3) rfl rfl rfl ud_X3_readOne ⟨rm_X3_rd, rl_X3_rd⟩) w rfl hl.1 rfl (Nat.le_of_ble_eq_true rfl) dX3_readCondition_4 ⟨(Nat.le_of_ble_eq_true rfl), (Nat.le_of_ble_eq_true rfl)⟩) (fun H locs w => ?_)
      refine lv_iconst (v := (1 : Int32)) hx hb dX3_readCondition_7 (by decide) ?_
      replace h := lt_e h
      obtain ⟨x3_537, ex3_537, h⟩ := h
      refine top_i ex3_537 ?_
      refine lv_istore_n (lv' := [(3, .int x3_537), (2, .int x2_532), (0, .ref th), (1, .int a1)]) hx hb dX3_readCondition_8 rfl hl (by decide) (rfl) (fun ls hl => ?_)
      refine lv_iconst (v := (0 : Int32)) hx hb dX3_readCondition_9 (by decide) ?_
      replace h := lt_e h
      obtain ⟨x4_538, ex4_538, h⟩ := h
      refine top_i ex4_538 ?_
      refine lv_istore (lv' := [(4, .int x4_538), (3, .int x3_537), (2, .int x2_532), (0, .ref th), (1, .int a1)]) hx hb dX3_readCondition_10 hl (by decide) (rfl) (fun ls hl => ?_)
      exact L12  4000 th a1 x2_532 x3_537 x4_538 P_533 h _ _ _ (lv_sub hl [3, 4, 2, 1, 0] rfl) w
def hm_X3_readClause_37 (t0 : TS) (o0 : Nat) (x1 : Int32) (x2 : Int32) (P : PS) : Option (Option Nat × PS) := ck (kk P o0 4) (lt_ (pIu P o0 5 (0 : Int32)) (fun P_102 => bd (hm_X3_rd t0 16 false P_102 o0 (0 : Int32)) (fun _ P_103 => lt_ (pZ P_103) (fun z_107 => lt_ (pNew P_103 2 0) (fun P_108 => ck (kk P_108 o0 4) (nn (pR P_108 o0 1) (fun b_110 => bd (hm_J7_copyOf_59c91  P_108 b_110 (if (pI P_108 o0 5) < (0 : Int32) then (0 : Int32) else (pI P_108 o0 5))) (fun o_112 P_111 => nn o_112 (fun b_114 => bd (hm_X1_init  P_111 z_107 x1 x2 b_114) (fun _ P_115 => some ((some z_107), P_115)))))))))))
def hm_X3_readClause (t0 : TS) (P : PS) (th : Nat) : Option (Option Nat × PS) := bd (hm_X3_readSort t0  P th) (fun r_219 P_218 => ck (kk P th 4) (lt_ ((0 : Int32)) (fun x2_222 => if r_219 = (2 : Int32) then (bd (hm_X3_pick  P_218 th 3) (fun r_224 P_223 => ck (kk P_218 th 4) (ck (kk P_223 th 4) (lt_ (pIu P_223 th 6 ((pI P_223 th 6) ||| ((1 : Int32) <<< (r_224 &&& 31)))) (fun P_228 => bd (hm_X3_expectAll t0  P_228 th 8) (fun _ P_229 => hm_X3_readClause_37 t0  th r_219 r_224 P_229)))))) else (hm_X3_readClause_37 t0  th r_219 x2_222 P_218))))
abbrev wu_X3_readClause : List Cond := .code yX3_readClause cX3_readClause 3 (some (.object "HeardWords$Clause")) :: wsL_law
theorem ud_X3_readClause : yX3_readClause.cls = RX3 ∧ yX3_readClause.cls ≠ "java/lang/invoke/MethodHandle" ∧ yX3_readClause.cls ≠ "java/lang/invoke/VarHandle" ∧ (parseMethodDescriptor yX3_readClause.desc).map (fun d => d.parameters.length) = some 0 := by decide +kernel
abbrev rmc_X3_readClause : Room := { frames := 23, cells := 2, slots := 103, locals := 561 }
set_option maxHeartbeats 4000000 in
set_option maxRecDepth 100000 in
theorem hcc_X3_readClause (l : Launch) (D : va_G) (cs : Nat → ClassId) (t0 : TS) (P0 T : PS) (th : Nat) (r0 : Option Nat) (h : hm_X3_readClause t0 P0 th = some (r0, T)) : MetCQ l yX3_readClause wu_X3_readClause rmc_X3_readClause D cs t0 [.ref th] P0 T r0 2 103 := by
  refine co_start (own := RX3) (ty := (some (.object "HeardWords$Clause"))) (cc := cX3_readClause) (maxL := 3) ⟨by decide, rfl⟩ rfl (Nat.le_of_ble_eq_true rfl) ?_
  intro p e s m args below meth c ls cx hnm hl w
  have hx := cx.1
  have hb := cx.2.1
  have hts := cx.2.2.2.1
  have hown := cx.2.2.2.2.1
  have hml := cx.2.2.2.2.2.2
  have hsub : ∀ w ∈ wsL_law, w ∈ wu_X3_readClause := fun _ hq => List.mem_cons_of_mem _ hq
  have hl : lv_has ls 3 [(0, .ref th)] := hl
  have J37 : ∀ (o0 : Nat) (x1 : Int32) (x2 : Int32) (P : PS), hm_X3_readClause_37 t0  o0 x1 x2 P = some (r0, T) → cGo p l e rmc_X3_readClause s m args below meth c 3 D cs t0 (pA P0) (cQQ below D cs P0 args s 2 103 r0 T) 0 0 37 [(0, .ref o0), (1, .int x1), (2, .int x2)] [] P := by
    intro o0 x1 x2 P h H locs ls hl w
    unfold hm_X3_readClause_37 at h
    refine lv_aload_n hx hb dX3_readClause_37 rfl (lv_at hl 0 rfl) ?_
    refine lv_iconst (v := (0 : Int32)) hx hb dX3_readClause_38 (by decide) ?_
    replace h := ck_e h
    obtain ⟨hk_101, h⟩ := h
    replace h := lt_e h
    obtain ⟨P_102, eP_102, h⟩ := h
    refine cw_putI cx hsub w kT4 hk_101 5 eP_102 ⟨by decide, by decide, rfl⟩ (Or.inl rfl) ⟨hsub _ uf_RX3_67, Or.inl rfl⟩ dX3_readClause_39 (fun H locs w => ?_)
    refine lv_aload_n hx hb dX3_readClause_42 rfl (lv_at hl 0 rfl) ?_
    refine lv_iconst (v := (0 : Int32)) hx hb dX3_readClause_43 (by decide) ?_
    replace h := bd_e h
    obtain ⟨r_104, P_103, hc_105, h⟩ := h
    have hk_106 : kk P_102 o0 4 = true := by rw [eP_102]; exact hk_101
    refine cc_v (cr_V (As := [.int (0 : Int32)]) (rest := []) cx ((hcc_X3_rd l D cs t0 16).2 P_102 P_103 o0 (0 : Int32) r_104 hc_105) kT4 hk_106 (cwV 1 hts (uG uw_X3_readCondition ul_RX3_70 ui_X3_readCondition us_RX3_X3_readCondition un_RX3) rfl rfl rfl ud_X3_readCondition ⟨Nat.le_of_ble_eq_true rfl, Nat.le_of_ble_eq_true rfl⟩) w rfl hl.1 rfl (Nat.le_of_ble_eq_true rfl) dX3_readClause_44 ⟨(Nat.le_of_ble_eq_true rfl), (Nat.le_of_ble_eq_true rfl)⟩) (fun H locs w => ?_)
    replace h := lt_e h
    obtain ⟨z_107, ez_107, h⟩ := h
    replace h := lt_e h
    obtain ⟨P_108, eP_108, h⟩ := h
    refine cw_new cx hsub w kT2 eP_108 (by decide +kernel) (hsub _ ucl_RX3_74) (hsub _ uin_RX1) (hsub _ un_RX1) (Nat.le_of_ble_eq_true rfl) (Nat.le_of_ble_eq_true rfl) dX3_readClause_47 (fun H w => ?_)
    have hkz_107 : kk P_108 z_107 2 = true := by rw [ez_107]; exact kk_new eP_108
    rw [← ez_107]
    refine lv_dup hx hb dX3_readClause_50 rfl ?_
    refine lv_iload_n hx hb dX3_readClause_51 rfl (lv_at hl 1 rfl) ?_
    refine lv_iload_n hx hb dX3_readClause_52 rfl (lv_at hl 2 rfl) ?_
    refine lv_aload_n hx hb dX3_readClause_53 rfl (lv_at hl 0 rfl) ?_
    replace h := ck_e h
    obtain ⟨hk_109, h⟩ := h
    replace h := nn_e h
    obtain ⟨b_110, hbb_110, h⟩ := h
    refine cw_getS cx hsub w kT4 hk_109 1 (by decide) hbb_110 ⟨hsub _ uf_RX3_15, Or.inl rfl⟩ dX3_readClause_54 ?_
    refine lv_aload_n hx hb dX3_readClause_57 rfl (lv_at hl 0 rfl) ?_
    refine cw_getI cx hsub w kT4 hk_109 5 (by decide) ⟨hsub _ uf_RX3_67, Or.inl rfl⟩ dX3_readClause_58 ?_
    refine lv_iconst (v := (0 : Int32)) hx hb dX3_readClause_61 (by decide) ?_
    refine cw_max cx hsub hl.1 ul_RX3_76 (Nat.le_of_ble_eq_true rfl) (Nat.le_of_ble_eq_true rfl) (Nat.le_of_ble_eq_true rfl) (Nat.le_of_ble_eq_true rfl) dX3_readClause_62 ?_
    replace h := bd_e h
    obtain ⟨o_112, P_111, hc_113, h⟩ := h
    refine cc_q (cr_S (As := [.ref b_110, .int (if (pI P_108 o0 5) < (0 : Int32) then (0 : Int32) else (pI P_108 o0 5))]) (rest := [.int x2, .int x1, .ref z_107, .ref z_107]) cx (hcc_J7_copyOf_59c91 l D cs t0  P_108 P_111 b_110 (if (pI P_108 o0 5) < (0 : Int32) then (0 : Int32) else (pI P_108 o0 5)) o_112 hc_113) (va_cwS 2 hts (uGS uw_J7_copyOf_59c91 ul_RX3_82 ut_J7_copyOf_59c91 un_RJ7) rfl rfl rfl ud_J7_copyOf_59c91.2 ⟨Nat.le_of_ble_eq_true rfl, Nat.le_of_ble_eq_true rfl⟩) w rfl hl.1 rfl (Nat.le_of_ble_eq_true rfl) dX3_readClause_65 ⟨(Nat.le_of_ble_eq_true rfl), (Nat.le_of_ble_eq_true rfl)⟩) (fun H locs w => ?_)
    replace h := nn_e h
    obtain ⟨b_114, hbb_114, h⟩ := h
    subst hbb_114
    have hl : lv_has ls 3 [(0, .ref o0), (1, .int x1), (2, .int x2)] := hl
    refine W.eq (g2 := F0 m _ ls [.ref b_114, .int x2, .int x1, .ref z_107, .ref z_107]) rfl ?_
    replace h := bd_e h
    obtain ⟨r_116, P_115, hc_117, h⟩ := h
    refine cc_v (cr_I (As := [.int x1, .int x2, .ref b_114]) (rest := [.ref z_107]) cx (hcc_X1_init l D cs t0  P_111 P_115 z_107 x1 x2 b_114 r_116 hc_117) (cwI 3 hts (uGB uw_X1_init) rfl rfl rfl (hts _ (hsub _ un_RX1)) (hts _ (hsub _ ul_RX3_88)) (hts _ (hsub _ ui_X1_init)) rfl ud_X1_init.2 ⟨Nat.le_of_ble_eq_true rfl, Nat.le_of_ble_eq_true rfl⟩) w rfl hl.1 rfl (Nat.le_of_ble_eq_true rfl) dX3_readClause_68 ⟨(Nat.le_of_ble_eq_true rfl), (Nat.le_of_ble_eq_true rfl)⟩) (fun H locs w => ?_)
    refine W.widen (k := 2) (n := 103) (Nat.le_of_ble_eq_true rfl) (Nat.le_of_ble_eq_true rfl) ?_
    exact cw_aret cx (by first | exact Or.inl ⟨_, rfl⟩ | exact Or.inr ⟨_, rfl⟩) (v := (some z_107)) (rt_e h) w dX3_readClause_71
  have hP0 : P0 = P0 := rfl
  unfold hm_X3_readClause at h
  refine lv_aload_n hx hb dX3_readClause_0 rfl (lv_at hl 0 rfl) ?_
  replace h := bd_e h
  obtain ⟨r_219, P_218, hc_220, h⟩ := h
  replace h := ck_e h
  obtain ⟨hk_221, h⟩ := h
  refine cc_i (cr_V (As := []) (rest := []) cx (hcc_X3_readSort l D cs t0  P0 P_218 th r_219 hc_220) kT4 hk_221 (cwV 0 hts (uG uw_X3_readSort ul_RX3_51 ui_X3_readSort us_RX3_X3_readSort un_RX3) rfl rfl rfl ud_X3_readSort ⟨Nat.le_of_ble_eq_true rfl, Nat.le_of_ble_eq_true rfl⟩) w rfl hl.1 rfl (Nat.le_of_ble_eq_true rfl) dX3_readClause_1 ⟨(Nat.le_of_ble_eq_true rfl), (Nat.le_of_ble_eq_true rfl)⟩) (fun H locs w => ?_)
  refine lv_istore_n (lv' := [(1, .int r_219), (0, .ref th)]) hx hb dX3_readClause_4 rfl hl (by decide) (rfl) (fun ls hl => ?_)
  refine lv_iconst (v := (0 : Int32)) hx hb dX3_readClause_5 (by decide) ?_
  replace h := lt_e h
  obtain ⟨x2_222, ex2_222, h⟩ := h
  refine top_i ex2_222 ?_
  refine lv_istore_n (lv' := [(2, .int x2_222), (1, .int r_219), (0, .ref th)]) hx hb dX3_readClause_6 rfl hl (by decide) (rfl) (fun ls hl => ?_)
  refine lv_iload_n hx hb dX3_readClause_7 rfl (lv_at hl 1 rfl) ?_
  refine lv_iconst (v := (2 : Int32)) hx hb dX3_readClause_8 (by decide) ?_
  refine lv_icmp_ne (tgt := 37) hx hb dX3_readClause_9 (by decide) (fun q => ?_) (fun q => ?_)
  · replace h := br_n q h
    refine W.widen (k := 0) (n := 0) (Nat.le_of_ble_eq_true rfl) (Nat.le_of_ble_eq_true rfl) ?_
    exact J37  th r_219 x2_222 P_218 h _ _ _ (lv_sub hl [2, 1, 0] rfl) w
  · replace h := br_p q h
    refine lv_aload_n hx hb dX3_readClause_12 rfl (lv_at hl 2 rfl) ?_
    refine cw_ldcS cx w 3 rfl dX3_readClause_13 ?_
    replace h := bd_e h
    obtain ⟨r_224, P_223, hc_225, h⟩ := h
    replace h := ck_e h
    obtain ⟨hk_226, h⟩ := h
    refine cc_i (cr_V (As := [.ref (t0.2.2.1 3)]) (rest := []) cx (hcc_X3_pick l D cs t0  P_218 P_223 th 3 r_224 hc_225) kT4 hk_226 (cwV 1 hts (uG uw_X3_pick ul_RX3_57 ui_X3_pick us_RX3_X3_pick un_RX3) rfl rfl rfl ud_X3_pick ⟨Nat.le_of_ble_eq_true rfl, Nat.le_of_ble_eq_true rfl⟩) w rfl hl.1 rfl (Nat.le_of_ble_eq_true rfl) dX3_readClause_15 ⟨(Nat.le_of_ble_eq_true rfl), (Nat.le_of_ble_eq_true rfl)⟩) (fun H locs w => ?_)
    refine lv_istore_n (lv' := [(2, .int r_224), (1, .int r_219), (0, .ref th)]) hx hb dX3_readClause_18 rfl hl (by decide) (rfl) (fun ls hl => ?_)
    refine lv_aload_n hx hb dX3_readClause_19 rfl (lv_at hl 2 rfl) ?_
    refine lv_dup hx hb dX3_readClause_20 rfl ?_
    replace h := ck_e h
    obtain ⟨hk_227, h⟩ := h
    refine cw_getI cx hsub w kT4 hk_227 6 (by decide) ⟨hsub _ uf_RX3_30, Or.inl rfl⟩ dX3_readClause_21 ?_
    refine lv_iconst (v := (1 : Int32)) hx hb dX3_readClause_24 (by decide) ?_
    refine lv_iload_n hx hb dX3_readClause_25 rfl (lv_at hl 0 rfl) ?_
    refine lv_ishl hx hb dX3_readClause_26 ?_
    refine lv_ior hx hb dX3_readClause_27 ?_
    replace h := lt_e h
    obtain ⟨P_228, eP_228, h⟩ := h
    refine cw_putI cx hsub w kT4 hk_227 6 eP_228 ⟨by decide, by decide, rfl⟩ (Or.inl rfl) ⟨hsub _ uf_RX3_30, Or.inl rfl⟩ dX3_readClause_28 (fun H locs w => ?_)
    refine lv_aload_n hx hb dX3_readClause_31 rfl (lv_at hl 2 rfl) ?_
    refine cw_ldcS cx w 8 rfl dX3_readClause_32 ?_
    replace h := bd_e h
    obtain ⟨r_230, P_229, hc_231, h⟩ := h
    have hk_232 : kk P_228 th 4 = true := by rw [eP_228]; exact hk_227
    refine cc_v (cr_V (As := [.ref (t0.2.2.1 8)]) (rest := []) cx (hcc_X3_expectAll l D cs t0  P_228 P_229 th 8 r_230 hc_231) kT4 hk_232 (cwV 1 hts (uG uw_X3_expectAll ul_RX3_63 ui_X3_expectAll us_RX3_X3_expectAll un_RX3) rfl rfl rfl ud_X3_expectAll ⟨Nat.le_of_ble_eq_true rfl, Nat.le_of_ble_eq_true rfl⟩) w rfl hl.1 rfl (Nat.le_of_ble_eq_true rfl) dX3_readClause_34 ⟨(Nat.le_of_ble_eq_true rfl), (Nat.le_of_ble_eq_true rfl)⟩) (fun H locs w => ?_)
    refine W.widen (k := 0) (n := 0) (Nat.le_of_ble_eq_true rfl) (Nat.le_of_ble_eq_true rfl) ?_
    exact J37  th r_219 r_224 P_229 h _ _ _ (lv_sub hl [2, 1, 0] rfl) w
def hm_X3_readRule_74 (t0 : TS) (k31 : Nat → Nat → Int32 → Int32 → PS → Option (Option Nat × PS)) (o0 : Nat) (o3 : Nat) (x5 : Int32) (sv0 : Int32) (P : PS) : Option (Option Nat × PS) := lt_ (x5 + (1 : Int32)) (fun x5_101 => k31 o0 o3 sv0 x5_101 P)
def hm_X3_readRule_73 (t0 : TS) (k31 : Nat → Nat → Int32 → Int32 → PS → Option (Option Nat × PS)) (o0 : Nat) (o3 : Nat) (x5 : Int32) (P : PS) : Option (Option Nat × PS) := hm_X3_readRule_74 t0 k31 o0 o3 x5 (0 : Int32) P
def hm_X3_readRule_108 (t0 : TS)  (P : PS) : Option (Option Nat × PS) := some (none, P)
def hm_X3_readRule_82 (t0 : TS) (o0 : Nat) (o3 : Nat) (P : PS) : Option (Option Nat × PS) := ck (kk P o0 4) (ck (kk P o3 5) (lt_ (pIu P o3 6 (pI P o0 6)) (fun P_404 => if (pI P_404 o0 4) = (0 : Int32) then (if (pI P_404 o0 2) ≤ (pI P_404 o0 3) then (some ((some o3), P_404)) else (hm_X3_readRule_108 t0   P_404)) else (hm_X3_readRule_108 t0   P_404))))
def hm_X3_readRule_31 (t0 : TS) (k31 : Nat → Nat → Int32 → Int32 → PS → Option (Option Nat × PS)) (o0 : Nat) (o3 : Nat) (x4 : Int32) (x5 : Int32) (P : PS) : Option (Option Nat × PS) := if (6 : Int32) ≤ x5 then (hm_X3_readRule_82 t0  o0 o3 P) else (if x4 = (0 : Int32) then (hm_X3_readRule_82 t0  o0 o3 P) else (bd (hm_X3_readClause t0  P o0) (fun o_507 P_506 => ck (kk P o0 4) (nn o_507 (fun b_510 => bd (hm_X4_add t0  P_506 o3 b_510) (fun _ P_511 => ck (kk P_506 o3 5) (if (6 : Int32) ≤ (x5 + (1 : Int32)) then (hm_X3_readRule_73 t0 k31 o0 o3 x5 P_511) else (bd (hm_X3_accept  P_511 o0 (59 : Int32)) (fun r_516 P_515 => ck (kk P_511 o0 4) (if r_516 = (0 : Int32) then (hm_X3_readRule_73 t0 k31 o0 o3 x5 P_515) else (hm_X3_readRule_74 t0 k31 o0 o3 x5 (1 : Int32) P_515)))))))))))
def hm_X3_readRule_31L (t0 : TS) : Nat → Nat → Nat → Int32 → Int32 → PS → Option (Option Nat × PS)
  | 0, _, _, _, _, _ => none
  | n + 1, o0, o3, x4, x5, P => hm_X3_readRule_31 t0  (hm_X3_readRule_31L t0  n) o0 o3 x4 x5 P
def hm_X3_readRule (t0 : TS) (P : PS) (th : Nat) (a1 : Int32) (a2 : Int32) : Option (Option Nat × PS) := ck (kk P th 4) (lt_ (pIu P th 3 (0 : Int32)) (fun P_620 => lt_ (pIu P_620 th 4 (0 : Int32)) (fun P_622 => lt_ (pIu P_622 th 6 (0 : Int32)) (fun P_624 => lt_ (pZ P_624) (fun z_625 => lt_ (pNew P_624 5 0) (fun P_626 => bd (hm_X4_init t0  P_626 z_625 a1 a2) (fun _ P_627 => lt_ ((1 : Int32)) (fun x4_630 => lt_ ((0 : Int32)) (fun x5_631 => hm_X3_readRule_31L t0  8 th z_625 x4_630 x5_631 P_627)))))))))
abbrev wu_X3_readRule : List Cond := .code yX3_readRule cX3_readRule 6 (some (.object "HeardWords$Rule")) :: wsL_law
theorem ud_X3_readRule : yX3_readRule.cls = RX3 ∧ yX3_readRule.cls ≠ "java/lang/invoke/MethodHandle" ∧ yX3_readRule.cls ≠ "java/lang/invoke/VarHandle" ∧ (parseMethodDescriptor yX3_readRule.desc).map (fun d => d.parameters.length) = some 2 := by decide +kernel
abbrev rmc_X3_readRule : Room := { frames := 24, cells := 50, slots := 2682, locals := 583 }
set_option maxHeartbeats 4000000 in
set_option maxRecDepth 100000 in
theorem hcc_X3_readRule (l : Launch) (D : va_G) (cs : Nat → ClassId) (t0 : TS) (P0 T : PS) (th : Nat) (a1 : Int32) (a2 : Int32) (r0 : Option Nat) (h : hm_X3_readRule t0 P0 th a1 a2 = some (r0, T)) : MetCQ l yX3_readRule wu_X3_readRule rmc_X3_readRule D cs t0 [.ref th, .int a1, .int a2] P0 T r0 50 2682 := by
  refine co_start (own := RX3) (ty := (some (.object "HeardWords$Rule"))) (cc := cX3_readRule) (maxL := 6) ⟨by decide, rfl⟩ rfl (Nat.le_of_ble_eq_true rfl) ?_
  intro p e s m args below meth c ls cx hnm hl w
  have hx := cx.1
  have hb := cx.2.1
  have hts := cx.2.2.2.1
  have hown := cx.2.2.2.2.1
  have hml := cx.2.2.2.2.2.2
  have hsub : ∀ w ∈ wsL_law, w ∈ wu_X3_readRule := fun _ hq => List.mem_cons_of_mem _ hq
  have hl : lv_has ls 6 [(0, .ref th), (1, .int a1), (2, .int a2)] := hl
  have J74 : ∀ (nA : Nat) (hnA : nA + 1 ≤ 8) (k31 : Nat → Nat → Int32 → Int32 → PS → Option (Option Nat × PS)) (hk31 : ∀ (o0 : Nat) (o3 : Nat) (x4 : Int32) (x5 : Int32) (P : PS), k31 o0 o3 x4 x5 P = some (r0, T) → cGo p l e rmc_X3_readRule s m args below meth c 6 D cs t0 (pA P0) (cQQ below D cs P0 args s 50 2682 r0 T) (2 + (8 - nA) * 3) (10 + (8 - nA) * 167) 31 [(0, .ref o0), (3, .ref o3), (4, .int x4), (5, .int x5)] [] P) (o0 : Nat) (o3 : Nat) (x5 : Int32) (sv0 : Int32) (P : PS), hm_X3_readRule_74 t0 k31 o0 o3 x5 sv0 P = some (r0, T) → cGo p l e rmc_X3_readRule s m args below meth c 6 D cs t0 (pA P0) (cQQ below D cs P0 args s 50 2682 r0 T) (5 + (8 - (nA + 1)) * 3) (177 + (8 - (nA + 1)) * 167) 74 [(0, .ref o0), (3, .ref o3), (5, .int x5)] [.int sv0] P := by
    intro nA hnA k31 hk31 o0 o3 x5 sv0 P h H locs ls hl w
    unfold hm_X3_readRule_74 at h
    refine lv_istore (lv' := [(4, .int sv0), (0, .ref o0), (3, .ref o3), (5, .int x5)]) hx hb dX3_readRule_74 hl (by decide) (rfl) (fun ls hl => ?_)
    replace h := lt_e h
    obtain ⟨x5_101, ex5_101, h⟩ := h
    refine lv_iinc (v := x5_101) (lv' := [(5, .int x5_101), (4, .int sv0), (0, .ref o0), (3, .ref o3)]) hx hb dX3_readRule_76 hl (k := 3) rfl (by rw [ex5_101]; rfl) (by decide) (rfl) (fun ls hl => ?_)
    refine lv_goto (tgt := 31) hx hb dX3_readRule_79 (by decide) ?_
    refine W.widen (k := (2 + (8 - nA) * 3)) (n := (10 + (8 - nA) * 167)) (by omega) (by omega) ?_
    exact hk31 o0 o3 sv0 x5_101 P h _ _ _ (lv_sub hl [2, 3, 1, 0] rfl) w
  have J73 : ∀ (nA : Nat) (hnA : nA + 1 ≤ 8) (k31 : Nat → Nat → Int32 → Int32 → PS → Option (Option Nat × PS)) (hk31 : ∀ (o0 : Nat) (o3 : Nat) (x4 : Int32) (x5 : Int32) (P : PS), k31 o0 o3 x4 x5 P = some (r0, T) → cGo p l e rmc_X3_readRule s m args below meth c 6 D cs t0 (pA P0) (cQQ below D cs P0 args s 50 2682 r0 T) (2 + (8 - nA) * 3) (10 + (8 - nA) * 167) 31 [(0, .ref o0), (3, .ref o3), (4, .int x4), (5, .int x5)] [] P) (o0 : Nat) (o3 : Nat) (x5 : Int32) (P : PS), hm_X3_readRule_73 t0 k31 o0 o3 x5 P = some (r0, T) → cGo p l e rmc_X3_readRule s m args below meth c 6 D cs t0 (pA P0) (cQQ below D cs P0 args s 50 2682 r0 T) (5 + (8 - (nA + 1)) * 3) (177 + (8 - (nA + 1)) * 167) 73 [(0, .ref o0), (3, .ref o3), (5, .int x5)] [] P := by
    intro nA hnA k31 hk31 o0 o3 x5 P h H locs ls hl w
    unfold hm_X3_readRule_73 at h
    refine lv_iconst (v := (0 : Int32)) hx hb dX3_readRule_73 (by decide) ?_
    refine W.widen (k := (5 + (8 - (nA + 1)) * 3)) (n := (177 + (8 - (nA + 1)) * 167)) (by omega) (by omega) ?_
    exact J74 nA hnA k31 hk31 o0 o3 x5 (0 : Int32) P h _ _ _ (lv_sub hl [0, 1, 2] rfl) w
  have J108 : ∀  (P : PS), hm_X3_readRule_108 t0   P = some (r0, T) → cGo p l e rmc_X3_readRule s m args below meth c 6 D cs t0 (pA P0) (cQQ below D cs P0 args s 50 2682 r0 T) 26 1346 108 [] [] P := by
    intro  P h H locs ls hl w
    unfold hm_X3_readRule_108 at h
    refine lv_null hx hb dX3_readRule_108 ?_
    refine lv_goto (tgt := 113) hx hb dX3_readRule_109 (by decide) ?_
    refine W.widen (k := 50) (n := 2682) (by omega) (by omega) ?_
    exact cw_aret cx (by first | exact Or.inl ⟨_, rfl⟩ | exact Or.inr ⟨_, rfl⟩) (v := none) (rt_e h) w dX3_readRule_113
  have J82 : ∀ (o0 : Nat) (o3 : Nat) (P : PS), hm_X3_readRule_82 t0  o0 o3 P = some (r0, T) → cGo p l e rmc_X3_readRule s m args below meth c 6 D cs t0 (pA P0) (cQQ below D cs P0 args s 50 2682 r0 T) 26 1346 82 [(0, .ref o0), (3, .ref o3)] [] P := by
    intro o0 o3 P h H locs ls hl w
    unfold hm_X3_readRule_82 at h
    refine lv_aload_n hx hb dX3_readRule_82 rfl (lv_at hl 1 rfl) ?_
    refine lv_aload_n hx hb dX3_readRule_83 rfl (lv_at hl 0 rfl) ?_
    replace h := ck_e h
    obtain ⟨hk_402, h⟩ := h
    refine cw_getI cx hsub w kT4 hk_402 6 (by decide) ⟨hsub _ uf_RX3_30, Or.inl rfl⟩ dX3_readRule_84 ?_
    replace h := ck_e h
    obtain ⟨hk_403, h⟩ := h
    replace h := lt_e h
    obtain ⟨P_404, eP_404, h⟩ := h
    refine cw_putI cx hsub w kT5 hk_403 6 eP_404 ⟨by decide, by decide, rfl⟩ (Or.inl rfl) ⟨hsub _ uf_RX3_50, Or.inl rfl⟩ dX3_readRule_87 (fun H locs w => ?_)
    refine lv_aload_n hx hb dX3_readRule_90 rfl (lv_at hl 0 rfl) ?_
    have hk_405 : kk P_404 o0 4 = true := by rw [eP_404]; exact hk_402
    refine cw_getI cx hsub w kT4 hk_405 4 (by decide) ⟨hsub _ uf_RX3_26, Or.inl rfl⟩ dX3_readRule_91 ?_
    refine lv_if_ne (tgt := 108) hx hb dX3_readRule_94 (by decide) (fun q => ?_) (fun q => ?_)
    · replace h := br_n q h
      refine W.widen (k := 26) (n := 1346) (by omega) (by omega) ?_
      exact J108   P_404 h _ _ _ (lv_sub hl [] rfl) w
    · replace h := br_p q h
      refine lv_aload_n hx hb dX3_readRule_97 rfl (lv_at hl 0 rfl) ?_
      refine cw_getI cx hsub w kT4 hk_405 3 (by decide) ⟨hsub _ uf_RX3_23, Or.inl rfl⟩ dX3_readRule_98 ?_
      refine lv_aload_n hx hb dX3_readRule_101 rfl (lv_at hl 0 rfl) ?_
      refine cw_getI cx hsub w kT4 hk_405 2 (by decide) ⟨hsub _ uf_RX3_19, Or.inl rfl⟩ dX3_readRule_102 ?_
      refine lv_icmp_ge (tgt := 112) hx hb dX3_readRule_105 (by decide) (fun q => ?_) (fun q => ?_)
      · replace h := br_p q h
        refine lv_aload_n hx hb dX3_readRule_112 rfl (lv_at hl 1 rfl) ?_
        refine W.widen (k := 50) (n := 2682) (by omega) (by omega) ?_
        exact cw_aret cx (by first | exact Or.inl ⟨_, rfl⟩ | exact Or.inr ⟨_, rfl⟩) (v := (some o3)) (rt_e h) w dX3_readRule_113
      · replace h := br_n q h
        refine W.widen (k := 26) (n := 1346) (by omega) (by omega) ?_
        exact J108   P_404 h _ _ _ (lv_sub hl [] rfl) w
  have L31 : ∀ (n : Nat) (hle : n ≤ 8) (o0 : Nat) (o3 : Nat) (x4 : Int32) (x5 : Int32) (P : PS), hm_X3_readRule_31L t0  n o0 o3 x4 x5 P = some (r0, T) → cGo p l e rmc_X3_readRule s m args below meth c 6 D cs t0 (pA P0) (cQQ below D cs P0 args s 50 2682 r0 T) (2 + (8 - n) * 3) (10 + (8 - n) * 167) 31 [(0, .ref o0), (3, .ref o3), (4, .int x4), (5, .int x5)] [] P := by
    intro n
    induction n with
    | zero =>
      intro hle o0 o3 x4 x5 P h
      have h : none = some (r0, T) := h
      cases h
    | succ n hk31 =>
      intro hle
      have hnA := hle
      replace hk31 := hk31 (by omega)
      have hnA : n + 1 ≤ 8 := hle
      intro o0 o3 x4 x5 P h H locs ls hl w
      have h : hm_X3_readRule_31 t0  (hm_X3_readRule_31L t0  n) o0 o3 x4 x5 P = some (r0, T) := h
      generalize hm_X3_readRule_31L t0  n = k31 at h hk31
      unfold hm_X3_readRule_31 at h
      refine lv_iload hx hb dX3_readRule_31 (lv_at hl 3 rfl) ?_
      refine lv_bipush (v := (6 : Int32)) hx hb dX3_readRule_33 (by decide) ?_
      refine lv_icmp_ge (tgt := 82) hx hb dX3_readRule_35 (by decide) (fun q => ?_) (fun q => ?_)
      · replace h := br_p q h
        refine W.widen (k := 26) (n := 1346) (by omega) (by omega) ?_
        exact J82  o0 o3 P h _ _ _ (lv_sub hl [0, 1] rfl) w
      · replace h := br_n q h
        refine lv_iload hx hb dX3_readRule_38 (lv_at hl 2 rfl) ?_
        refine lv_if_eq (tgt := 82) hx hb dX3_readRule_40 (by decide) (fun q => ?_) (fun q => ?_)
        · replace h := br_p q h
          refine W.widen (k := 26) (n := 1346) (by omega) (by omega) ?_
          exact J82  o0 o3 P h _ _ _ (lv_sub hl [0, 1] rfl) w
        · replace h := br_n q h
          refine lv_aload_n hx hb dX3_readRule_43 rfl (lv_at hl 1 rfl) ?_
          refine lv_aload_n hx hb dX3_readRule_44 rfl (lv_at hl 0 rfl) ?_
          replace h := bd_e h
          obtain ⟨o_507, P_506, hc_508, h⟩ := h
          replace h := ck_e h
          obtain ⟨hk_509, h⟩ := h
          refine cc_q (cr_V (As := []) (rest := [.ref o3]) cx (hcc_X3_readClause l D cs t0  P P_506 o0 o_507 hc_508) kT4 hk_509 (cwV 0 hts (uG uw_X3_readClause ul_RX3_38 ui_X3_readClause us_RX3_X3_readClause un_RX3) rfl rfl rfl ud_X3_readClause ⟨Nat.le_of_ble_eq_true rfl, Nat.le_of_ble_eq_true rfl⟩) w rfl hl.1 rfl (Nat.le_of_ble_eq_true rfl) dX3_readRule_45 ⟨(by show _ ≤ (50 : Nat); omega), (by show _ ≤ (2682 : Nat); omega)⟩) (fun H locs w => ?_)
          replace h := nn_e h
          obtain ⟨b_510, hbb_510, h⟩ := h
          subst hbb_510
          have hl : lv_has ls 6 [(0, .ref o0), (3, .ref o3), (4, .int x4), (5, .int x5)] := hl
          refine W.eq (g2 := F0 m _ ls [.ref b_510, .ref o3]) rfl ?_
          replace h := bd_e h
          obtain ⟨r_512, P_511, hc_513, h⟩ := h
          replace h := ck_e h
          obtain ⟨hk_514, h⟩ := h
          refine cc_v (cr_V (As := [.ref b_510]) (rest := []) cx (hcc_X4_add l D cs t0  P_506 P_511 o3 b_510 r_512 hc_513) kT5 hk_514 (cwV 1 hts (uG uw_X4_add ul_RX3_42 ui_X4_add us_RX4_X4_add un_RX4) rfl rfl rfl ud_X4_add ⟨Nat.le_of_ble_eq_true rfl, Nat.le_of_ble_eq_true rfl⟩) w rfl hl.1 rfl (Nat.le_of_ble_eq_true rfl) dX3_readRule_48 ⟨(by show _ ≤ (50 : Nat); omega), (by show _ ≤ (2682 : Nat); omega)⟩) (fun H locs w => ?_)
          refine lv_iload hx hb dX3_readRule_51 (lv_at hl 3 rfl) ?_
          refine lv_iconst (v := (1 : Int32)) hx hb dX3_readRule_53 (by decide) ?_
          refine lv_iadd hx hb dX3_readRule_54 ?_
          refine lv_bipush (v := (6 : Int32)) hx hb dX3_readRule_55 (by decide) ?_
          refine lv_icmp_ge (tgt := 73) hx hb dX3_readRule_57 (by decide) (fun q => ?_) (fun q => ?_)
          · replace h := br_p q h
            refine W.widen (k := (5 + (8 - (n + 1)) * 3)) (n := (177 + (8 - (n + 1)) * 167)) (by omega) (by omega) ?_
            exact J73 n hnA k31 hk31 o0 o3 x5 P_511 h _ _ _ (lv_sub hl [0, 1, 3] rfl) w
          · replace h := br_n q h
            refine lv_aload_n hx hb dX3_readRule_60 rfl (lv_at hl 0 rfl) ?_
            refine lv_bipush (v := (59 : Int32)) hx hb dX3_readRule_61 (by decide) ?_
            replace h := bd_e h
            obtain ⟨r_516, P_515, hc_517, h⟩ := h
            replace h := ck_e h
            obtain ⟨hk_518, h⟩ := h
            refine cc_i (cr_V (As := [.int (59 : Int32)]) (rest := []) cx (hcc_X3_accept l D cs t0  P_511 P_515 o0 (59 : Int32) r_516 hc_517) kT4 hk_518 (cwV 1 hts (uG uw_X3_accept ul_RX3_46 ui_X3_accept us_RX3_X3_accept un_RX3) rfl rfl rfl ud_X3_accept ⟨Nat.le_of_ble_eq_true rfl, Nat.le_of_ble_eq_true rfl⟩) w rfl hl.1 rfl (Nat.le_of_ble_eq_true rfl) dX3_readRule_63 ⟨(by show _ ≤ (50 : Nat); omega), (by show _ ≤ (2682 : Nat); omega)⟩) (fun H locs w => ?_)
            refine lv_if_eq (tgt := 73) hx hb dX3_readRule_66 (by decide) (fun q => ?_) (fun q => ?_)
            · replace h := br_p q h
              refine W.widen (k := (5 + (8 - (n + 1)) * 3)) (n := (177 + (8 - (n + 1)) * 167)) (by omega) (by omega) ?_
              exact J73 n hnA k31 hk31 o0 o3 x5 P_515 h _ _ _ (lv_sub hl [0, 1, 3] rfl) w
            · replace h := br_n q h
              refine lv_iconst (v := (1 : Int32)) hx hb dX3_readRule_69 (by decide) ?_
              refine lv_goto (tgt := 74) hx hb dX3_readRule_70 (by decide) ?_
              refine W.widen (k := (5 + (8 - (n + 1)) * 3)) (n := (177 + (8 - (n + 1)) * 167)) (by omega) (by omega) ?_
              exact J74 n hnA k31 hk31 o0 o3 x5 (1 : Int32) P_515 h _ _ _ (lv_sub hl [0, 1, 3] rfl) w
  have hP0 : P0 = P0 := rfl
  unfold hm_X3_readRule at h
  refine lv_aload_n hx hb dX3_readRule_0 rfl (lv_at hl 0 rfl) ?_
  refine lv_iconst (v := (0 : Int32)) hx hb dX3_readRule_1 (by decide) ?_
  replace h := ck_e h
  obtain ⟨hk_619, h⟩ := h
  replace h := lt_e h
  obtain ⟨P_620, eP_620, h⟩ := h
  refine cw_putI cx hsub w kT4 hk_619 3 eP_620 ⟨by decide, by decide, rfl⟩ (Or.inl rfl) ⟨hsub _ uf_RX3_23, Or.inl rfl⟩ dX3_readRule_2 (fun H locs w => ?_)
  refine lv_aload_n hx hb dX3_readRule_5 rfl (lv_at hl 0 rfl) ?_
  refine lv_iconst (v := (0 : Int32)) hx hb dX3_readRule_6 (by decide) ?_
  have hk_621 : kk P_620 th 4 = true := by rw [eP_620]; exact hk_619
  replace h := lt_e h
  obtain ⟨P_622, eP_622, h⟩ := h
  refine cw_putZ cx hsub w kT4 hk_621 4 (Or.inl rfl) eP_622 (by decide) (Or.inl rfl) ⟨hsub _ uf_RX3_26, Or.inl rfl⟩ dX3_readRule_7 (fun H locs w => ?_)
  refine lv_aload_n hx hb dX3_readRule_10 rfl (lv_at hl 0 rfl) ?_
  refine lv_iconst (v := (0 : Int32)) hx hb dX3_readRule_11 (by decide) ?_
  have hk_623 : kk P_622 th 4 = true := by rw [eP_622]; exact hk_621
  replace h := lt_e h
  obtain ⟨P_624, eP_624, h⟩ := h
  refine cw_putI cx hsub w kT4 hk_623 6 eP_624 ⟨by decide, by decide, rfl⟩ (Or.inl rfl) ⟨hsub _ uf_RX3_30, Or.inl rfl⟩ dX3_readRule_12 (fun H locs w => ?_)
  replace h := lt_e h
  obtain ⟨z_625, ez_625, h⟩ := h
  replace h := lt_e h
  obtain ⟨P_626, eP_626, h⟩ := h
  refine cw_new cx hsub w kT5 eP_626 (by decide +kernel) (hsub _ ucl_RX3_33) (hsub _ uin_RX4) (hsub _ un_RX4) (by show _ ≤ (50 : Nat); omega) (by show _ ≤ (2682 : Nat); omega) dX3_readRule_15 (fun H w => ?_)
  have hkz_625 : kk P_626 z_625 5 = true := by rw [ez_625]; exact kk_new eP_626
  rw [← ez_625]
  refine lv_dup hx hb dX3_readRule_18 rfl ?_
  refine lv_iload_n hx hb dX3_readRule_19 rfl (lv_at hl 1 rfl) ?_
  refine lv_iload_n hx hb dX3_readRule_20 rfl (lv_at hl 2 rfl) ?_
  replace h := bd_e h
  obtain ⟨r_628, P_627, hc_629, h⟩ := h
  refine cc_v (cr_I (As := [.int a1, .int a2]) (rest := [.ref z_625]) cx (hcc_X4_init l D cs t0  P_626 P_627 z_625 a1 a2 r_628 hc_629) (cwI 2 hts (uGB uw_X4_init) rfl rfl rfl (hts _ (hsub _ un_RX4)) (hts _ (hsub _ ul_RX3_35)) (hts _ (hsub _ ui_X4_init)) rfl ud_X4_init.2 ⟨Nat.le_of_ble_eq_true rfl, Nat.le_of_ble_eq_true rfl⟩) w rfl hl.1 rfl (Nat.le_of_ble_eq_true rfl) dX3_readRule_21 ⟨(by show _ ≤ (50 : Nat); omega), (by show _ ≤ (2682 : Nat); omega)⟩) (fun H locs w => ?_)
  refine lv_astore_n (lv' := [(3, .ref z_625), (0, .ref th), (1, .int a1), (2, .int a2)]) hx hb dX3_readRule_24 rfl hl (by decide) (rfl) (fun ls hl => ?_)
  refine lv_iconst (v := (1 : Int32)) hx hb dX3_readRule_25 (by decide) ?_
  replace h := lt_e h
  obtain ⟨x4_630, ex4_630, h⟩ := h
  refine top_i ex4_630 ?_
  refine lv_istore (lv' := [(4, .int x4_630), (3, .ref z_625), (0, .ref th), (1, .int a1), (2, .int a2)]) hx hb dX3_readRule_26 hl (by decide) (rfl) (fun ls hl => ?_)
  refine lv_iconst (v := (0 : Int32)) hx hb dX3_readRule_28 (by decide) ?_
  replace h := lt_e h
  obtain ⟨x5_631, ex5_631, h⟩ := h
  refine top_i ex5_631 ?_
  refine lv_istore (lv' := [(5, .int x5_631), (4, .int x4_630), (3, .ref z_625), (0, .ref th), (1, .int a1), (2, .int a2)]) hx hb dX3_readRule_29 hl (by decide) (rfl) (fun ls hl => ?_)
  refine W.widen (k := (2 + (8 - 8) * 3)) (n := (10 + (8 - 8) * 167)) (by omega) (by omega) ?_
  exact L31  8 (Nat.le_refl _) th z_625 x4_630 x5_631 P_627 h _ _ _ (lv_sub hl [3, 2, 1, 0] rfl) w
def hm_X8_rule (t0 : TS) (P : PS) (th : Nat) (a1 : Int32) : Option (Int32 × PS) := bd (hm_X8_within  P a1 (2 : Int32)) (fun r_102 P_101 => if r_102 = (0 : Int32) then (some ((-1 : Int32), P_101)) else (ck (kk P_101 th 9) (nn (pR P_101 th 2) (fun b_105 => bd (hm_Jx4a65c_size_8abf5  P_101 b_105) (fun r_107 P_106 => ck (kk P_101 b_105 0) (if r_107 < (10 : Int32) then (ck (kk P_106 th 9) (nn (pR P_106 th 3) (fun b_111 => bd (hm_X3_readRule t0  P_106 b_111 r_107 a1) (fun o_113 P_112 => ck (kk P_106 b_111 4) (ck (kk P_112 th 9) (nn (pR P_112 th 3) (fun b_117 => ck (kk P_112 b_117 4) (lt_ (pIu P_112 b_117 2 (0 : Int32)) (fun P_119 => nl o_113 (nn (pR P_119 th 3) (fun b_122 => ck (kk P_119 b_122 4) (some (((-10 : Int32) - (pI P_119 b_122 3)), P_119)))) (fun b_120 => nn (pR P_119 th 2) (fun b_125 => bd (hm_Jx4a65c_add_9ea2d t0  P_119 b_125 b_120) (fun r_127 P_126 => ck (kk P_119 b_125 0) (some (r_107, P_126)))))))))))))) else (some ((-4 : Int32), P_106))))))))
abbrev wu_X8_rule : List Cond := .code yX8_rule cX8_rule 4 (some .int) :: wsL_law
theorem ud_X8_rule : yX8_rule.cls = RX8 ∧ yX8_rule.cls ≠ "java/lang/invoke/MethodHandle" ∧ yX8_rule.cls ≠ "java/lang/invoke/VarHandle" ∧ (parseMethodDescriptor yX8_rule.desc).map (fun d => d.parameters.length) = some 1 := by decide +kernel
abbrev rmc_X8_rule : Room := { frames := 25, cells := 51, slots := 2746, locals := 608 }
set_option maxHeartbeats 4000000 in
set_option maxRecDepth 100000 in
theorem hcc_X8_rule (l : Launch) (D : va_G) (cs : Nat → ClassId) (t0 : TS) (P0 T : PS) (th : Nat) (a1 : Int32) (r0 : Int32) (h : hm_X8_rule t0 P0 th a1 = some (r0, T)) : MetCI l yX8_rule wu_X8_rule rmc_X8_rule D cs t0 [.ref th, .int a1] P0 T r0 51 2746 := by
  refine co_start (own := RX8) (ty := (some .int)) (cc := cX8_rule) (maxL := 4) ⟨by decide, rfl⟩ rfl (Nat.le_of_ble_eq_true rfl) ?_
  intro p e s m args below meth c ls cx hnm hl w
  have hx := cx.1
  have hb := cx.2.1
  have hts := cx.2.2.2.1
  have hown := cx.2.2.2.2.1
  have hml := cx.2.2.2.2.2.2
  have hsub : ∀ w ∈ wsL_law, w ∈ wu_X8_rule := fun _ hq => List.mem_cons_of_mem _ hq
  have hl : lv_has ls 4 [(0, .ref th), (1, .int a1)] := hl
  have hP0 : P0 = P0 := rfl
  unfold hm_X8_rule at h
  refine lv_iload_n hx hb dX8_rule_0 rfl (lv_at hl 1 rfl) ?_
  refine lv_iconst (v := (2 : Int32)) hx hb dX8_rule_1 (by decide) ?_
  replace h := bd_e h
  obtain ⟨r_102, P_101, hc_103, h⟩ := h
  refine cc_i (cr_S (As := [.int a1, .int (2 : Int32)]) (rest := []) cx (hcc_X8_within l D cs t0  P0 P_101 a1 (2 : Int32) r_102 hc_103) (va_cwS 2 hts (uGS uw_X8_within ul_RX8_72 ut_X8_within un_RX8) rfl rfl rfl ud_X8_within.2 ⟨Nat.le_of_ble_eq_true rfl, Nat.le_of_ble_eq_true rfl⟩) w rfl hl.1 rfl (Nat.le_of_ble_eq_true rfl) dX8_rule_2 ⟨(Nat.le_of_ble_eq_true rfl), (Nat.le_of_ble_eq_true rfl)⟩) (fun H locs w => ?_)
  refine lv_if_ne (tgt := 10) hx hb dX8_rule_5 (by decide) (fun q => ?_) (fun q => ?_)
  · replace h := br_n q h
    refine lv_aload_n hx hb dX8_rule_10 rfl (lv_at hl 0 rfl) ?_
    replace h := ck_e h
    obtain ⟨hk_104, h⟩ := h
    replace h := nn_e h
    obtain ⟨b_105, hbb_105, h⟩ := h
    refine cw_getS cx hsub w kT9 hk_104 2 (by decide) hbb_105 ⟨hsub _ uf_RX8_24, Or.inl rfl⟩ dX8_rule_11 ?_
    replace h := bd_e h
    obtain ⟨r_107, P_106, hc_108, h⟩ := h
    replace h := ck_e h
    obtain ⟨hk_109, h⟩ := h
    refine cc_i (cr_V (As := []) (rest := []) cx (hcc_Jx4a65c_size_8abf5 l D cs t0  P_101 P_106 b_105 r_107 hc_108) kT0 hk_109 (cwV 0 hts (uG uw_Jx4a65c_size_8abf5 ul_RX8_80 ui_Jx4a65c_size_8abf5 us_RJx4a65c_Jx4a65c_size_8abf5 un_RJx4a65c) rfl rfl rfl ud_Jx4a65c_size_8abf5 ⟨Nat.le_of_ble_eq_true rfl, Nat.le_of_ble_eq_true rfl⟩) w rfl hl.1 rfl (Nat.le_of_ble_eq_true rfl) dX8_rule_14 ⟨(Nat.le_of_ble_eq_true rfl), (Nat.le_of_ble_eq_true rfl)⟩) (fun H locs w => ?_)
    refine lv_istore_n (lv' := [(2, .int r_107), (0, .ref th), (1, .int a1)]) hx hb dX8_rule_17 rfl hl (by decide) (rfl) (fun ls hl => ?_)
    refine lv_iload_n hx hb dX8_rule_18 rfl (lv_at hl 0 rfl) ?_
    refine lv_bipush (v := (10 : Int32)) hx hb dX8_rule_19 (by decide) ?_
    refine lv_icmp_lt (tgt := 27) hx hb dX8_rule_21 (by decide) (fun q => ?_) (fun q => ?_)
    · replace h := br_p q h
      refine lv_aload_n hx hb dX8_rule_27 rfl (lv_at hl 1 rfl) ?_
      replace h := ck_e h
      obtain ⟨hk_110, h⟩ := h
      replace h := nn_e h
      obtain ⟨b_111, hbb_111, h⟩ := h
      refine cw_getS cx hsub w kT9 hk_110 3 (by decide) hbb_111 ⟨hsub _ uf_RX8_30, Or.inl rfl⟩ dX8_rule_28 ?_
      refine lv_iload_n hx hb dX8_rule_31 rfl (lv_at hl 0 rfl) ?_
      refine lv_iload_n hx hb dX8_rule_32 rfl (lv_at hl 2 rfl) ?_
      replace h := bd_e h
      obtain ⟨o_113, P_112, hc_114, h⟩ := h
      replace h := ck_e h
      obtain ⟨hk_115, h⟩ := h
      refine cc_q (cr_VN (As := [.int r_107, .int a1]) (rest := []) cx (hcc_X3_readRule l D cs t0  P_106 P_112 b_111 r_107 a1 o_113 hc_114) kT4 hk_115 ⟨va_cnB (host := "HeardWords") 2 hts (uGB uw_X3_readRule) rfl rfl rfl (w.2.2.2.2.2.2.1.2.1 ("HeardWords", 138, yX3_readRule, "HeardWords") (by decide +kernel)) (hts _ (hsub _ un_RX3)) ud_X3_readRule.2 ⟨Nat.le_of_ble_eq_true rfl, Nat.le_of_ble_eq_true rfl⟩, hts _ (hsub _ ui_X3_readRule), hts _ (hsub _ us_RX3_X3_readRule)⟩ w rfl hl.1 rfl (Nat.le_of_ble_eq_true rfl) dX8_rule_33 ⟨(Nat.le_of_ble_eq_true rfl), (Nat.le_of_ble_eq_true rfl)⟩) (fun H locs w => ?_)
      refine lq_astore_n (lv' := [(3, va_rf o_113), (2, .int r_107), (0, .ref th), (1, .int a1)]) hx hb dX8_rule_36 rfl hl (by decide) (fun v hv => by subst hv; exact (rfl)) (fun ls hl => ?_)
      refine lv_aload_n hx hb dX8_rule_37 rfl (lv_at hl 2 rfl) ?_
      replace h := ck_e h
      obtain ⟨hk_116, h⟩ := h
      replace h := nn_e h
      obtain ⟨b_117, hbb_117, h⟩ := h
      refine cw_getS cx hsub w kT9 hk_116 3 (by decide) hbb_117 ⟨hsub _ uf_RX8_30, Or.inl rfl⟩ dX8_rule_38 ?_
      refine lv_iconst (v := (0 : Int32)) hx hb dX8_rule_41 (by decide) ?_
      replace h := ck_e h
      obtain ⟨hk_118, h⟩ := h
      replace h := lt_e h
      obtain ⟨P_119, eP_119, h⟩ := h
      refine cw_putIN cx hsub w kT4 hk_118 2 eP_119 ⟨by decide, by decide, rfl, rfl⟩ (host := "HeardWords") (by decide +kernel) dX8_rule_42 (fun H locs w => ?_)
      refine lq_aload_n hx hb dX8_rule_45 rfl (lv_at hl 0 rfl) ?_
      cases o_113 with
      | none =>
        replace h := nl_n h
        have hl : lv_has ls 4 [(3, .null), (2, .int r_107), (0, .ref th), (1, .int a1)] := hl
        refine lv_ifnonnullN hx hb dX8_rule_46 ?_
        refine lv_bipush (v := (-10 : Int32)) hx hb dX8_rule_49 (by decide) ?_
        refine lv_aload_n hx hb dX8_rule_51 rfl (lv_at hl 2 rfl) ?_
        have hk_121 : kk P_119 th 9 = true := by rw [eP_119]; exact hk_116
        replace h := nn_e h
        obtain ⟨b_122, hbb_122, h⟩ := h
        refine cw_getS cx hsub w kT9 hk_121 3 (by decide) hbb_122 ⟨hsub _ uf_RX8_30, Or.inl rfl⟩ dX8_rule_52 ?_
        replace h := ck_e h
        obtain ⟨hk_123, h⟩ := h
        refine cw_getIN cx hsub w kT4 hk_123 3 (by decide) (host := "HeardWords") (by decide +kernel) dX8_rule_55 ?_
        refine lv_isub hx hb dX8_rule_58 ?_
        refine W.widen (k := 51) (n := 2746) (Nat.le_of_ble_eq_true rfl) (Nat.le_of_ble_eq_true rfl) ?_
        exact cw_iret cx (rt_e h) w dX8_rule_59
      | some b_120 =>
        replace h := nl_s h
        have hl : lv_has ls 4 [(3, .ref b_120), (2, .int r_107), (0, .ref th), (1, .int a1)] := hl
        refine lv_ifnonnull (tgt := 60) hx hb dX8_rule_46 (by decide) ?_
        refine lv_aload_n hx hb dX8_rule_60 rfl (lv_at hl 2 rfl) ?_
        have hk_124 : kk P_119 th 9 = true := by rw [eP_119]; exact hk_116
        replace h := nn_e h
        obtain ⟨b_125, hbb_125, h⟩ := h
        refine cw_getS cx hsub w kT9 hk_124 2 (by decide) hbb_125 ⟨hsub _ uf_RX8_24, Or.inl rfl⟩ dX8_rule_61 ?_
        refine lv_aload_n hx hb dX8_rule_64 rfl (lv_at hl 0 rfl) ?_
        replace h := bd_e h
        obtain ⟨r_127, P_126, hc_128, h⟩ := h
        replace h := ck_e h
        obtain ⟨hk_129, h⟩ := h
        refine cc_i (cr_V (As := [.ref b_120]) (rest := []) cx (hcc_Jx4a65c_add_9ea2d l D cs t0  P_119 P_126 b_125 b_120 r_127 hc_128) kT0 hk_129 (cwV 1 hts (uG uw_Jx4a65c_add_9ea2d ul_RX8_89 ui_Jx4a65c_add_9ea2d us_RJx4a65c_Jx4a65c_add_9ea2d un_RJx4a65c) rfl rfl rfl ud_Jx4a65c_add_9ea2d ⟨Nat.le_of_ble_eq_true rfl, Nat.le_of_ble_eq_true rfl⟩) w rfl hl.1 rfl (Nat.le_of_ble_eq_true rfl) dX8_rule_65 ⟨(Nat.le_of_ble_eq_true rfl), (Nat.le_of_ble_eq_true rfl)⟩) (fun H locs w => ?_)
        refine lv_pop hx hb dX8_rule_68 rfl ?_
        refine lv_iload_n hx hb dX8_rule_69 rfl (lv_at hl 1 rfl) ?_
        refine W.widen (k := 51) (n := 2746) (Nat.le_of_ble_eq_true rfl) (Nat.le_of_ble_eq_true rfl) ?_
        exact cw_iret cx (rt_e h) w dX8_rule_70
    · replace h := br_n q h
      refine lv_bipush (v := (-4 : Int32)) hx hb dX8_rule_24 (by decide) ?_
      refine W.widen (k := 51) (n := 2746) (Nat.le_of_ble_eq_true rfl) (Nat.le_of_ble_eq_true rfl) ?_
      exact cw_iret cx (rt_e h) w dX8_rule_26
  · replace h := br_p q h
    refine lv_iconst (v := (-1 : Int32)) hx hb dX8_rule_8 (by decide) ?_
    refine W.widen (k := 51) (n := 2746) (Nat.le_of_ble_eq_true rfl) (Nat.le_of_ble_eq_true rfl) ?_
    exact cw_iret cx (rt_e h) w dX8_rule_9
