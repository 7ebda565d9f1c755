def mm_in_14  (S : MS) : Option (Int32 × MS) := some ((0 : Int32), S)
def mm_in (S : MS) (a1 : Int32) (a2 : Int32) (a3 : Int32) : Option (Int32 × MS) := if a1 < a2 then (mm_in_14   S) else (if a3 < a1 then (mm_in_14   S) else (some ((1 : Int32), S)))
abbrev wu_X9_in : List Cond := .code yX9_in cX9_in 4 (some .boolean) :: wsL_law
theorem ud_X9_in : yX9_in.cls = RX9 ∧ yX9_in.cls ≠ "java/lang/invoke/MethodHandle" ∧ yX9_in.cls ≠ "java/lang/invoke/VarHandle" ∧ (parseMethodDescriptor yX9_in.desc).map (fun d => d.parameters.length) = some 3 := by decide +kernel
abbrev rmX9_in : Room := { frames := 0, cells := 0, slots := 0, locals := 0 }
set_option maxHeartbeats 4000000 in
set_option maxRecDepth 100000 in
theorem cc_in (l : Launch) (D : va_G) (cs : Nat → ClassId) (ad : Nat → Nat) (S T : MS) (a1 : Int32) (a2 : Int32) (a3 : Int32) (r0 : Int32) (h : mm_in S a1 a2 a3 = some (r0, T)) : MetI l yX9_in wu_X9_in rmX9_in D cs ad [.int a1, .int a2, .int a3] S T r0 := by
  refine mo_I (ty := .boolean) (cc := cX9_in) (maxL := 4) ⟨by decide, rfl⟩ rfl (Nat.le_of_ble_eq_true rfl) ?_
  intro p e s m args below meth c ls cx hl w
  have hx := cx.1
  have hb := cx.2.1
  have hts := cx.2.2.2.1
  have hown := cx.2.2.2.2.1
  have hl : lv_has ls 4 [(0, .ref (ad 100)), (1, .int a1), (2, .int a2), (3, .int a3)] := hl
  have J14 : ∀  (S : MS), mm_in_14   S = some (r0, T) → mGo p l e rmX9_in s m args below meth c 4 D cs ad (mQI below D cs ad args s r0 T) 14 [] [] S := by
    intro  S h H locs ls hl w
    unfold mm_in_14 at h
    refine lv_iconst (v := (0 : Int32)) hx hb dX9_in_14 (by decide) ?_
    exact mw_zret cx (Or.inl rfl) (rt_e h) w dX9_in_15
  unfold mm_in at h
  refine lv_iload_n hx hb dX9_in_0 rfl (lv_at hl 1 rfl) ?_
  refine lv_iload_n hx hb dX9_in_1 rfl (lv_at hl 2 rfl) ?_
  refine lv_icmp_lt (tgt := 14) hx hb dX9_in_2 (by decide) (fun q => ?_) (fun q => ?_)
  · have h := br_p q h
    exact J14   S h _ _ _ (lv_sub hl [] rfl) w
  · have h := br_n q h
    refine lv_iload_n hx hb dX9_in_5 rfl (lv_at hl 1 rfl) ?_
    refine lv_iload_n hx hb dX9_in_6 rfl (lv_at hl 3 rfl) ?_
    refine lv_icmp_gt (tgt := 14) hx hb dX9_in_7 (by decide) (fun q => ?_) (fun q => ?_)
    · have h := br_p q h
      exact J14   S h _ _ _ (lv_sub hl [] rfl) w
    · have h := br_n q h
      refine lv_iconst (v := (1 : Int32)) hx hb dX9_in_10 (by decide) ?_
      refine lv_goto (tgt := 15) hx hb dX9_in_11 (by decide) ?_
      exact mw_zret cx (Or.inr rfl) (rt_e h) w dX9_in_15
def mm_ones_4 (k4 : Int32 → Int32 → MS → Option (Int32 × MS)) (x2 : Int32) (x3 : Int32) (S : MS) : Option (Int32 × MS) := if x3 = (0 : Int32) then (some (x2, S)) else (lt_ (x2 + (1 : Int32)) (fun x2_101 => lt_ ((x3 &&& (x3 - (1 : Int32)))) (fun x3_102 => k4 x2_101 x3_102 S)))
def mm_ones_4L : Nat → Int32 → Int32 → MS → Option (Int32 × MS)
  | 0, _, _, _ => none
  | n + 1, x2, x3, S => mm_ones_4  (mm_ones_4L  n) x2 x3 S
def mm_ones (S : MS) (a1 : Int32) : Option (Int32 × MS) := lt_ ((0 : Int32)) (fun x2_203 => mm_ones_4L  4000 x2_203 a1 S)
abbrev wu_X9_ones : List Cond := .code yX9_ones cX9_ones 4 (some .int) :: wsL_law
theorem ud_X9_ones : yX9_ones.cls = RX9 ∧ yX9_ones.cls ≠ "java/lang/invoke/MethodHandle" ∧ yX9_ones.cls ≠ "java/lang/invoke/VarHandle" ∧ (parseMethodDescriptor yX9_ones.desc).map (fun d => d.parameters.length) = some 1 := by decide +kernel
abbrev rmX9_ones : Room := { frames := 0, cells := 0, slots := 0, locals := 0 }
set_option maxHeartbeats 4000000 in
set_option maxRecDepth 100000 in
theorem cc_ones (l : Launch) (D : va_G) (cs : Nat → ClassId) (ad : Nat → Nat) (S T : MS) (a1 : Int32) (r0 : Int32) (h : mm_ones S a1 = some (r0, T)) : MetI l yX9_ones wu_X9_ones rmX9_ones D cs ad [.int a1] S T r0 := by
  refine mo_I (ty := .int) (cc := cX9_ones) (maxL := 4) ⟨by decide, rfl⟩ rfl (Nat.le_of_ble_eq_true rfl) ?_
  intro p e s m args below meth c ls cx hl w
  have hx := cx.1
  have hb := cx.2.1
  have hts := cx.2.2.2.1
  have hown := cx.2.2.2.2.1
  have hl : lv_has ls 4 [(0, .ref (ad 100)), (1, .int a1)] := hl
  have L4 : ∀ (n : Nat) (x2 : Int32) (x3 : Int32) (S : MS), mm_ones_4L  n x2 x3 S = some (r0, T) → mGo p l e rmX9_ones s m args below meth c 4 D cs ad (mQI below D cs ad args s r0 T) 4 [(2, .int x2), (3, .int x3)] [] S := by
    intro n
    induction n with
    | zero =>
      intro x2 x3 S h
      have h : none = some (r0, T) := h
      cases h
    | succ n hk4 =>
      intro x2 x3 S h H locs ls hl w
      have h : mm_ones_4  (mm_ones_4L  n) x2 x3 S = some (r0, T) := h
      generalize mm_ones_4L  n = k4 at h hk4
      unfold mm_ones_4 at h
      refine lv_iload_n hx hb dX9_ones_4 rfl (lv_at hl 1 rfl) ?_
      refine lv_if_eq (tgt := 20) hx hb dX9_ones_5 (by decide) (fun q => ?_) (fun q => ?_)
      · have h := br_p q h
        refine lv_iload_n hx hb dX9_ones_20 rfl (lv_at hl 0 rfl) ?_
        exact mw_iret cx (rt_e h) w dX9_ones_21
      · have h := br_n q h
        obtain ⟨x2_101, ex2_101, h⟩ := lt_e h
        refine lv_iinc (v := x2_101) (lv' := [(2, .int x2_101), (3, .int x3)]) hx hb dX9_ones_8 hl (k := 0) rfl (by rw [ex2_101]; rfl) (by decide) rfl (fun ls hl => ?_)
        refine lv_iload_n hx hb dX9_ones_11 rfl (lv_at hl 1 rfl) ?_
        refine lv_iload_n hx hb dX9_ones_12 rfl (lv_at hl 1 rfl) ?_
        refine lv_iconst (v := (1 : Int32)) hx hb dX9_ones_13 (by decide) ?_
        refine lv_isub hx hb dX9_ones_14 ?_
        refine lv_iand hx hb dX9_ones_15 ?_
        obtain ⟨x3_102, ex3_102, h⟩ := lt_e h
        refine top_i ex3_102 ?_
        refine lv_istore_n (lv' := [(3, .int x3_102), (2, .int x2_101)]) hx hb dX9_ones_16 rfl hl (by decide) rfl (fun ls hl => ?_)
        refine lv_goto (tgt := 4) hx hb dX9_ones_17 (by decide) ?_
        exact hk4 x2_101 x3_102 S h _ _ _ (lv_sub hl [1, 0] rfl) w
  unfold mm_ones at h
  refine lv_iconst (v := (0 : Int32)) hx hb dX9_ones_0 (by decide) ?_
  obtain ⟨x2_203, ex2_203, h⟩ := lt_e h
  refine top_i ex2_203 ?_
  refine lv_istore_n (lv' := [(2, .int x2_203), (0, .ref (ad 100)), (1, .int a1)]) hx hb dX9_ones_1 rfl hl (by decide) rfl (fun ls hl => ?_)
  refine lv_iload_n hx hb dX9_ones_2 rfl (lv_at hl 2 rfl) ?_
  refine lv_istore_n (lv' := [(3, .int a1), (2, .int x2_203), (0, .ref (ad 100)), (1, .int a1)]) hx hb dX9_ones_3 rfl hl (by decide) rfl (fun ls hl => ?_)
  exact L4  4000 x2_203 a1 S h _ _ _ (lv_sub hl [1, 0] rfl) w
def mm_has (S : MS) (a1 : Int32) (a2 : Int32) : Option (Int32 × MS) := if ((a1 >>> (a2 &&& 31)) &&& (1 : Int32)) = (1 : Int32) then (some ((1 : Int32), S)) else (some ((0 : Int32), S))
abbrev wu_X9_has : List Cond := .code yX9_has cX9_has 3 (some .boolean) :: wsL_law
theorem ud_X9_has : yX9_has.cls = RX9 ∧ yX9_has.cls ≠ "java/lang/invoke/MethodHandle" ∧ yX9_has.cls ≠ "java/lang/invoke/VarHandle" ∧ (parseMethodDescriptor yX9_has.desc).map (fun d => d.parameters.length) = some 2 := by decide +kernel
abbrev rmX9_has : Room := { frames := 0, cells := 0, slots := 0, locals := 0 }
set_option maxHeartbeats 4000000 in
set_option maxRecDepth 100000 in
theorem cc_has (l : Launch) (D : va_G) (cs : Nat → ClassId) (ad : Nat → Nat) (S T : MS) (a1 : Int32) (a2 : Int32) (r0 : Int32) (h : mm_has S a1 a2 = some (r0, T)) : MetI l yX9_has wu_X9_has rmX9_has D cs ad [.int a1, .int a2] S T r0 := by
  refine mo_I (ty := .boolean) (cc := cX9_has) (maxL := 3) ⟨by decide, rfl⟩ rfl (Nat.le_of_ble_eq_true rfl) ?_
  intro p e s m args below meth c ls cx hl w
  have hx := cx.1
  have hb := cx.2.1
  have hts := cx.2.2.2.1
  have hown := cx.2.2.2.2.1
  have hl : lv_has ls 3 [(0, .ref (ad 100)), (1, .int a1), (2, .int a2)] := hl
  unfold mm_has at h
  refine lv_iload_n hx hb dX9_has_0 rfl (lv_at hl 1 rfl) ?_
  refine lv_iload_n hx hb dX9_has_1 rfl (lv_at hl 2 rfl) ?_
  refine lv_ishr hx hb dX9_has_2 ?_
  refine lv_iconst (v := (1 : Int32)) hx hb dX9_has_3 (by decide) ?_
  refine lv_iand hx hb dX9_has_4 ?_
  refine lv_iconst (v := (1 : Int32)) hx hb dX9_has_5 (by decide) ?_
  refine lv_icmp_ne (tgt := 13) hx hb dX9_has_6 (by decide) (fun q => ?_) (fun q => ?_)
  · have h := br_n q h
    refine lv_iconst (v := (0 : Int32)) hx hb dX9_has_13 (by decide) ?_
    exact mw_zret cx (Or.inl rfl) (rt_e h) w dX9_has_14
  · have h := br_p q h
    refine lv_iconst (v := (1 : Int32)) hx hb dX9_has_9 (by decide) ?_
    refine lv_goto (tgt := 14) hx hb dX9_has_10 (by decide) ?_
    exact mw_zret cx (Or.inr rfl) (rt_e h) w dX9_has_14
def mm_isWord (S : MS) (a1 : Int32) : Option (Int32 × MS) := bd (mm_in S a1 (0 : Int32) ((S.1 0) - (1 : Int32))) (fun r_102 S_101 => ck (z01 r_102) (some (r_102, S_101)))
abbrev wu_X9_isWord : List Cond := .code yX9_isWord cX9_isWord 2 (some .boolean) :: wsL_law
theorem ud_X9_isWord : yX9_isWord.cls = RX9 ∧ yX9_isWord.cls ≠ "java/lang/invoke/MethodHandle" ∧ yX9_isWord.cls ≠ "java/lang/invoke/VarHandle" ∧ (parseMethodDescriptor yX9_isWord.desc).map (fun d => d.parameters.length) = some 1 := by decide +kernel
abbrev rmX9_isWord : Room := { frames := 1, cells := 0, slots := 0, locals := 23 }
set_option maxHeartbeats 4000000 in
set_option maxRecDepth 100000 in
theorem cc_isWord (l : Launch) (D : va_G) (cs : Nat → ClassId) (ad : Nat → Nat) (S T : MS) (a1 : Int32) (r0 : Int32) (h : mm_isWord S a1 = some (r0, T)) : MetI l yX9_isWord wu_X9_isWord rmX9_isWord D cs ad [.int a1] S T r0 := by
  refine mo_I (ty := .boolean) (cc := cX9_isWord) (maxL := 2) ⟨by decide, rfl⟩ rfl (Nat.le_of_ble_eq_true rfl) ?_
  intro p e s m args below meth c ls cx hl w
  have hx := cx.1
  have hb := cx.2.1
  have hts := cx.2.2.2.1
  have hown := cx.2.2.2.2.1
  have hin : ∀ w ∈ wsX90, w ∈ wu_X9_isWord := fun _ hq => List.mem_cons_of_mem _ (inlX9 _ hq)
  have hl : lv_has ls 2 [(0, .ref (ad 100)), (1, .int a1)] := hl
  unfold mm_isWord at h
  refine lv_aload_n hx hb dX9_isWord_0 rfl (lv_at hl 0 rfl) ?_
  refine lv_iload_n hx hb dX9_isWord_1 rfl (lv_at hl 1 rfl) ?_
  refine lv_iconst (v := (0 : Int32)) hx hb dX9_isWord_2 (by decide) ?_
  refine lv_aload_n hx hb dX9_isWord_3 rfl (lv_at hl 0 rfl) ?_
  refine mw_getI cx hin w 0 (by decide) (List.mem_cons_of_mem _ uf_RX9_7) dX9_isWord_4 ?_
  refine lv_iconst (v := (1 : Int32)) hx hb dX9_isWord_7 (by decide) ?_
  refine lv_isub hx hb dX9_isWord_8 ?_
  obtain ⟨r_102, S_101, hc_103, h⟩ := bd_e h
  refine mw_calli (As := [.int a1, .int (0 : Int32), .int ((S.1 0) - (1 : Int32))]) (rest := []) cx (cc_in l D cs ad S S_101 a1 (0 : Int32) ((S.1 0) - (1 : Int32)) r_102 hc_103) (cwV 3 hts (uG uw_X9_in ul_RX9_133 ui_X9_in us_RX9_X9_in un_RX9) rfl rfl rfl ud_X9_in ⟨Nat.le_of_ble_eq_true rfl, Nat.le_of_ble_eq_true rfl⟩) w rfl hl.1 rfl (Nat.le_of_ble_eq_true rfl) dX9_isWord_9 (fun H locs w => ?_)
  obtain ⟨hq_104, h⟩ := ck_e h
  exact mw_zret cx (z01_e hq_104) (rt_e h) w dX9_isWord_12
def mm_isLand (S : MS) (a1 : Int32) : Option (Int32 × MS) := bd (mm_in S a1 (0 : Int32) (1 : Int32)) (fun r_102 S_101 => ck (z01 r_102) (some (r_102, S_101)))
abbrev wu_X9_isLand : List Cond := .code yX9_isLand cX9_isLand 2 (some .boolean) :: wsL_law
theorem ud_X9_isLand : yX9_isLand.cls = RX9 ∧ yX9_isLand.cls ≠ "java/lang/invoke/MethodHandle" ∧ yX9_isLand.cls ≠ "java/lang/invoke/VarHandle" ∧ (parseMethodDescriptor yX9_isLand.desc).map (fun d => d.parameters.length) = some 1 := by decide +kernel
abbrev rmX9_isLand : Room := { frames := 1, cells := 0, slots := 0, locals := 23 }
set_option maxHeartbeats 4000000 in
set_option maxRecDepth 100000 in
theorem cc_isLand (l : Launch) (D : va_G) (cs : Nat → ClassId) (ad : Nat → Nat) (S T : MS) (a1 : Int32) (r0 : Int32) (h : mm_isLand S a1 = some (r0, T)) : MetI l yX9_isLand wu_X9_isLand rmX9_isLand D cs ad [.int a1] S T r0 := by
  refine mo_I (ty := .boolean) (cc := cX9_isLand) (maxL := 2) ⟨by decide, rfl⟩ rfl (Nat.le_of_ble_eq_true rfl) ?_
  intro p e s m args below meth c ls cx hl w
  have hx := cx.1
  have hb := cx.2.1
  have hts := cx.2.2.2.1
  have hown := cx.2.2.2.2.1
  have hl : lv_has ls 2 [(0, .ref (ad 100)), (1, .int a1)] := hl
  unfold mm_isLand at h
  refine lv_aload_n hx hb dX9_isLand_0 rfl (lv_at hl 0 rfl) ?_
  refine lv_iload_n hx hb dX9_isLand_1 rfl (lv_at hl 1 rfl) ?_
  refine lv_iconst (v := (0 : Int32)) hx hb dX9_isLand_2 (by decide) ?_
  refine lv_iconst (v := (1 : Int32)) hx hb dX9_isLand_3 (by decide) ?_
  obtain ⟨r_102, S_101, hc_103, h⟩ := bd_e h
  refine mw_calli (As := [.int a1, .int (0 : Int32), .int (1 : Int32)]) (rest := []) cx (cc_in l D cs ad S S_101 a1 (0 : Int32) (1 : Int32) r_102 hc_103) (cwV 3 hts (uG uw_X9_in ul_RX9_133 ui_X9_in us_RX9_X9_in un_RX9) rfl rfl rfl ud_X9_in ⟨Nat.le_of_ble_eq_true rfl, Nat.le_of_ble_eq_true rfl⟩) w rfl hl.1 rfl (Nat.le_of_ble_eq_true rfl) dX9_isLand_4 (fun H locs w => ?_)
  obtain ⟨hq_104, h⟩ := ck_e h
  exact mw_zret cx (z01_e hq_104) (rt_e h) w dX9_isLand_7
def mm_isEnd (S : MS) (a1 : Int32) : Option (Int32 × MS) := bd (mm_in S a1 (0 : Int32) (3 : Int32)) (fun r_102 S_101 => ck (z01 r_102) (some (r_102, S_101)))
abbrev wu_X9_isEnd : List Cond := .code yX9_isEnd cX9_isEnd 2 (some .boolean) :: wsL_law
theorem ud_X9_isEnd : yX9_isEnd.cls = RX9 ∧ yX9_isEnd.cls ≠ "java/lang/invoke/MethodHandle" ∧ yX9_isEnd.cls ≠ "java/lang/invoke/VarHandle" ∧ (parseMethodDescriptor yX9_isEnd.desc).map (fun d => d.parameters.length) = some 1 := by decide +kernel
abbrev rmX9_isEnd : Room := { frames := 1, cells := 0, slots := 0, locals := 23 }
set_option maxHeartbeats 4000000 in
set_option maxRecDepth 100000 in
theorem cc_isEnd (l : Launch) (D : va_G) (cs : Nat → ClassId) (ad : Nat → Nat) (S T : MS) (a1 : Int32) (r0 : Int32) (h : mm_isEnd S a1 = some (r0, T)) : MetI l yX9_isEnd wu_X9_isEnd rmX9_isEnd D cs ad [.int a1] S T r0 := by
  refine mo_I (ty := .boolean) (cc := cX9_isEnd) (maxL := 2) ⟨by decide, rfl⟩ rfl (Nat.le_of_ble_eq_true rfl) ?_
  intro p e s m args below meth c ls cx hl w
  have hx := cx.1
  have hb := cx.2.1
  have hts := cx.2.2.2.1
  have hown := cx.2.2.2.2.1
  have hl : lv_has ls 2 [(0, .ref (ad 100)), (1, .int a1)] := hl
  unfold mm_isEnd at h
  refine lv_aload_n hx hb dX9_isEnd_0 rfl (lv_at hl 0 rfl) ?_
  refine lv_iload_n hx hb dX9_isEnd_1 rfl (lv_at hl 1 rfl) ?_
  refine lv_iconst (v := (0 : Int32)) hx hb dX9_isEnd_2 (by decide) ?_
  refine lv_iconst (v := (3 : Int32)) hx hb dX9_isEnd_3 (by decide) ?_
  obtain ⟨r_102, S_101, hc_103, h⟩ := bd_e h
  refine mw_calli (As := [.int a1, .int (0 : Int32), .int (3 : Int32)]) (rest := []) cx (cc_in l D cs ad S S_101 a1 (0 : Int32) (3 : Int32) r_102 hc_103) (cwV 3 hts (uG uw_X9_in ul_RX9_133 ui_X9_in us_RX9_X9_in un_RX9) rfl rfl rfl ud_X9_in ⟨Nat.le_of_ble_eq_true rfl, Nat.le_of_ble_eq_true rfl⟩) w rfl hl.1 rfl (Nat.le_of_ble_eq_true rfl) dX9_isEnd_4 (fun H locs w => ?_)
  obtain ⟨hq_104, h⟩ := ck_e h
  exact mw_zret cx (z01_e hq_104) (rt_e h) w dX9_isEnd_7
def mm_isUnder_9  (S : MS) : Option (Int32 × MS) := some ((1 : Int32), S)
def mm_isUnder_32  (S : MS) : Option (Int32 × MS) := some ((1 : Int32), S)
def mm_isUnder_52  (S : MS) : Option (Int32 × MS) := some ((0 : Int32), S)
def mm_isUnder (S : MS) (a1 : Int32) (a2 : Int32) : Option (Int32 × MS) := if a2 = (0 : Int32) then (mm_isUnder_9   S) else (if a1 = a2 then (mm_isUnder_9   S) else (if a2 = (1 : Int32) then (if a1 = (2 : Int32) then (mm_isUnder_32   S) else (if a1 = (5 : Int32) then (mm_isUnder_32   S) else (if a1 = (6 : Int32) then (mm_isUnder_32   S) else (some ((0 : Int32), S))))) else (if a2 = (2 : Int32) then (if a1 = (5 : Int32) then (some ((1 : Int32), S)) else (mm_isUnder_52   S)) else (mm_isUnder_52   S))))
abbrev wu_X9_isUnder : List Cond := .code yX9_isUnder cX9_isUnder 3 (some .boolean) :: wsL_law
theorem ud_X9_isUnder : yX9_isUnder.cls = RX9 ∧ yX9_isUnder.cls ≠ "java/lang/invoke/MethodHandle" ∧ yX9_isUnder.cls ≠ "java/lang/invoke/VarHandle" ∧ (parseMethodDescriptor yX9_isUnder.desc).map (fun d => d.parameters.length) = some 2 := by decide +kernel
abbrev rmX9_isUnder : Room := { frames := 0, cells := 0, slots := 0, locals := 0 }
set_option maxHeartbeats 4000000 in
set_option maxRecDepth 100000 in
theorem cc_isUnder (l : Launch) (D : va_G) (cs : Nat → ClassId) (ad : Nat → Nat) (S T : MS) (a1 : Int32) (a2 : Int32) (r0 : Int32) (h : mm_isUnder S a1 a2 = some (r0, T)) : MetI l yX9_isUnder wu_X9_isUnder rmX9_isUnder D cs ad [.int a1, .int a2] S T r0 := by
  refine mo_I (ty := .boolean) (cc := cX9_isUnder) (maxL := 3) ⟨by decide, rfl⟩ rfl (Nat.le_of_ble_eq_true rfl) ?_
  intro p e s m args below meth c ls cx hl w
  have hx := cx.1
  have hb := cx.2.1
  have hts := cx.2.2.2.1
  have hown := cx.2.2.2.2.1
  have hl : lv_has ls 3 [(0, .ref (ad 100)), (1, .int a1), (2, .int a2)] := hl
  have J9 : ∀  (S : MS), mm_isUnder_9   S = some (r0, T) → mGo p l e rmX9_isUnder s m args below meth c 3 D cs ad (mQI below D cs ad args s r0 T) 9 [] [] S := by
    intro  S h H locs ls hl w
    unfold mm_isUnder_9 at h
    refine lv_iconst (v := (1 : Int32)) hx hb dX9_isUnder_9 (by decide) ?_
    exact mw_zret cx (Or.inr rfl) (rt_e h) w dX9_isUnder_10
  have J32 : ∀  (S : MS), mm_isUnder_32   S = some (r0, T) → mGo p l e rmX9_isUnder s m args below meth c 3 D cs ad (mQI below D cs ad args s r0 T) 32 [] [] S := by
    intro  S h H locs ls hl w
    unfold mm_isUnder_32 at h
    refine lv_iconst (v := (1 : Int32)) hx hb dX9_isUnder_32 (by decide) ?_
    refine lv_goto (tgt := 37) hx hb dX9_isUnder_33 (by decide) ?_
    exact mw_zret cx (Or.inr rfl) (rt_e h) w dX9_isUnder_37
  have J52 : ∀  (S : MS), mm_isUnder_52   S = some (r0, T) → mGo p l e rmX9_isUnder s m args below meth c 3 D cs ad (mQI below D cs ad args s r0 T) 52 [] [] S := by
    intro  S h H locs ls hl w
    unfold mm_isUnder_52 at h
    refine lv_iconst (v := (0 : Int32)) hx hb dX9_isUnder_52 (by decide) ?_
    exact mw_zret cx (Or.inl rfl) (rt_e h) w dX9_isUnder_53
  unfold mm_isUnder at h
  refine lv_iload_n hx hb dX9_isUnder_0 rfl (lv_at hl 2 rfl) ?_
  refine lv_if_eq (tgt := 9) hx hb dX9_isUnder_1 (by decide) (fun q => ?_) (fun q => ?_)
  · have h := br_p q h
    exact J9   S h _ _ _ (lv_sub hl [] rfl) w
  · have h := br_n q h
    refine lv_iload_n hx hb dX9_isUnder_4 rfl (lv_at hl 1 rfl) ?_
    refine lv_iload_n hx hb dX9_isUnder_5 rfl (lv_at hl 2 rfl) ?_
    refine lv_icmp_ne (tgt := 11) hx hb dX9_isUnder_6 (by decide) (fun q => ?_) (fun q => ?_)
    · have h := br_n q h
      refine lv_iload_n hx hb dX9_isUnder_11 rfl (lv_at hl 2 rfl) ?_
      refine lv_iconst (v := (1 : Int32)) hx hb dX9_isUnder_12 (by decide) ?_
      refine lv_icmp_ne (tgt := 38) hx hb dX9_isUnder_13 (by decide) (fun q => ?_) (fun q => ?_)
      · have h := br_n q h
        refine lv_iload_n hx hb dX9_isUnder_38 rfl (lv_at hl 2 rfl) ?_
        refine lv_iconst (v := (2 : Int32)) hx hb dX9_isUnder_39 (by decide) ?_
        refine lv_icmp_ne (tgt := 52) hx hb dX9_isUnder_40 (by decide) (fun q => ?_) (fun q => ?_)
        · have h := br_n q h
          exact J52   S h _ _ _ (lv_sub hl [] rfl) w
        · have h := br_p q h
          refine lv_iload_n hx hb dX9_isUnder_43 rfl (lv_at hl 1 rfl) ?_
          refine lv_iconst (v := (5 : Int32)) hx hb dX9_isUnder_44 (by decide) ?_
          refine lv_icmp_ne (tgt := 52) hx hb dX9_isUnder_45 (by decide) (fun q => ?_) (fun q => ?_)
          · have h := br_n q h
            exact J52   S h _ _ _ (lv_sub hl [] rfl) w
          · have h := br_p q h
            refine lv_iconst (v := (1 : Int32)) hx hb dX9_isUnder_48 (by decide) ?_
            refine lv_goto (tgt := 53) hx hb dX9_isUnder_49 (by decide) ?_
            exact mw_zret cx (Or.inr rfl) (rt_e h) w dX9_isUnder_53
      · have h := br_p q h
        refine lv_iload_n hx hb dX9_isUnder_16 rfl (lv_at hl 1 rfl) ?_
        refine lv_iconst (v := (2 : Int32)) hx hb dX9_isUnder_17 (by decide) ?_
        refine lv_icmp_eq (tgt := 32) hx hb dX9_isUnder_18 (by decide) (fun q => ?_) (fun q => ?_)
        · have h := br_p q h
          exact J32   S h _ _ _ (lv_sub hl [] rfl) w
        · have h := br_n q h
          refine lv_iload_n hx hb dX9_isUnder_21 rfl (lv_at hl 1 rfl) ?_
          refine lv_iconst (v := (5 : Int32)) hx hb dX9_isUnder_22 (by decide) ?_
          refine lv_icmp_eq (tgt := 32) hx hb dX9_isUnder_23 (by decide) (fun q => ?_) (fun q => ?_)
          · have h := br_p q h
            exact J32   S h _ _ _ (lv_sub hl [] rfl) w
          · have h := br_n q h
            refine lv_iload_n hx hb dX9_isUnder_26 rfl (lv_at hl 1 rfl) ?_
            refine lv_bipush (v := (6 : Int32)) hx hb dX9_isUnder_27 (by decide) ?_
            refine lv_icmp_ne (tgt := 36) hx hb dX9_isUnder_29 (by decide) (fun q => ?_) (fun q => ?_)
            · have h := br_n q h
              refine lv_iconst (v := (0 : Int32)) hx hb dX9_isUnder_36 (by decide) ?_
              exact mw_zret cx (Or.inl rfl) (rt_e h) w dX9_isUnder_37
            · have h := br_p q h
              exact J32   S h _ _ _ (lv_sub hl [] rfl) w
    · have h := br_p q h
      exact J9   S h _ _ _ (lv_sub hl [] rfl) w
def mm_known (S : MS) (a1 : Int32) (a2 : Int32) : Option (Int32 × MS) := bd (mm_in S a1 (0 : Int32) (7 : Int32)) (fun r_102 S_101 => if r_102 = (0 : Int32) then (some ((-1 : Int32), S_101)) else (bd (mm_in S_101 a2 (0 : Int32) (63 : Int32)) (fun r_105 S_104 => if r_105 = (0 : Int32) then (some ((-2 : Int32), S_104)) else (ck (vin a1 8) (lt_ ((S_104.2.1 3 (a1).toNatClampNeg)) (fun x3_108 => ck (vin a1 8) (lt_ (mR S_104 3 (a1).toNatClampNeg a2) (fun S_110 => some (x3_108, S_110)))))))))
abbrev wu_X9_known : List Cond := .code yX9_known cX9_known 4 (some .int) :: wsL_law
theorem ud_X9_known : yX9_known.cls = RX9 ∧ yX9_known.cls ≠ "java/lang/invoke/MethodHandle" ∧ yX9_known.cls ≠ "java/lang/invoke/VarHandle" ∧ (parseMethodDescriptor yX9_known.desc).map (fun d => d.parameters.length) = some 2 := by decide +kernel
abbrev rmX9_known : Room := { frames := 1, cells := 0, slots := 0, locals := 23 }
set_option maxHeartbeats 4000000 in
set_option maxRecDepth 100000 in
theorem cc_known (l : Launch) (D : va_G) (cs : Nat → ClassId) (ad : Nat → Nat) (S T : MS) (a1 : Int32) (a2 : Int32) (r0 : Int32) (h : mm_known S a1 a2 = some (r0, T)) : MetI l yX9_known wu_X9_known rmX9_known D cs ad [.int a1, .int a2] S T r0 := by
  refine mo_I (ty := .int) (cc := cX9_known) (maxL := 4) ⟨by decide, rfl⟩ rfl (Nat.le_of_ble_eq_true rfl) ?_
  intro p e s m args below meth c ls cx hl w
  have hx := cx.1
  have hb := cx.2.1
  have hts := cx.2.2.2.1
  have hown := cx.2.2.2.2.1
  have hin : ∀ w ∈ wsX90, w ∈ wu_X9_known := fun _ hq => List.mem_cons_of_mem _ (inlX9 _ hq)
  have hl : lv_has ls 4 [(0, .ref (ad 100)), (1, .int a1), (2, .int a2)] := hl
  unfold mm_known at h
  refine lv_aload_n hx hb dX9_known_0 rfl (lv_at hl 0 rfl) ?_
  refine lv_iload_n hx hb dX9_known_1 rfl (lv_at hl 1 rfl) ?_
  refine lv_iconst (v := (0 : Int32)) hx hb dX9_known_2 (by decide) ?_
  refine lv_bipush (v := (7 : Int32)) hx hb dX9_known_3 (by decide) ?_
  obtain ⟨r_102, S_101, hc_103, h⟩ := bd_e h
  refine mw_calli (As := [.int a1, .int (0 : Int32), .int (7 : Int32)]) (rest := []) cx (cc_in l D cs ad S S_101 a1 (0 : Int32) (7 : Int32) r_102 hc_103) (cwV 3 hts (uG uw_X9_in ul_RX9_133 ui_X9_in us_RX9_X9_in un_RX9) rfl rfl rfl ud_X9_in ⟨Nat.le_of_ble_eq_true rfl, Nat.le_of_ble_eq_true rfl⟩) w rfl hl.1 rfl (Nat.le_of_ble_eq_true rfl) dX9_known_5 (fun H locs w => ?_)
  refine lv_if_ne (tgt := 13) hx hb dX9_known_8 (by decide) (fun q => ?_) (fun q => ?_)
  · have h := br_n q h
    refine lv_aload_n hx hb dX9_known_13 rfl (lv_at hl 0 rfl) ?_
    refine lv_iload_n hx hb dX9_known_14 rfl (lv_at hl 2 rfl) ?_
    refine lv_iconst (v := (0 : Int32)) hx hb dX9_known_15 (by decide) ?_
    refine lv_bipush (v := (63 : Int32)) hx hb dX9_known_16 (by decide) ?_
    obtain ⟨r_105, S_104, hc_106, h⟩ := bd_e h
    refine mw_calli (As := [.int a2, .int (0 : Int32), .int (63 : Int32)]) (rest := []) cx (cc_in l D cs ad S_101 S_104 a2 (0 : Int32) (63 : Int32) r_105 hc_106) (cwV 3 hts (uG uw_X9_in ul_RX9_133 ui_X9_in us_RX9_X9_in un_RX9) rfl rfl rfl ud_X9_in ⟨Nat.le_of_ble_eq_true rfl, Nat.le_of_ble_eq_true rfl⟩) w rfl hl.1 rfl (Nat.le_of_ble_eq_true rfl) dX9_known_18 (fun H locs w => ?_)
    refine lv_if_ne (tgt := 27) hx hb dX9_known_21 (by decide) (fun q => ?_) (fun q => ?_)
    · have h := br_n q h
      refine lv_aload_n hx hb dX9_known_27 rfl (lv_at hl 0 rfl) ?_
      refine mw_getR cx hin w 3 (by decide) (List.mem_cons_of_mem _ uf_RX9_19) dX9_known_28 ?_
      refine lv_iload_n hx hb dX9_known_31 rfl (lv_at hl 1 rfl) ?_
      obtain ⟨hq_107, h⟩ := ck_e h
      refine mw_iald cx w 0 3 8 (by decide) hq_107 dX9_known_32 ?_
      obtain ⟨x3_108, ex3_108, h⟩ := lt_e h
      refine top_i ex3_108 ?_
      refine lv_istore_n (lv' := [(3, .int x3_108), (0, .ref (ad 100)), (1, .int a1), (2, .int a2)]) hx hb dX9_known_33 rfl hl (by decide) rfl (fun ls hl => ?_)
      refine lv_aload_n hx hb dX9_known_34 rfl (lv_at hl 1 rfl) ?_
      refine mw_getR cx hin w 3 (by decide) (List.mem_cons_of_mem _ uf_RX9_19) dX9_known_35 ?_
      refine lv_iload_n hx hb dX9_known_38 rfl (lv_at hl 2 rfl) ?_
      refine lv_iload_n hx hb dX9_known_39 rfl (lv_at hl 3 rfl) ?_
      obtain ⟨hq_109, h⟩ := ck_e h
      obtain ⟨S_110, eS_110, h⟩ := lt_e h
      refine mw_iast cx w 0 3 8 (by decide) hq_109 eS_110 dX9_known_40 (fun H locs w => ?_)
      refine lv_iload_n hx hb dX9_known_41 rfl (lv_at hl 0 rfl) ?_
      exact mw_iret cx (rt_e h) w dX9_known_42
    · have h := br_p q h
      refine lv_bipush (v := (-2 : Int32)) hx hb dX9_known_24 (by decide) ?_
      exact mw_iret cx (rt_e h) w dX9_known_26
  · have h := br_p q h
    refine lv_iconst (v := (-1 : Int32)) hx hb dX9_known_11 (by decide) ?_
    exact mw_iret cx (rt_e h) w dX9_known_12
def mm_word_22  (S : MS) : Option (Int32 × MS) := some ((-1 : Int32), S)
def mm_word (S : MS) (a1 : Int32) (a2 : Int32) (a3 : Int32) : Option (Int32 × MS) := bd (mm_in S a1 (0 : Int32) (6 : Int32)) (fun r_202 S_201 => if r_202 = (0 : Int32) then (mm_word_22   S_201) else (bd (mm_in S_201 a2 (0 : Int32) (7 : Int32)) (fun r_205 S_204 => if r_205 = (0 : Int32) then (mm_word_22   S_204) else (bd (mm_in S_204 a3 (0 : Int32) (1023 : Int32)) (fun r_208 S_207 => if r_208 = (0 : Int32) then (some ((-2 : Int32), S_207)) else (if (S_207.1 0) = (14 : Int32) then (some ((-4 : Int32), S_207)) else (ck (vin (S_207.1 0) 14) (lt_ (mR S_207 4 ((S_207.1 0)).toNatClampNeg a1) (fun S_211 => ck (vin (S_211.1 0) 14) (lt_ (mR S_211 5 ((S_211.1 0)).toNatClampNeg a2) (fun S_213 => ck (vin (S_213.1 0) 14) (lt_ (mR S_213 6 ((S_213.1 0)).toNatClampNeg a3) (fun S_215 => lt_ (mP S_215 0 ((S_215.1 0) + (1 : Int32))) (fun S_216 => some (((S_216.1 0) - (1 : Int32)), S_216)))))))))))))))
abbrev wu_X9_word : List Cond := .code yX9_word cX9_word 4 (some .int) :: wsL_law
theorem ud_X9_word : yX9_word.cls = RX9 ∧ yX9_word.cls ≠ "java/lang/invoke/MethodHandle" ∧ yX9_word.cls ≠ "java/lang/invoke/VarHandle" ∧ (parseMethodDescriptor yX9_word.desc).map (fun d => d.parameters.length) = some 3 := by decide +kernel
abbrev rmX9_word : Room := { frames := 1, cells := 0, slots := 0, locals := 23 }
set_option maxHeartbeats 4000000 in
set_option maxRecDepth 100000 in
theorem cc_word (l : Launch) (D : va_G) (cs : Nat → ClassId) (ad : Nat → Nat) (S T : MS) (a1 : Int32) (a2 : Int32) (a3 : Int32) (r0 : Int32) (h : mm_word S a1 a2 a3 = some (r0, T)) : MetI l yX9_word wu_X9_word rmX9_word D cs ad [.int a1, .int a2, .int a3] S T r0 := by
  refine mo_I (ty := .int) (cc := cX9_word) (maxL := 4) ⟨by decide, rfl⟩ rfl (Nat.le_of_ble_eq_true rfl) ?_
  intro p e s m args below meth c ls cx hl w
  have hx := cx.1
  have hb := cx.2.1
  have hts := cx.2.2.2.1
  have hown := cx.2.2.2.2.1
  have hin : ∀ w ∈ wsX90, w ∈ wu_X9_word := fun _ hq => List.mem_cons_of_mem _ (inlX9 _ hq)
  have hl : lv_has ls 4 [(0, .ref (ad 100)), (1, .int a1), (2, .int a2), (3, .int a3)] := hl
  have J22 : ∀  (S : MS), mm_word_22   S = some (r0, T) → mGo p l e rmX9_word s m args below meth c 4 D cs ad (mQI below D cs ad args s r0 T) 22 [] [] S := by
    intro  S h H locs ls hl w
    unfold mm_word_22 at h
    refine lv_iconst (v := (-1 : Int32)) hx hb dX9_word_22 (by decide) ?_
    exact mw_iret cx (rt_e h) w dX9_word_23
  unfold mm_word at h
  refine lv_aload_n hx hb dX9_word_0 rfl (lv_at hl 0 rfl) ?_
  refine lv_iload_n hx hb dX9_word_1 rfl (lv_at hl 1 rfl) ?_
  refine lv_iconst (v := (0 : Int32)) hx hb dX9_word_2 (by decide) ?_
  refine lv_bipush (v := (6 : Int32)) hx hb dX9_word_3 (by decide) ?_
  obtain ⟨r_202, S_201, hc_203, h⟩ := bd_e h
  refine mw_calli (As := [.int a1, .int (0 : Int32), .int (6 : Int32)]) (rest := []) cx (cc_in l D cs ad S S_201 a1 (0 : Int32) (6 : Int32) r_202 hc_203) (cwV 3 hts (uG uw_X9_in ul_RX9_133 ui_X9_in us_RX9_X9_in un_RX9) rfl rfl rfl ud_X9_in ⟨Nat.le_of_ble_eq_true rfl, Nat.le_of_ble_eq_true rfl⟩) w rfl hl.1 rfl (Nat.le_of_ble_eq_true rfl) dX9_word_5 (fun H locs w => ?_)
  refine lv_if_eq (tgt := 22) hx hb dX9_word_8 (by decide) (fun q => ?_) (fun q => ?_)
  · have h := br_p q h
    exact J22   S_201 h _ _ _ (lv_sub hl [] rfl) w
  · have h := br_n q h
    refine lv_aload_n hx hb dX9_word_11 rfl (lv_at hl 0 rfl) ?_
    refine lv_iload_n hx hb dX9_word_12 rfl (lv_at hl 2 rfl) ?_
    refine lv_iconst (v := (0 : Int32)) hx hb dX9_word_13 (by decide) ?_
    refine lv_bipush (v := (7 : Int32)) hx hb dX9_word_14 (by decide) ?_
    obtain ⟨r_205, S_204, hc_206, h⟩ := bd_e h
    refine mw_calli (As := [.int a2, .int (0 : Int32), .int (7 : Int32)]) (rest := []) cx (cc_in l D cs ad S_201 S_204 a2 (0 : Int32) (7 : Int32) r_205 hc_206) (cwV 3 hts (uG uw_X9_in ul_RX9_133 ui_X9_in us_RX9_X9_in un_RX9) rfl rfl rfl ud_X9_in ⟨Nat.le_of_ble_eq_true rfl, Nat.le_of_ble_eq_true rfl⟩) w rfl hl.1 rfl (Nat.le_of_ble_eq_true rfl) dX9_word_16 (fun H locs w => ?_)
    refine lv_if_ne (tgt := 24) hx hb dX9_word_19 (by decide) (fun q => ?_) (fun q => ?_)
    · have h := br_n q h
      refine lv_aload_n hx hb dX9_word_24 rfl (lv_at hl 0 rfl) ?_
      refine lv_iload_n hx hb dX9_word_25 rfl (lv_at hl 3 rfl) ?_
      refine lv_iconst (v := (0 : Int32)) hx hb dX9_word_26 (by decide) ?_
      refine lv_sipush (v := (1023 : Int32)) hx hb dX9_word_27 (by decide) ?_
      obtain ⟨r_208, S_207, hc_209, h⟩ := bd_e h
      refine mw_calli (As := [.int a3, .int (0 : Int32), .int (1023 : Int32)]) (rest := []) cx (cc_in l D cs ad S_204 S_207 a3 (0 : Int32) (1023 : Int32) r_208 hc_209) (cwV 3 hts (uG uw_X9_in ul_RX9_133 ui_X9_in us_RX9_X9_in un_RX9) rfl rfl rfl ud_X9_in ⟨Nat.le_of_ble_eq_true rfl, Nat.le_of_ble_eq_true rfl⟩) w rfl hl.1 rfl (Nat.le_of_ble_eq_true rfl) dX9_word_30 (fun H locs w => ?_)
      refine lv_if_ne (tgt := 39) hx hb dX9_word_33 (by decide) (fun q => ?_) (fun q => ?_)
      · have h := br_n q h
        refine lv_aload_n hx hb dX9_word_39 rfl (lv_at hl 0 rfl) ?_
        refine mw_getI cx hin w 0 (by decide) (List.mem_cons_of_mem _ uf_RX9_7) dX9_word_40 ?_
        refine lv_bipush (v := (14 : Int32)) hx hb dX9_word_43 (by decide) ?_
        refine lv_icmp_ne (tgt := 51) hx hb dX9_word_45 (by decide) (fun q => ?_) (fun q => ?_)
        · have h := br_n q h
          refine lv_aload_n hx hb dX9_word_51 rfl (lv_at hl 0 rfl) ?_
          refine mw_getR cx hin w 4 (by decide) (List.mem_cons_of_mem _ uf_RX9_23) dX9_word_52 ?_
          refine lv_aload_n hx hb dX9_word_55 rfl (lv_at hl 0 rfl) ?_
          refine mw_getI cx hin w 0 (by decide) (List.mem_cons_of_mem _ uf_RX9_7) dX9_word_56 ?_
          refine lv_iload_n hx hb dX9_word_59 rfl (lv_at hl 1 rfl) ?_
          obtain ⟨hq_210, h⟩ := ck_e h
          obtain ⟨S_211, eS_211, h⟩ := lt_e h
          refine mw_iast cx w 1 4 14 (by decide) hq_210 eS_211 dX9_word_60 (fun H locs w => ?_)
          refine lv_aload_n hx hb dX9_word_61 rfl (lv_at hl 0 rfl) ?_
          refine mw_getR cx hin w 5 (by decide) (List.mem_cons_of_mem _ uf_RX9_26) dX9_word_62 ?_
          refine lv_aload_n hx hb dX9_word_65 rfl (lv_at hl 0 rfl) ?_
          refine mw_getI cx hin w 0 (by decide) (List.mem_cons_of_mem _ uf_RX9_7) dX9_word_66 ?_
          refine lv_iload_n hx hb dX9_word_69 rfl (lv_at hl 2 rfl) ?_
          obtain ⟨hq_212, h⟩ := ck_e h
          obtain ⟨S_213, eS_213, h⟩ := lt_e h
          refine mw_iast cx w 2 5 14 (by decide) hq_212 eS_213 dX9_word_70 (fun H locs w => ?_)
          refine lv_aload_n hx hb dX9_word_71 rfl (lv_at hl 0 rfl) ?_
          refine mw_getR cx hin w 6 (by decide) (List.mem_cons_of_mem _ uf_RX9_29) dX9_word_72 ?_
          refine lv_aload_n hx hb dX9_word_75 rfl (lv_at hl 0 rfl) ?_
          refine mw_getI cx hin w 0 (by decide) (List.mem_cons_of_mem _ uf_RX9_7) dX9_word_76 ?_
          refine lv_iload_n hx hb dX9_word_79 rfl (lv_at hl 3 rfl) ?_
          obtain ⟨hq_214, h⟩ := ck_e h
          obtain ⟨S_215, eS_215, h⟩ := lt_e h
          refine mw_iast cx w 3 6 14 (by decide) hq_214 eS_215 dX9_word_80 (fun H locs w => ?_)
          refine lv_aload_n hx hb dX9_word_81 rfl (lv_at hl 0 rfl) ?_
          refine lv_dup hx hb dX9_word_82 rfl ?_
          refine mw_getI cx hin w 0 (by decide) (List.mem_cons_of_mem _ uf_RX9_7) dX9_word_83 ?_
          refine lv_iconst (v := (1 : Int32)) hx hb dX9_word_86 (by decide) ?_
          refine lv_iadd hx hb dX9_word_87 ?_
          obtain ⟨S_216, eS_216, h⟩ := lt_e h
          refine mw_putI cx hin w 0 eS_216 (by decide +kernel) (List.mem_cons_of_mem _ uf_RX9_7) dX9_word_88 (fun H locs w => ?_)
          refine lv_aload_n hx hb dX9_word_91 rfl (lv_at hl 0 rfl) ?_
          refine mw_getI cx hin w 0 (by decide) (List.mem_cons_of_mem _ uf_RX9_7) dX9_word_92 ?_
          refine lv_iconst (v := (1 : Int32)) hx hb dX9_word_95 (by decide) ?_
          refine lv_isub hx hb dX9_word_96 ?_
          exact mw_iret cx (rt_e h) w dX9_word_97
        · have h := br_p q h
          refine lv_bipush (v := (-4 : Int32)) hx hb dX9_word_48 (by decide) ?_
          exact mw_iret cx (rt_e h) w dX9_word_50
      · have h := br_p q h
        refine lv_bipush (v := (-2 : Int32)) hx hb dX9_word_36 (by decide) ?_
        exact mw_iret cx (rt_e h) w dX9_word_38
    · have h := br_p q h
      exact J22   S_204 h _ _ _ (lv_sub hl [] rfl) w
def mm_roomOf_35  (S : MS) : Option (Int32 × MS) := some ((4 : Int32), S)
def mm_roomOf (S : MS) (a1 : Int32) : Option (Int32 × MS) := ck (vin a1 14) (if (S.2.1 4 (a1).toNatClampNeg) = (6 : Int32) then (some ((1 : Int32), S)) else (ck (vin a1 14) (if (S.2.1 4 (a1).toNatClampNeg) = (2 : Int32) then (mm_roomOf_35   S) else (ck (vin a1 14) (if (S.2.1 4 (a1).toNatClampNeg) = (5 : Int32) then (mm_roomOf_35   S) else (some ((0 : Int32), S)))))))
abbrev wu_X9_roomOf : List Cond := .code yX9_roomOf cX9_roomOf 2 (some .int) :: wsL_law
theorem ud_X9_roomOf : yX9_roomOf.cls = RX9 ∧ yX9_roomOf.cls ≠ "java/lang/invoke/MethodHandle" ∧ yX9_roomOf.cls ≠ "java/lang/invoke/VarHandle" ∧ (parseMethodDescriptor yX9_roomOf.desc).map (fun d => d.parameters.length) = some 1 := by decide +kernel
abbrev rmX9_roomOf : Room := { frames := 0, cells := 0, slots := 0, locals := 0 }
set_option maxHeartbeats 4000000 in
set_option maxRecDepth 100000 in
theorem cc_roomOf (l : Launch) (D : va_G) (cs : Nat → ClassId) (ad : Nat → Nat) (S T : MS) (a1 : Int32) (r0 : Int32) (h : mm_roomOf S a1 = some (r0, T)) : MetI l yX9_roomOf wu_X9_roomOf rmX9_roomOf D cs ad [.int a1] S T r0 := by
  refine mo_I (ty := .int) (cc := cX9_roomOf) (maxL := 2) ⟨by decide, rfl⟩ rfl (Nat.le_of_ble_eq_true rfl) ?_
  intro p e s m args below meth c ls cx hl w
  have hx := cx.1
  have hb := cx.2.1
  have hts := cx.2.2.2.1
  have hown := cx.2.2.2.2.1
  have hin : ∀ w ∈ wsX90, w ∈ wu_X9_roomOf := fun _ hq => List.mem_cons_of_mem _ (inlX9 _ hq)
  have hl : lv_has ls 2 [(0, .ref (ad 100)), (1, .int a1)] := hl
  have J35 : ∀  (S : MS), mm_roomOf_35   S = some (r0, T) → mGo p l e rmX9_roomOf s m args below meth c 2 D cs ad (mQI below D cs ad args s r0 T) 35 [] [] S := by
    intro  S h H locs ls hl w
    unfold mm_roomOf_35 at h
    refine lv_iconst (v := (4 : Int32)) hx hb dX9_roomOf_35 (by decide) ?_
    refine lv_goto (tgt := 40) hx hb dX9_roomOf_36 (by decide) ?_
    exact mw_iret cx (rt_e h) w dX9_roomOf_40
  unfold mm_roomOf at h
  refine lv_aload_n hx hb dX9_roomOf_0 rfl (lv_at hl 0 rfl) ?_
  refine mw_getR cx hin w 4 (by decide) (List.mem_cons_of_mem _ uf_RX9_23) dX9_roomOf_1 ?_
  refine lv_iload_n hx hb dX9_roomOf_4 rfl (lv_at hl 1 rfl) ?_
  obtain ⟨hq_201, h⟩ := ck_e h
  refine mw_iald cx w 1 4 14 (by decide) hq_201 dX9_roomOf_5 ?_
  refine lv_bipush (v := (6 : Int32)) hx hb dX9_roomOf_6 (by decide) ?_
  refine lv_icmp_ne (tgt := 15) hx hb dX9_roomOf_8 (by decide) (fun q => ?_) (fun q => ?_)
  · have h := br_n q h
    refine lv_aload_n hx hb dX9_roomOf_15 rfl (lv_at hl 0 rfl) ?_
    refine mw_getR cx hin w 4 (by decide) (List.mem_cons_of_mem _ uf_RX9_23) dX9_roomOf_16 ?_
    refine lv_iload_n hx hb dX9_roomOf_19 rfl (lv_at hl 1 rfl) ?_
    obtain ⟨hq_202, h⟩ := ck_e h
    refine mw_iald cx w 1 4 14 (by decide) hq_202 dX9_roomOf_20 ?_
    refine lv_iconst (v := (2 : Int32)) hx hb dX9_roomOf_21 (by decide) ?_
    refine lv_icmp_eq (tgt := 35) hx hb dX9_roomOf_22 (by decide) (fun q => ?_) (fun q => ?_)
    · have h := br_p q h
      exact J35   S h _ _ _ (lv_sub hl [] rfl) w
    · have h := br_n q h
      refine lv_aload_n hx hb dX9_roomOf_25 rfl (lv_at hl 0 rfl) ?_
      refine mw_getR cx hin w 4 (by decide) (List.mem_cons_of_mem _ uf_RX9_23) dX9_roomOf_26 ?_
      refine lv_iload_n hx hb dX9_roomOf_29 rfl (lv_at hl 1 rfl) ?_
      obtain ⟨hq_203, h⟩ := ck_e h
      refine mw_iald cx w 1 4 14 (by decide) hq_203 dX9_roomOf_30 ?_
      refine lv_iconst (v := (5 : Int32)) hx hb dX9_roomOf_31 (by decide) ?_
      refine lv_icmp_ne (tgt := 39) hx hb dX9_roomOf_32 (by decide) (fun q => ?_) (fun q => ?_)
      · have h := br_n q h
        refine lv_iconst (v := (0 : Int32)) hx hb dX9_roomOf_39 (by decide) ?_
        exact mw_iret cx (rt_e h) w dX9_roomOf_40
      · have h := br_p q h
        exact J35   S h _ _ _ (lv_sub hl [] rfl) w
  · have h := br_p q h
    refine lv_iconst (v := (1 : Int32)) hx hb dX9_roomOf_11 (by decide) ?_
    refine lv_goto (tgt := 40) hx hb dX9_roomOf_12 (by decide) ?_
    exact mw_iret cx (rt_e h) w dX9_roomOf_40
def mm_hold_16  (S : MS) : Option (Int32 × MS) := some ((-1 : Int32), S)
def mm_hold_39 (k39 : Int32 → Int32 → Int32 → MS → Option (Int32 × MS)) (x1 : Int32) (x2 : Int32) (x3 : Int32) (S : MS) : Option (Int32 × MS) := ck (vin x1 14) (if (S.2.1 7 (x1).toNatClampNeg) ≤ x3 then (ck (vin x1 14) (bd (mm_roomOf S x1) (fun r_204 S_203 => if (S.2.1 7 (x1).toNatClampNeg) = r_204 then (some ((-4 : Int32), S_203)) else (ck (vin x1 14) (ck (vin (((4 : Int32) * x1) + (S_203.2.1 7 (x1).toNatClampNeg)) 56) (lt_ (mR S_203 8 ((((4 : Int32) * x1) + (S_203.2.1 7 (x1).toNatClampNeg))).toNatClampNeg x2) (fun S_208 => ck (vin x1 14) (ck (vin x1 14) (lt_ (mR S_208 7 (x1).toNatClampNeg ((S_208.2.1 7 (x1).toNatClampNeg) + (1 : Int32))) (fun S_211 => ck (vin x1 14) (some ((S_211.2.1 7 (x1).toNatClampNeg), S_211)))))))))))) else (ck (vin (((4 : Int32) * x1) + x3) 56) (if (S.2.1 8 ((((4 : Int32) * x1) + x3)).toNatClampNeg) = x2 then (some ((-3 : Int32), S)) else (lt_ (x3 + (1 : Int32)) (fun x3_214 => k39 x1 x2 x3_214 S)))))
def mm_hold_39L : Nat → Int32 → Int32 → Int32 → MS → Option (Int32 × MS)
  | 0, _, _, _, _ => none
  | n + 1, x1, x2, x3, S => mm_hold_39  (mm_hold_39L  n) x1 x2 x3 S
def mm_hold (S : MS) (a1 : Int32) (a2 : Int32) : Option (Int32 × MS) := bd (mm_isWord S a1) (fun r_316 S_315 => if r_316 = (0 : Int32) then (mm_hold_16   S_315) else (bd (mm_isWord S_315 a2) (fun r_319 S_318 => if r_319 = (0 : Int32) then (mm_hold_16   S_318) else (if a2 < a1 then (bd (mm_roomOf S_318 a1) (fun r_322 S_321 => if r_322 = (0 : Int32) then (some ((-12 : Int32), S_321)) else (lt_ ((0 : Int32)) (fun x3_324 => mm_hold_39L  4000 a1 a2 x3_324 S_321)))) else (some ((-2 : Int32), S_318))))))
abbrev wu_X9_hold : List Cond := .code yX9_hold cX9_hold 4 (some .int) :: wsL_law
theorem ud_X9_hold : yX9_hold.cls = RX9 ∧ yX9_hold.cls ≠ "java/lang/invoke/MethodHandle" ∧ yX9_hold.cls ≠ "java/lang/invoke/VarHandle" ∧ (parseMethodDescriptor yX9_hold.desc).map (fun d => d.parameters.length) = some 2 := by decide +kernel
abbrev rmX9_hold : Room := { frames := 2, cells := 0, slots := 0, locals := 44 }
set_option maxHeartbeats 4000000 in
set_option maxRecDepth 100000 in
theorem cc_hold (l : Launch) (D : va_G) (cs : Nat → ClassId) (ad : Nat → Nat) (S T : MS) (a1 : Int32) (a2 : Int32) (r0 : Int32) (h : mm_hold S a1 a2 = some (r0, T)) : MetI l yX9_hold wu_X9_hold rmX9_hold D cs ad [.int a1, .int a2] S T r0 := by
  refine mo_I (ty := .int) (cc := cX9_hold) (maxL := 4) ⟨by decide, rfl⟩ rfl (Nat.le_of_ble_eq_true rfl) ?_
  intro p e s m args below meth c ls cx hl w
  have hx := cx.1
  have hb := cx.2.1
  have hts := cx.2.2.2.1
  have hown := cx.2.2.2.2.1
  have hin : ∀ w ∈ wsX90, w ∈ wu_X9_hold := fun _ hq => List.mem_cons_of_mem _ (inlX9 _ hq)
  have hl : lv_has ls 4 [(0, .ref (ad 100)), (1, .int a1), (2, .int a2)] := hl
  have J16 : ∀  (S : MS), mm_hold_16   S = some (r0, T) → mGo p l e rmX9_hold s m args below meth c 4 D cs ad (mQI below D cs ad args s r0 T) 16 [] [] S := by
    intro  S h H locs ls hl w
    unfold mm_hold_16 at h
    refine lv_iconst (v := (-1 : Int32)) hx hb dX9_hold_16 (by decide) ?_
    exact mw_iret cx (rt_e h) w dX9_hold_17
  have L39 : ∀ (n : Nat) (x1 : Int32) (x2 : Int32) (x3 : Int32) (S : MS), mm_hold_39L  n x1 x2 x3 S = some (r0, T) → mGo p l e rmX9_hold s m args below meth c 4 D cs ad (mQI below D cs ad args s r0 T) 39 [(0, .ref (ad 100)), (1, .int x1), (2, .int x2), (3, .int x3)] [] S := by
    intro n
    induction n with
    | zero =>
      intro x1 x2 x3 S h
      have h : none = some (r0, T) := h
      cases h
    | succ n hk39 =>
      intro x1 x2 x3 S h H locs ls hl w
      have h : mm_hold_39  (mm_hold_39L  n) x1 x2 x3 S = some (r0, T) := h
      generalize mm_hold_39L  n = k39 at h hk39
      unfold mm_hold_39 at h
      refine lv_iload_n hx hb dX9_hold_39 rfl (lv_at hl 3 rfl) ?_
      refine lv_aload_n hx hb dX9_hold_40 rfl (lv_at hl 0 rfl) ?_
      refine mw_getR cx hin w 7 (by decide) (List.mem_cons_of_mem _ uf_RX9_32) dX9_hold_41 ?_
      refine lv_iload_n hx hb dX9_hold_44 rfl (lv_at hl 1 rfl) ?_
      obtain ⟨hq_201, h⟩ := ck_e h
      refine mw_iald cx w 4 7 14 (by decide) hq_201 dX9_hold_45 ?_
      refine lv_icmp_ge (tgt := 72) hx hb dX9_hold_46 (by decide) (fun q => ?_) (fun q => ?_)
      · have h := br_p q h
        refine lv_aload_n hx hb dX9_hold_72 rfl (lv_at hl 0 rfl) ?_
        refine mw_getR cx hin w 7 (by decide) (List.mem_cons_of_mem _ uf_RX9_32) dX9_hold_73 ?_
        refine lv_iload_n hx hb dX9_hold_76 rfl (lv_at hl 1 rfl) ?_
        obtain ⟨hq_202, h⟩ := ck_e h
        refine mw_iald cx w 4 7 14 (by decide) hq_202 dX9_hold_77 ?_
        refine lv_aload_n hx hb dX9_hold_78 rfl (lv_at hl 0 rfl) ?_
        refine lv_iload_n hx hb dX9_hold_79 rfl (lv_at hl 1 rfl) ?_
        obtain ⟨r_204, S_203, hc_205, h⟩ := bd_e h
        refine mw_calli (As := [.int x1]) (rest := [.int (S.2.1 7 (x1).toNatClampNeg)]) cx (cc_roomOf l D cs ad S S_203 x1 r_204 hc_205) (cwV 1 hts (uG uw_X9_roomOf ul_RX9_141 ui_X9_roomOf us_RX9_X9_roomOf un_RX9) rfl rfl rfl ud_X9_roomOf ⟨Nat.le_of_ble_eq_true rfl, Nat.le_of_ble_eq_true rfl⟩) w rfl hl.1 rfl (Nat.le_of_ble_eq_true rfl) dX9_hold_80 (fun H locs w => ?_)
        refine lv_icmp_ne (tgt := 89) hx hb dX9_hold_83 (by decide) (fun q => ?_) (fun q => ?_)
        · have h := br_n q h
          refine lv_aload_n hx hb dX9_hold_89 rfl (lv_at hl 0 rfl) ?_
          refine mw_getR cx hin w 8 (by decide) (List.mem_cons_of_mem _ uf_RX9_35) dX9_hold_90 ?_
          refine lv_iconst (v := (4 : Int32)) hx hb dX9_hold_93 (by decide) ?_
          refine lv_iload_n hx hb dX9_hold_94 rfl (lv_at hl 1 rfl) ?_
          refine lv_imul hx hb dX9_hold_95 ?_
          refine lv_aload_n hx hb dX9_hold_96 rfl (lv_at hl 0 rfl) ?_
          refine mw_getR cx hin w 7 (by decide) (List.mem_cons_of_mem _ uf_RX9_32) dX9_hold_97 ?_
          refine lv_iload_n hx hb dX9_hold_100 rfl (lv_at hl 1 rfl) ?_
          obtain ⟨hq_206, h⟩ := ck_e h
          refine mw_iald cx w 4 7 14 (by decide) hq_206 dX9_hold_101 ?_
          refine lv_iadd hx hb dX9_hold_102 ?_
          refine lv_iload_n hx hb dX9_hold_103 rfl (lv_at hl 2 rfl) ?_
          obtain ⟨hq_207, h⟩ := ck_e h
          obtain ⟨S_208, eS_208, h⟩ := lt_e h
          refine mw_iast cx w 5 8 56 (by decide) hq_207 eS_208 dX9_hold_104 (fun H locs w => ?_)
          refine lv_aload_n hx hb dX9_hold_105 rfl (lv_at hl 0 rfl) ?_
          refine mw_getR cx hin w 7 (by decide) (List.mem_cons_of_mem _ uf_RX9_32) dX9_hold_106 ?_
          refine lv_iload_n hx hb dX9_hold_109 rfl (lv_at hl 1 rfl) ?_
          refine lv_dup2_11 hx hb dX9_hold_110 rfl rfl ?_
          obtain ⟨hq_209, h⟩ := ck_e h
          refine mw_iald cx w 4 7 14 (by decide) hq_209 dX9_hold_111 ?_
          refine lv_iconst (v := (1 : Int32)) hx hb dX9_hold_112 (by decide) ?_
          refine lv_iadd hx hb dX9_hold_113 ?_
          obtain ⟨hq_210, h⟩ := ck_e h
          obtain ⟨S_211, eS_211, h⟩ := lt_e h
          refine mw_iast cx w 4 7 14 (by decide) hq_210 eS_211 dX9_hold_114 (fun H locs w => ?_)
          refine lv_aload_n hx hb dX9_hold_115 rfl (lv_at hl 0 rfl) ?_
          refine mw_getR cx hin w 7 (by decide) (List.mem_cons_of_mem _ uf_RX9_32) dX9_hold_116 ?_
          refine lv_iload_n hx hb dX9_hold_119 rfl (lv_at hl 1 rfl) ?_
          obtain ⟨hq_212, h⟩ := ck_e h
          refine mw_iald cx w 4 7 14 (by decide) hq_212 dX9_hold_120 ?_
          exact mw_iret cx (rt_e h) w dX9_hold_121
        · have h := br_p q h
          refine lv_bipush (v := (-4 : Int32)) hx hb dX9_hold_86 (by decide) ?_
          exact mw_iret cx (rt_e h) w dX9_hold_88
      · have h := br_n q h
        refine lv_aload_n hx hb dX9_hold_49 rfl (lv_at hl 0 rfl) ?_
        refine mw_getR cx hin w 8 (by decide) (List.mem_cons_of_mem _ uf_RX9_35) dX9_hold_50 ?_
        refine lv_iconst (v := (4 : Int32)) hx hb dX9_hold_53 (by decide) ?_
        refine lv_iload_n hx hb dX9_hold_54 rfl (lv_at hl 1 rfl) ?_
        refine lv_imul hx hb dX9_hold_55 ?_
        refine lv_iload_n hx hb dX9_hold_56 rfl (lv_at hl 3 rfl) ?_
        refine lv_iadd hx hb dX9_hold_57 ?_
        obtain ⟨hq_213, h⟩ := ck_e h
        refine mw_iald cx w 5 8 56 (by decide) hq_213 dX9_hold_58 ?_
        refine lv_iload_n hx hb dX9_hold_59 rfl (lv_at hl 2 rfl) ?_
        refine lv_icmp_ne (tgt := 66) hx hb dX9_hold_60 (by decide) (fun q => ?_) (fun q => ?_)
        · have h := br_n q h
          obtain ⟨x3_214, ex3_214, h⟩ := lt_e h
          refine lv_iinc (v := x3_214) (lv' := [(3, .int x3_214), (0, .ref (ad 100)), (1, .int x1), (2, .int x2)]) hx hb dX9_hold_66 hl (k := 3) rfl (by rw [ex3_214]; rfl) (by decide) rfl (fun ls hl => ?_)
          refine lv_goto (tgt := 39) hx hb dX9_hold_69 (by decide) ?_
          exact hk39 x1 x2 x3_214 S h _ _ _ (lv_sub hl [1, 2, 3, 0] rfl) w
        · have h := br_p q h
          refine lv_bipush (v := (-3 : Int32)) hx hb dX9_hold_63 (by decide) ?_
          exact mw_iret cx (rt_e h) w dX9_hold_65
  unfold mm_hold at h
  refine lv_aload_n hx hb dX9_hold_0 rfl (lv_at hl 0 rfl) ?_
  refine lv_iload_n hx hb dX9_hold_1 rfl (lv_at hl 1 rfl) ?_
  obtain ⟨r_316, S_315, hc_317, h⟩ := bd_e h
  refine mw_calli (As := [.int a1]) (rest := []) cx (cc_isWord l D cs ad S S_315 a1 r_316 hc_317) (cwV 1 hts (uG uw_X9_isWord ul_RX9_137 ui_X9_isWord us_RX9_X9_isWord un_RX9) rfl rfl rfl ud_X9_isWord ⟨Nat.le_of_ble_eq_true rfl, Nat.le_of_ble_eq_true rfl⟩) w rfl hl.1 rfl (Nat.le_of_ble_eq_true rfl) dX9_hold_2 (fun H locs w => ?_)
  refine lv_if_eq (tgt := 16) hx hb dX9_hold_5 (by decide) (fun q => ?_) (fun q => ?_)
  · have h := br_p q h
    exact J16   S_315 h _ _ _ (lv_sub hl [] rfl) w
  · have h := br_n q h
    refine lv_aload_n hx hb dX9_hold_8 rfl (lv_at hl 0 rfl) ?_
    refine lv_iload_n hx hb dX9_hold_9 rfl (lv_at hl 2 rfl) ?_
    obtain ⟨r_319, S_318, hc_320, h⟩ := bd_e h
    refine mw_calli (As := [.int a2]) (rest := []) cx (cc_isWord l D cs ad S_315 S_318 a2 r_319 hc_320) (cwV 1 hts (uG uw_X9_isWord ul_RX9_137 ui_X9_isWord us_RX9_X9_isWord un_RX9) rfl rfl rfl ud_X9_isWord ⟨Nat.le_of_ble_eq_true rfl, Nat.le_of_ble_eq_true rfl⟩) w rfl hl.1 rfl (Nat.le_of_ble_eq_true rfl) dX9_hold_10 (fun H locs w => ?_)
    refine lv_if_ne (tgt := 18) hx hb dX9_hold_13 (by decide) (fun q => ?_) (fun q => ?_)
    · have h := br_n q h
      refine lv_iload_n hx hb dX9_hold_18 rfl (lv_at hl 2 rfl) ?_
      refine lv_iload_n hx hb dX9_hold_19 rfl (lv_at hl 1 rfl) ?_
      refine lv_icmp_lt (tgt := 26) hx hb dX9_hold_20 (by decide) (fun q => ?_) (fun q => ?_)
      · have h := br_p q h
        refine lv_aload_n hx hb dX9_hold_26 rfl (lv_at hl 0 rfl) ?_
        refine lv_iload_n hx hb dX9_hold_27 rfl (lv_at hl 1 rfl) ?_
        obtain ⟨r_322, S_321, hc_323, h⟩ := bd_e h
        refine mw_calli (As := [.int a1]) (rest := []) cx (cc_roomOf l D cs ad S_318 S_321 a1 r_322 hc_323) (cwV 1 hts (uG uw_X9_roomOf ul_RX9_141 ui_X9_roomOf us_RX9_X9_roomOf un_RX9) rfl rfl rfl ud_X9_roomOf ⟨Nat.le_of_ble_eq_true rfl, Nat.le_of_ble_eq_true rfl⟩) w rfl hl.1 rfl (Nat.le_of_ble_eq_true rfl) dX9_hold_28 (fun H locs w => ?_)
        refine lv_if_ne (tgt := 37) hx hb dX9_hold_31 (by decide) (fun q => ?_) (fun q => ?_)
        · have h := br_n q h
          refine lv_iconst (v := (0 : Int32)) hx hb dX9_hold_37 (by decide) ?_
          obtain ⟨x3_324, ex3_324, h⟩ := lt_e h
          refine top_i ex3_324 ?_
          refine lv_istore_n (lv' := [(3, .int x3_324), (0, .ref (ad 100)), (1, .int a1), (2, .int a2)]) hx hb dX9_hold_38 rfl hl (by decide) rfl (fun ls hl => ?_)
          exact L39  4000 a1 a2 x3_324 S_321 h _ _ _ (lv_sub hl [1, 2, 3, 0] rfl) w
        · have h := br_p q h
          refine lv_bipush (v := (-12 : Int32)) hx hb dX9_hold_34 (by decide) ?_
          exact mw_iret cx (rt_e h) w dX9_hold_36
      · have h := br_n q h
        refine lv_bipush (v := (-2 : Int32)) hx hb dX9_hold_23 (by decide) ?_
        exact mw_iret cx (rt_e h) w dX9_hold_25
    · have h := br_p q h
      exact J16   S_318 h _ _ _ (lv_sub hl [] rfl) w
def mm_of_19  (S : MS) : Option (Int32 × MS) := some ((-1 : Int32), S)
def mm_of (S : MS) (a1 : Int32) (a2 : Int32) : Option (Int32 × MS) := bd (mm_isWord S a1) (fun r_202 S_201 => if r_202 = (0 : Int32) then (mm_of_19   S_201) else (bd (mm_in S_201 a2 (0 : Int32) (7 : Int32)) (fun r_205 S_204 => if r_205 = (0 : Int32) then (mm_of_19   S_204) else (if a2 = (0 : Int32) then (ck (vin a1 14) (some ((S_204.2.1 4 (a1).toNatClampNeg), S_204))) else (if a2 = (1 : Int32) then (ck (vin a1 14) (some ((S_204.2.1 5 (a1).toNatClampNeg), S_204))) else (if a2 = (2 : Int32) then (ck (vin a1 14) (some ((S_204.2.1 6 (a1).toNatClampNeg), S_204))) else (if a2 = (3 : Int32) then (ck (vin a1 14) (some ((S_204.2.1 7 (a1).toNatClampNeg), S_204))) else (ck (vin a1 14) (if (S_204.2.1 7 (a1).toNatClampNeg) ≤ (a2 - (4 : Int32)) then (some ((-5 : Int32), S_204)) else (ck (vin ((((4 : Int32) * a1) + a2) - (4 : Int32)) 56) (some ((S_204.2.1 8 (((((4 : Int32) * a1) + a2) - (4 : Int32))).toNatClampNeg), S_204))))))))))))
abbrev wu_X9_of : List Cond := .code yX9_of cX9_of 3 (some .int) :: wsL_law
theorem ud_X9_of : yX9_of.cls = RX9 ∧ yX9_of.cls ≠ "java/lang/invoke/MethodHandle" ∧ yX9_of.cls ≠ "java/lang/invoke/VarHandle" ∧ (parseMethodDescriptor yX9_of.desc).map (fun d => d.parameters.length) = some 2 := by decide +kernel
abbrev rmX9_of : Room := { frames := 2, cells := 0, slots := 0, locals := 44 }
set_option maxHeartbeats 4000000 in
set_option maxRecDepth 100000 in
theorem cc_of (l : Launch) (D : va_G) (cs : Nat → ClassId) (ad : Nat → Nat) (S T : MS) (a1 : Int32) (a2 : Int32) (r0 : Int32) (h : mm_of S a1 a2 = some (r0, T)) : MetI l yX9_of wu_X9_of rmX9_of D cs ad [.int a1, .int a2] S T r0 := by
  refine mo_I (ty := .int) (cc := cX9_of) (maxL := 3) ⟨by decide, rfl⟩ rfl (Nat.le_of_ble_eq_true rfl) ?_
  intro p e s m args below meth c ls cx hl w
  have hx := cx.1
  have hb := cx.2.1
  have hts := cx.2.2.2.1
  have hown := cx.2.2.2.2.1
  have hin : ∀ w ∈ wsX90, w ∈ wu_X9_of := fun _ hq => List.mem_cons_of_mem _ (inlX9 _ hq)
  have hl : lv_has ls 3 [(0, .ref (ad 100)), (1, .int a1), (2, .int a2)] := hl
  have J19 : ∀  (S : MS), mm_of_19   S = some (r0, T) → mGo p l e rmX9_of s m args below meth c 3 D cs ad (mQI below D cs ad args s r0 T) 19 [] [] S := by
    intro  S h H locs ls hl w
    unfold mm_of_19 at h
    refine lv_iconst (v := (-1 : Int32)) hx hb dX9_of_19 (by decide) ?_
    exact mw_iret cx (rt_e h) w dX9_of_20
  unfold mm_of at h
  refine lv_aload_n hx hb dX9_of_0 rfl (lv_at hl 0 rfl) ?_
  refine lv_iload_n hx hb dX9_of_1 rfl (lv_at hl 1 rfl) ?_
  obtain ⟨r_202, S_201, hc_203, h⟩ := bd_e h
  refine mw_calli (As := [.int a1]) (rest := []) cx (cc_isWord l D cs ad S S_201 a1 r_202 hc_203) (cwV 1 hts (uG uw_X9_isWord ul_RX9_137 ui_X9_isWord us_RX9_X9_isWord un_RX9) rfl rfl rfl ud_X9_isWord ⟨Nat.le_of_ble_eq_true rfl, Nat.le_of_ble_eq_true rfl⟩) w rfl hl.1 rfl (Nat.le_of_ble_eq_true rfl) dX9_of_2 (fun H locs w => ?_)
  refine lv_if_eq (tgt := 19) hx hb dX9_of_5 (by decide) (fun q => ?_) (fun q => ?_)
  · have h := br_p q h
    exact J19   S_201 h _ _ _ (lv_sub hl [] rfl) w
  · have h := br_n q h
    refine lv_aload_n hx hb dX9_of_8 rfl (lv_at hl 0 rfl) ?_
    refine lv_iload_n hx hb dX9_of_9 rfl (lv_at hl 2 rfl) ?_
    refine lv_iconst (v := (0 : Int32)) hx hb dX9_of_10 (by decide) ?_
    refine lv_bipush (v := (7 : Int32)) hx hb dX9_of_11 (by decide) ?_
    obtain ⟨r_205, S_204, hc_206, h⟩ := bd_e h
    refine mw_calli (As := [.int a2, .int (0 : Int32), .int (7 : Int32)]) (rest := []) cx (cc_in l D cs ad S_201 S_204 a2 (0 : Int32) (7 : Int32) r_205 hc_206) (cwV 3 hts (uG uw_X9_in ul_RX9_133 ui_X9_in us_RX9_X9_in un_RX9) rfl rfl rfl ud_X9_in ⟨Nat.le_of_ble_eq_true rfl, Nat.le_of_ble_eq_true rfl⟩) w rfl hl.1 rfl (Nat.le_of_ble_eq_true rfl) dX9_of_13 (fun H locs w => ?_)
    refine lv_if_ne (tgt := 21) hx hb dX9_of_16 (by decide) (fun q => ?_) (fun q => ?_)
    · have h := br_n q h
      refine lv_iload_n hx hb dX9_of_21 rfl (lv_at hl 2 rfl) ?_
      by_cases q_207 : a2 = (0 : Int32)
      · have h := br_p q_207 h
        refine lv_tableIn (tgt := 52) hx hb dX9_of_22 (by rw [q_207]; decide) (by rw [q_207]; decide) (by rw [q_207]; rfl) (by decide) ?_
        refine lv_aload_n hx hb dX9_of_52 rfl (lv_at hl 0 rfl) ?_
        refine mw_getR cx hin w 4 (by decide) (List.mem_cons_of_mem _ uf_RX9_23) dX9_of_53 ?_
        refine lv_iload_n hx hb dX9_of_56 rfl (lv_at hl 1 rfl) ?_
        obtain ⟨hq_208, h⟩ := ck_e h
        refine mw_iald cx w 1 4 14 (by decide) hq_208 dX9_of_57 ?_
        exact mw_iret cx (rt_e h) w dX9_of_58
      have h := br_n q_207 h
      by_cases q_209 : a2 = (1 : Int32)
      · have h := br_p q_209 h
        refine lv_tableIn (tgt := 59) hx hb dX9_of_22 (by rw [q_209]; decide) (by rw [q_209]; decide) (by rw [q_209]; rfl) (by decide) ?_
        refine lv_aload_n hx hb dX9_of_59 rfl (lv_at hl 0 rfl) ?_
        refine mw_getR cx hin w 5 (by decide) (List.mem_cons_of_mem _ uf_RX9_26) dX9_of_60 ?_
        refine lv_iload_n hx hb dX9_of_63 rfl (lv_at hl 1 rfl) ?_
        obtain ⟨hq_210, h⟩ := ck_e h
        refine mw_iald cx w 2 5 14 (by decide) hq_210 dX9_of_64 ?_
        exact mw_iret cx (rt_e h) w dX9_of_65
      have h := br_n q_209 h
      by_cases q_211 : a2 = (2 : Int32)
      · have h := br_p q_211 h
        refine lv_tableIn (tgt := 66) hx hb dX9_of_22 (by rw [q_211]; decide) (by rw [q_211]; decide) (by rw [q_211]; rfl) (by decide) ?_
        refine lv_aload_n hx hb dX9_of_66 rfl (lv_at hl 0 rfl) ?_
        refine mw_getR cx hin w 6 (by decide) (List.mem_cons_of_mem _ uf_RX9_29) dX9_of_67 ?_
        refine lv_iload_n hx hb dX9_of_70 rfl (lv_at hl 1 rfl) ?_
        obtain ⟨hq_212, h⟩ := ck_e h
        refine mw_iald cx w 3 6 14 (by decide) hq_212 dX9_of_71 ?_
        exact mw_iret cx (rt_e h) w dX9_of_72
      have h := br_n q_211 h
      by_cases q_213 : a2 = (3 : Int32)
      · have h := br_p q_213 h
        refine lv_tableIn (tgt := 73) hx hb dX9_of_22 (by rw [q_213]; decide) (by rw [q_213]; decide) (by rw [q_213]; rfl) (by decide) ?_
        refine lv_aload_n hx hb dX9_of_73 rfl (lv_at hl 0 rfl) ?_
        refine mw_getR cx hin w 7 (by decide) (List.mem_cons_of_mem _ uf_RX9_32) dX9_of_74 ?_
        refine lv_iload_n hx hb dX9_of_77 rfl (lv_at hl 1 rfl) ?_
        obtain ⟨hq_214, h⟩ := ck_e h
        refine mw_iald cx w 4 7 14 (by decide) hq_214 dX9_of_78 ?_
        exact mw_iret cx (rt_e h) w dX9_of_79
      have h := br_n q_213 h
      refine lv_tableOut (tgt := 80) hx hb dX9_of_22 (by have := lv_neT q_207 (a := 0) (by decide); have := lv_neT q_209 (a := 1) (by decide); have := lv_neT q_211 (a := 2) (by decide); have := lv_neT q_213 (a := 3) (by decide); omega) (by decide) ?_
      refine lv_iload_n hx hb dX9_of_80 rfl (lv_at hl 2 rfl) ?_
      refine lv_iconst (v := (4 : Int32)) hx hb dX9_of_81 (by decide) ?_
      refine lv_isub hx hb dX9_of_82 ?_
      refine lv_aload_n hx hb dX9_of_83 rfl (lv_at hl 0 rfl) ?_
      refine mw_getR cx hin w 7 (by decide) (List.mem_cons_of_mem _ uf_RX9_32) dX9_of_84 ?_
      refine lv_iload_n hx hb dX9_of_87 rfl (lv_at hl 1 rfl) ?_
      obtain ⟨hq_215, h⟩ := ck_e h
      refine mw_iald cx w 4 7 14 (by decide) hq_215 dX9_of_88 ?_
      refine lv_icmp_ge (tgt := 107) hx hb dX9_of_89 (by decide) (fun q => ?_) (fun q => ?_)
      · have h := br_p q h
        refine lv_bipush (v := (-5 : Int32)) hx hb dX9_of_107 (by decide) ?_
        exact mw_iret cx (rt_e h) w dX9_of_109
      · have h := br_n q h
        refine lv_aload_n hx hb dX9_of_92 rfl (lv_at hl 0 rfl) ?_
        refine mw_getR cx hin w 8 (by decide) (List.mem_cons_of_mem _ uf_RX9_35) dX9_of_93 ?_
        refine lv_iconst (v := (4 : Int32)) hx hb dX9_of_96 (by decide) ?_
        refine lv_iload_n hx hb dX9_of_97 rfl (lv_at hl 1 rfl) ?_
        refine lv_imul hx hb dX9_of_98 ?_
        refine lv_iload_n hx hb dX9_of_99 rfl (lv_at hl 2 rfl) ?_
        refine lv_iadd hx hb dX9_of_100 ?_
        refine lv_iconst (v := (4 : Int32)) hx hb dX9_of_101 (by decide) ?_
        refine lv_isub hx hb dX9_of_102 ?_
        obtain ⟨hq_216, h⟩ := ck_e h
        refine mw_iald cx w 5 8 56 (by decide) hq_216 dX9_of_103 ?_
        refine lv_goto (tgt := 109) hx hb dX9_of_104 (by decide) ?_
        exact mw_iret cx (rt_e h) w dX9_of_109
    · have h := br_p q h
      exact J19   S_204 h _ _ _ (lv_sub hl [] rfl) w
def mm_show (S : MS) (a1 : Int32) : Option (Int32 × MS) := bd (mm_in S a1 (0 : Int32) (1023 : Int32)) (fun r_102 S_101 => if r_102 = (0 : Int32) then (some ((-2 : Int32), S_101)) else (lt_ ((S_101.1 1)) (fun x2_104 => lt_ (mP S_101 1 a1) (fun S_105 => some (x2_104, S_105)))))
abbrev wu_X9_show : List Cond := .code yX9_show cX9_show 3 (some .int) :: wsL_law
theorem ud_X9_show : yX9_show.cls = RX9 ∧ yX9_show.cls ≠ "java/lang/invoke/MethodHandle" ∧ yX9_show.cls ≠ "java/lang/invoke/VarHandle" ∧ (parseMethodDescriptor yX9_show.desc).map (fun d => d.parameters.length) = some 1 := by decide +kernel
abbrev rmX9_show : Room := { frames := 1, cells := 0, slots := 0, locals := 23 }
set_option maxHeartbeats 4000000 in
set_option maxRecDepth 100000 in
theorem cc_show (l : Launch) (D : va_G) (cs : Nat → ClassId) (ad : Nat → Nat) (S T : MS) (a1 : Int32) (r0 : Int32) (h : mm_show S a1 = some (r0, T)) : MetI l yX9_show wu_X9_show rmX9_show D cs ad [.int a1] S T r0 := by
  refine mo_I (ty := .int) (cc := cX9_show) (maxL := 3) ⟨by decide, rfl⟩ rfl (Nat.le_of_ble_eq_true rfl) ?_
  intro p e s m args below meth c ls cx hl w
  have hx := cx.1
  have hb := cx.2.1
  have hts := cx.2.2.2.1
  have hown := cx.2.2.2.2.1
  have hin : ∀ w ∈ wsX90, w ∈ wu_X9_show := fun _ hq => List.mem_cons_of_mem _ (inlX9 _ hq)
  have hl : lv_has ls 3 [(0, .ref (ad 100)), (1, .int a1)] := hl
  unfold mm_show at h
  refine lv_aload_n hx hb dX9_show_0 rfl (lv_at hl 0 rfl) ?_
  refine lv_iload_n hx hb dX9_show_1 rfl (lv_at hl 1 rfl) ?_
  refine lv_iconst (v := (0 : Int32)) hx hb dX9_show_2 (by decide) ?_
  refine lv_sipush (v := (1023 : Int32)) hx hb dX9_show_3 (by decide) ?_
  obtain ⟨r_102, S_101, hc_103, h⟩ := bd_e h
  refine mw_calli (As := [.int a1, .int (0 : Int32), .int (1023 : Int32)]) (rest := []) cx (cc_in l D cs ad S S_101 a1 (0 : Int32) (1023 : Int32) r_102 hc_103) (cwV 3 hts (uG uw_X9_in ul_RX9_133 ui_X9_in us_RX9_X9_in un_RX9) rfl rfl rfl ud_X9_in ⟨Nat.le_of_ble_eq_true rfl, Nat.le_of_ble_eq_true rfl⟩) w rfl hl.1 rfl (Nat.le_of_ble_eq_true rfl) dX9_show_6 (fun H locs w => ?_)
  refine lv_if_ne (tgt := 15) hx hb dX9_show_9 (by decide) (fun q => ?_) (fun q => ?_)
  · have h := br_n q h
    refine lv_aload_n hx hb dX9_show_15 rfl (lv_at hl 0 rfl) ?_
    refine mw_getI cx hin w 1 (by decide) (List.mem_cons_of_mem _ uf_RX9_13) dX9_show_16 ?_
    obtain ⟨x2_104, ex2_104, h⟩ := lt_e h
    refine top_i ex2_104 ?_
    refine lv_istore_n (lv' := [(2, .int x2_104), (0, .ref (ad 100)), (1, .int a1)]) hx hb dX9_show_19 rfl hl (by decide) rfl (fun ls hl => ?_)
    refine lv_aload_n hx hb dX9_show_20 rfl (lv_at hl 1 rfl) ?_
    refine lv_iload_n hx hb dX9_show_21 rfl (lv_at hl 2 rfl) ?_
    obtain ⟨S_105, eS_105, h⟩ := lt_e h
    refine mw_putI cx hin w 1 eS_105 (by decide +kernel) (List.mem_cons_of_mem _ uf_RX9_13) dX9_show_22 (fun H locs w => ?_)
    refine lv_iload_n hx hb dX9_show_25 rfl (lv_at hl 0 rfl) ?_
    exact mw_iret cx (rt_e h) w dX9_show_26
  · have h := br_p q h
    refine lv_bipush (v := (-2 : Int32)) hx hb dX9_show_12 (by decide) ?_
    exact mw_iret cx (rt_e h) w dX9_show_14
def mm_isRule (S : MS) (a1 : Int32) : Option (Int32 × MS) := bd (mm_in S a1 (0 : Int32) ((S.1 9) - (1 : Int32))) (fun r_102 S_101 => ck (z01 r_102) (some (r_102, S_101)))
abbrev wu_X9_isRule : List Cond := .code yX9_isRule cX9_isRule 2 (some .boolean) :: wsL_law
theorem ud_X9_isRule : yX9_isRule.cls = RX9 ∧ yX9_isRule.cls ≠ "java/lang/invoke/MethodHandle" ∧ yX9_isRule.cls ≠ "java/lang/invoke/VarHandle" ∧ (parseMethodDescriptor yX9_isRule.desc).map (fun d => d.parameters.length) = some 1 := by decide +kernel
abbrev rmX9_isRule : Room := { frames := 1, cells := 0, slots := 0, locals := 23 }
set_option maxHeartbeats 4000000 in
set_option maxRecDepth 100000 in
theorem cc_isRule (l : Launch) (D : va_G) (cs : Nat → ClassId) (ad : Nat → Nat) (S T : MS) (a1 : Int32) (r0 : Int32) (h : mm_isRule S a1 = some (r0, T)) : MetI l yX9_isRule wu_X9_isRule rmX9_isRule D cs ad [.int a1] S T r0 := by
  refine mo_I (ty := .boolean) (cc := cX9_isRule) (maxL := 2) ⟨by decide, rfl⟩ rfl (Nat.le_of_ble_eq_true rfl) ?_
  intro p e s m args below meth c ls cx hl w
  have hx := cx.1
  have hb := cx.2.1
  have hts := cx.2.2.2.1
  have hown := cx.2.2.2.2.1
  have hin : ∀ w ∈ wsX90, w ∈ wu_X9_isRule := fun _ hq => List.mem_cons_of_mem _ (inlX9 _ hq)
  have hl : lv_has ls 2 [(0, .ref (ad 100)), (1, .int a1)] := hl
  unfold mm_isRule at h
  refine lv_aload_n hx hb dX9_isRule_0 rfl (lv_at hl 0 rfl) ?_
  refine lv_iload_n hx hb dX9_isRule_1 rfl (lv_at hl 1 rfl) ?_
  refine lv_iconst (v := (0 : Int32)) hx hb dX9_isRule_2 (by decide) ?_
  refine lv_aload_n hx hb dX9_isRule_3 rfl (lv_at hl 0 rfl) ?_
  refine mw_getI cx hin w 9 (by decide) (List.mem_cons_of_mem _ uf_RX9_38) dX9_isRule_4 ?_
  refine lv_iconst (v := (1 : Int32)) hx hb dX9_isRule_7 (by decide) ?_
  refine lv_isub hx hb dX9_isRule_8 ?_
  obtain ⟨r_102, S_101, hc_103, h⟩ := bd_e h
  refine mw_calli (As := [.int a1, .int (0 : Int32), .int ((S.1 9) - (1 : Int32))]) (rest := []) cx (cc_in l D cs ad S S_101 a1 (0 : Int32) ((S.1 9) - (1 : Int32)) r_102 hc_103) (cwV 3 hts (uG uw_X9_in ul_RX9_133 ui_X9_in us_RX9_X9_in un_RX9) rfl rfl rfl ud_X9_in ⟨Nat.le_of_ble_eq_true rfl, Nat.le_of_ble_eq_true rfl⟩) w rfl hl.1 rfl (Nat.le_of_ble_eq_true rfl) dX9_isRule_9 (fun H locs w => ?_)
  obtain ⟨hq_104, h⟩ := ck_e h
  exact mw_zret cx (z01_e hq_104) (rt_e h) w dX9_isRule_12
def mm_feed_31 (k31 : Int32 → Int32 → MS → Option (Int32 × MS)) (x1 : Int32) (x3 : Int32) (S : MS) : Option (Int32 × MS) := if x3 < (0 : Int32) then (some ((S.1 10), S)) else (ck (vin (S.1 10) 100) (lt_ (mR S 12 ((S.1 10)).toNatClampNeg ((x1 >>> (((8 : Int32) * x3) &&& 31))).toInt8.toInt32) (fun S_102 => lt_ (mP S_102 10 ((S_102.1 10) + (1 : Int32))) (fun S_103 => lt_ (x3 + (-1 : Int32)) (fun x3_104 => k31 x1 x3_104 S_103)))))
def mm_feed_31L : Nat → Int32 → Int32 → MS → Option (Int32 × MS)
  | 0, _, _, _ => none
  | n + 1, x1, x3, S => mm_feed_31  (mm_feed_31L  n) x1 x3 S
def mm_feed (S : MS) (a1 : Int32) (a2 : Int32) : Option (Int32 × MS) := bd (mm_in S a2 (0 : Int32) (4 : Int32)) (fun r_206 S_205 => if r_206 = (0 : Int32) then (some ((-2 : Int32), S_205)) else (if ((S_205.1 10) + a2) ≤ (100 : Int32) then (lt_ ((a2 - (1 : Int32))) (fun x3_208 => mm_feed_31L  4000 a1 x3_208 S_205)) else (some ((-4 : Int32), S_205))))
abbrev wu_X9_feed : List Cond := .code yX9_feed cX9_feed 4 (some .int) :: wsL_law
theorem ud_X9_feed : yX9_feed.cls = RX9 ∧ yX9_feed.cls ≠ "java/lang/invoke/MethodHandle" ∧ yX9_feed.cls ≠ "java/lang/invoke/VarHandle" ∧ (parseMethodDescriptor yX9_feed.desc).map (fun d => d.parameters.length) = some 2 := by decide +kernel
abbrev rmX9_feed : Room := { frames := 1, cells := 0, slots := 0, locals := 23 }
set_option maxHeartbeats 4000000 in
set_option maxRecDepth 100000 in
theorem cc_feed (l : Launch) (D : va_G) (cs : Nat → ClassId) (ad : Nat → Nat) (S T : MS) (a1 : Int32) (a2 : Int32) (r0 : Int32) (h : mm_feed S a1 a2 = some (r0, T)) : MetI l yX9_feed wu_X9_feed rmX9_feed D cs ad [.int a1, .int a2] S T r0 := by
  refine mo_I (ty := .int) (cc := cX9_feed) (maxL := 4) ⟨by decide, rfl⟩ rfl (Nat.le_of_ble_eq_true rfl) ?_
  intro p e s m args below meth c ls cx hl w
  have hx := cx.1
  have hb := cx.2.1
  have hts := cx.2.2.2.1
  have hown := cx.2.2.2.2.1
  have hin : ∀ w ∈ wsX90, w ∈ wu_X9_feed := fun _ hq => List.mem_cons_of_mem _ (inlX9 _ hq)
  have hl : lv_has ls 4 [(0, .ref (ad 100)), (1, .int a1), (2, .int a2)] := hl
  have L31 : ∀ (n : Nat) (x1 : Int32) (x3 : Int32) (S : MS), mm_feed_31L  n x1 x3 S = some (r0, T) → mGo p l e rmX9_feed s m args below meth c 4 D cs ad (mQI below D cs ad args s r0 T) 31 [(0, .ref (ad 100)), (1, .int x1), (3, .int x3)] [] S := by
    intro n
    induction n with
    | zero =>
      intro x1 x3 S h
      have h : none = some (r0, T) := h
      cases h
    | succ n hk31 =>
      intro x1 x3 S h H locs ls hl w
      have h : mm_feed_31  (mm_feed_31L  n) x1 x3 S = some (r0, T) := h
      generalize mm_feed_31L  n = k31 at h hk31
      unfold mm_feed_31 at h
      refine lv_iload_n hx hb dX9_feed_31 rfl (lv_at hl 2 rfl) ?_
      refine lv_if_lt (tgt := 67) hx hb dX9_feed_32 (by decide) (fun q => ?_) (fun q => ?_)
      · have h := br_p q h
        refine lv_aload_n hx hb dX9_feed_67 rfl (lv_at hl 0 rfl) ?_
        refine mw_getI cx hin w 10 (by decide) (List.mem_cons_of_mem _ uf_RX9_41) dX9_feed_68 ?_
        exact mw_iret cx (rt_e h) w dX9_feed_71
      · have h := br_n q h
        refine lv_aload_n hx hb dX9_feed_35 rfl (lv_at hl 0 rfl) ?_
        refine mw_getR cx hin w 12 (by decide) (List.mem_cons_of_mem _ uf_RX9_47) dX9_feed_36 ?_
        refine lv_aload_n hx hb dX9_feed_39 rfl (lv_at hl 0 rfl) ?_
        refine mw_getI cx hin w 10 (by decide) (List.mem_cons_of_mem _ uf_RX9_41) dX9_feed_40 ?_
        refine lv_iload_n hx hb dX9_feed_43 rfl (lv_at hl 1 rfl) ?_
        refine lv_bipush (v := (8 : Int32)) hx hb dX9_feed_44 (by decide) ?_
        refine lv_iload_n hx hb dX9_feed_46 rfl (lv_at hl 2 rfl) ?_
        refine lv_imul hx hb dX9_feed_47 ?_
        refine lv_ishr hx hb dX9_feed_48 ?_
        refine lv_i2b hx hb dX9_feed_49 rfl ?_
        obtain ⟨hq_101, h⟩ := ck_e h
        obtain ⟨S_102, eS_102, h⟩ := lt_e h
        refine mw_iast cx w 6 12 100 (by decide) hq_101 eS_102 dX9_feed_50 (fun H locs w => ?_)
        refine lv_aload_n hx hb dX9_feed_51 rfl (lv_at hl 0 rfl) ?_
        refine lv_dup hx hb dX9_feed_52 rfl ?_
        refine mw_getI cx hin w 10 (by decide) (List.mem_cons_of_mem _ uf_RX9_41) dX9_feed_53 ?_
        refine lv_iconst (v := (1 : Int32)) hx hb dX9_feed_56 (by decide) ?_
        refine lv_iadd hx hb dX9_feed_57 ?_
        obtain ⟨S_103, eS_103, h⟩ := lt_e h
        refine mw_putI cx hin w 10 eS_103 (by decide +kernel) (List.mem_cons_of_mem _ uf_RX9_41) dX9_feed_58 (fun H locs w => ?_)
        obtain ⟨x3_104, ex3_104, h⟩ := lt_e h
        refine lv_iinc (v := x3_104) (lv' := [(3, .int x3_104), (0, .ref (ad 100)), (1, .int x1)]) hx hb dX9_feed_61 hl (k := 2) rfl (by rw [ex3_104]; rfl) (by decide) rfl (fun ls hl => ?_)
        refine lv_goto (tgt := 31) hx hb dX9_feed_64 (by decide) ?_
        exact hk31 x1 x3_104 S_103 h _ _ _ (lv_sub hl [1, 2, 0] rfl) w
  unfold mm_feed at h
  refine lv_aload_n hx hb dX9_feed_0 rfl (lv_at hl 0 rfl) ?_
  refine lv_iload_n hx hb dX9_feed_1 rfl (lv_at hl 2 rfl) ?_
  refine lv_iconst (v := (0 : Int32)) hx hb dX9_feed_2 (by decide) ?_
  refine lv_iconst (v := (4 : Int32)) hx hb dX9_feed_3 (by decide) ?_
  obtain ⟨r_206, S_205, hc_207, h⟩ := bd_e h
  refine mw_calli (As := [.int a2, .int (0 : Int32), .int (4 : Int32)]) (rest := []) cx (cc_in l D cs ad S S_205 a2 (0 : Int32) (4 : Int32) r_206 hc_207) (cwV 3 hts (uG uw_X9_in ul_RX9_133 ui_X9_in us_RX9_X9_in un_RX9) rfl rfl rfl ud_X9_in ⟨Nat.le_of_ble_eq_true rfl, Nat.le_of_ble_eq_true rfl⟩) w rfl hl.1 rfl (Nat.le_of_ble_eq_true rfl) dX9_feed_4 (fun H locs w => ?_)
  refine lv_if_ne (tgt := 13) hx hb dX9_feed_7 (by decide) (fun q => ?_) (fun q => ?_)
  · have h := br_n q h
    refine lv_aload_n hx hb dX9_feed_13 rfl (lv_at hl 0 rfl) ?_
    refine mw_getI cx hin w 10 (by decide) (List.mem_cons_of_mem _ uf_RX9_41) dX9_feed_14 ?_
    refine lv_iload_n hx hb dX9_feed_17 rfl (lv_at hl 2 rfl) ?_
    refine lv_iadd hx hb dX9_feed_18 ?_
    refine lv_bipush (v := (100 : Int32)) hx hb dX9_feed_19 (by decide) ?_
    refine lv_icmp_le (tgt := 27) hx hb dX9_feed_21 (by decide) (fun q => ?_) (fun q => ?_)
    · have h := br_p q h
      refine lv_iload_n hx hb dX9_feed_27 rfl (lv_at hl 2 rfl) ?_
      refine lv_iconst (v := (1 : Int32)) hx hb dX9_feed_28 (by decide) ?_
      refine lv_isub hx hb dX9_feed_29 ?_
      obtain ⟨x3_208, ex3_208, h⟩ := lt_e h
      refine top_i ex3_208 ?_
      refine lv_istore_n (lv' := [(3, .int x3_208), (0, .ref (ad 100)), (1, .int a1), (2, .int a2)]) hx hb dX9_feed_30 rfl hl (by decide) rfl (fun ls hl => ?_)
      exact L31  4000 a1 x3_208 S_205 h _ _ _ (lv_sub hl [1, 2, 0] rfl) w
    · have h := br_n q h
      refine lv_bipush (v := (-4 : Int32)) hx hb dX9_feed_24 (by decide) ?_
      exact mw_iret cx (rt_e h) w dX9_feed_26
  · have h := br_p q h
    refine lv_bipush (v := (-2 : Int32)) hx hb dX9_feed_10 (by decide) ?_
    exact mw_iret cx (rt_e h) w dX9_feed_12
def mm_next (S : MS)  : Option (Int32 × MS) := if (S.1 10) ≤ (S.1 11) then (some ((-1 : Int32), S)) else (ck (vin (S.1 11) 100) (some ((S.2.1 12 ((S.1 11)).toNatClampNeg), S)))
abbrev wu_X9_next : List Cond := .code yX9_next cX9_next 1 (some .int) :: wsL_law
theorem ud_X9_next : yX9_next.cls = RX9 ∧ yX9_next.cls ≠ "java/lang/invoke/MethodHandle" ∧ yX9_next.cls ≠ "java/lang/invoke/VarHandle" ∧ (parseMethodDescriptor yX9_next.desc).map (fun d => d.parameters.length) = some 0 := by decide +kernel
abbrev rmX9_next : Room := { frames := 0, cells := 0, slots := 0, locals := 0 }
set_option maxHeartbeats 4000000 in
set_option maxRecDepth 100000 in
theorem cc_next (l : Launch) (D : va_G) (cs : Nat → ClassId) (ad : Nat → Nat) (S T : MS)  (r0 : Int32) (h : mm_next S  = some (r0, T)) : MetI l yX9_next wu_X9_next rmX9_next D cs ad [] S T r0 := by
  refine mo_I (ty := .int) (cc := cX9_next) (maxL := 1) ⟨by decide, rfl⟩ rfl (Nat.le_of_ble_eq_true rfl) ?_
  intro p e s m args below meth c ls cx hl w
  have hx := cx.1
  have hb := cx.2.1
  have hts := cx.2.2.2.1
  have hown := cx.2.2.2.2.1
  have hin : ∀ w ∈ wsX90, w ∈ wu_X9_next := fun _ hq => List.mem_cons_of_mem _ (inlX9 _ hq)
  have hl : lv_has ls 1 [(0, .ref (ad 100))] := hl
  unfold mm_next at h
  refine lv_aload_n hx hb dX9_next_0 rfl (lv_at hl 0 rfl) ?_
  refine mw_getI cx hin w 11 (by decide) (List.mem_cons_of_mem _ uf_RX9_44) dX9_next_1 ?_
  refine lv_aload_n hx hb dX9_next_4 rfl (lv_at hl 0 rfl) ?_
  refine mw_getI cx hin w 10 (by decide) (List.mem_cons_of_mem _ uf_RX9_41) dX9_next_5 ?_
  refine lv_icmp_ge (tgt := 23) hx hb dX9_next_8 (by decide) (fun q => ?_) (fun q => ?_)
  · have h := br_p q h
    refine lv_iconst (v := (-1 : Int32)) hx hb dX9_next_23 (by decide) ?_
    exact mw_iret cx (rt_e h) w dX9_next_24
  · have h := br_n q h
    refine lv_aload_n hx hb dX9_next_11 rfl (lv_at hl 0 rfl) ?_
    refine mw_getR cx hin w 12 (by decide) (List.mem_cons_of_mem _ uf_RX9_47) dX9_next_12 ?_
    refine lv_aload_n hx hb dX9_next_15 rfl (lv_at hl 0 rfl) ?_
    refine mw_getI cx hin w 11 (by decide) (List.mem_cons_of_mem _ uf_RX9_44) dX9_next_16 ?_
    obtain ⟨hq_101, h⟩ := ck_e h
    refine mw_iald cx w 6 12 100 (by decide) hq_101 dX9_next_19 ?_
    refine lv_goto (tgt := 24) hx hb dX9_next_20 (by decide) ?_
    exact mw_iret cx (rt_e h) w dX9_next_24
def mm_takes (S : MS) (a1 : Int32) : Option (Int32 × MS) := bd (mm_next S ) (fun r_102 S_101 => if r_102 = a1 then (lt_ (mP S_101 11 ((S_101.1 11) + (1 : Int32))) (fun S_104 => some ((1 : Int32), S_104))) else (some ((0 : Int32), S_101)))
abbrev wu_X9_takes : List Cond := .code yX9_takes cX9_takes 2 (some .boolean) :: wsL_law
theorem ud_X9_takes : yX9_takes.cls = RX9 ∧ yX9_takes.cls ≠ "java/lang/invoke/MethodHandle" ∧ yX9_takes.cls ≠ "java/lang/invoke/VarHandle" ∧ (parseMethodDescriptor yX9_takes.desc).map (fun d => d.parameters.length) = some 1 := by decide +kernel
abbrev rmX9_takes : Room := { frames := 1, cells := 0, slots := 0, locals := 20 }
set_option maxHeartbeats 4000000 in
set_option maxRecDepth 100000 in
theorem cc_takes (l : Launch) (D : va_G) (cs : Nat → ClassId) (ad : Nat → Nat) (S T : MS) (a1 : Int32) (r0 : Int32) (h : mm_takes S a1 = some (r0, T)) : MetI l yX9_takes wu_X9_takes rmX9_takes D cs ad [.int a1] S T r0 := by
  refine mo_I (ty := .boolean) (cc := cX9_takes) (maxL := 2) ⟨by decide, rfl⟩ rfl (Nat.le_of_ble_eq_true rfl) ?_
  intro p e s m args below meth c ls cx hl w
  have hx := cx.1
  have hb := cx.2.1
  have hts := cx.2.2.2.1
  have hown := cx.2.2.2.2.1
  have hin : ∀ w ∈ wsX90, w ∈ wu_X9_takes := fun _ hq => List.mem_cons_of_mem _ (inlX9 _ hq)
  have hl : lv_has ls 2 [(0, .ref (ad 100)), (1, .int a1)] := hl
  unfold mm_takes at h
  refine lv_aload_n hx hb dX9_takes_0 rfl (lv_at hl 0 rfl) ?_
  obtain ⟨r_102, S_101, hc_103, h⟩ := bd_e h
  refine mw_calli (As := []) (rest := []) cx (cc_next l D cs ad S S_101  r_102 hc_103) (cwV 0 hts (uG uw_X9_next ul_RX9_145 ui_X9_next us_RX9_X9_next un_RX9) rfl rfl rfl ud_X9_next ⟨Nat.le_of_ble_eq_true rfl, Nat.le_of_ble_eq_true rfl⟩) w rfl hl.1 rfl (Nat.le_of_ble_eq_true rfl) dX9_takes_1 (fun H locs w => ?_)
  refine lv_iload_n hx hb dX9_takes_4 rfl (lv_at hl 1 rfl) ?_
  refine lv_icmp_eq (tgt := 10) hx hb dX9_takes_5 (by decide) (fun q => ?_) (fun q => ?_)
  · have h := br_p q h
    refine lv_aload_n hx hb dX9_takes_10 rfl (lv_at hl 0 rfl) ?_
    refine lv_dup hx hb dX9_takes_11 rfl ?_
    refine mw_getI cx hin w 11 (by decide) (List.mem_cons_of_mem _ uf_RX9_44) dX9_takes_12 ?_
    refine lv_iconst (v := (1 : Int32)) hx hb dX9_takes_15 (by decide) ?_
    refine lv_iadd hx hb dX9_takes_16 ?_
    obtain ⟨S_104, eS_104, h⟩ := lt_e h
    refine mw_putI cx hin w 11 eS_104 (by decide +kernel) (List.mem_cons_of_mem _ uf_RX9_44) dX9_takes_17 (fun H locs w => ?_)
    refine lv_iconst (v := (1 : Int32)) hx hb dX9_takes_20 (by decide) ?_
    exact mw_zret cx (Or.inr rfl) (rt_e h) w dX9_takes_21
  · have h := br_n q h
    refine lv_iconst (v := (0 : Int32)) hx hb dX9_takes_8 (by decide) ?_
    exact mw_zret cx (Or.inl rfl) (rt_e h) w dX9_takes_9
def mm_takesWord_4 (k4 : Int32 → Int32 → MS → Option (Int32 × MS)) (x1 : Int32) (x3 : Int32) (S : MS) : Option (Int32 × MS) := if x3 < (0 : Int32) then (bd (mm_takes S (32 : Int32)) (fun r_102 S_101 => ck (z01 r_102) (some (r_102, S_101)))) else (bd (mm_takes S ((96 : Int32) + ((x1 >>> (((5 : Int32) * x3) &&& 31)) &&& (31 : Int32)))) (fun r_106 S_105 => if r_106 = (0 : Int32) then (some ((0 : Int32), S_105)) else (lt_ (x3 + (-1 : Int32)) (fun x3_108 => k4 x1 x3_108 S_105))))
def mm_takesWord_4L : Nat → Int32 → Int32 → MS → Option (Int32 × MS)
  | 0, _, _, _ => none
  | n + 1, x1, x3, S => mm_takesWord_4  (mm_takesWord_4L  n) x1 x3 S
def mm_takesWord (S : MS) (a1 : Int32) (a2 : Int32) : Option (Int32 × MS) := lt_ ((a2 - (1 : Int32))) (fun x3_209 => mm_takesWord_4L  4000 a1 x3_209 S)
abbrev wu_X9_takesWord : List Cond := .code yX9_takesWord cX9_takesWord 4 (some .boolean) :: wsL_law
theorem ud_X9_takesWord : yX9_takesWord.cls = RX9 ∧ yX9_takesWord.cls ≠ "java/lang/invoke/MethodHandle" ∧ yX9_takesWord.cls ≠ "java/lang/invoke/VarHandle" ∧ (parseMethodDescriptor yX9_takesWord.desc).map (fun d => d.parameters.length) = some 2 := by decide +kernel
abbrev rmX9_takesWord : Room := { frames := 2, cells := 0, slots := 0, locals := 41 }
set_option maxHeartbeats 4000000 in
set_option maxRecDepth 100000 in
theorem cc_takesWord (l : Launch) (D : va_G) (cs : Nat → ClassId) (ad : Nat → Nat) (S T : MS) (a1 : Int32) (a2 : Int32) (r0 : Int32) (h : mm_takesWord S a1 a2 = some (r0, T)) : MetI l yX9_takesWord wu_X9_takesWord rmX9_takesWord D cs ad [.int a1, .int a2] S T r0 := by
  refine mo_I (ty := .boolean) (cc := cX9_takesWord) (maxL := 4) ⟨by decide, rfl⟩ rfl (Nat.le_of_ble_eq_true rfl) ?_
  intro p e s m args below meth c ls cx hl w
  have hx := cx.1
  have hb := cx.2.1
  have hts := cx.2.2.2.1
  have hown := cx.2.2.2.2.1
  have hl : lv_has ls 4 [(0, .ref (ad 100)), (1, .int a1), (2, .int a2)] := hl
  have L4 : ∀ (n : Nat) (x1 : Int32) (x3 : Int32) (S : MS), mm_takesWord_4L  n x1 x3 S = some (r0, T) → mGo p l e rmX9_takesWord s m args below meth c 4 D cs ad (mQI below D cs ad args s r0 T) 4 [(0, .ref (ad 100)), (1, .int x1), (3, .int x3)] [] S := by
    intro n
    induction n with
    | zero =>
      intro x1 x3 S h
      have h : none = some (r0, T) := h
      cases h
    | succ n hk4 =>
      intro x1 x3 S h H locs ls hl w
      have h : mm_takesWord_4  (mm_takesWord_4L  n) x1 x3 S = some (r0, T) := h
      generalize mm_takesWord_4L  n = k4 at h hk4
      unfold mm_takesWord_4 at h
      refine lv_iload_n hx hb dX9_takesWord_4 rfl (lv_at hl 2 rfl) ?_
      refine lv_if_lt (tgt := 34) hx hb dX9_takesWord_5 (by decide) (fun q => ?_) (fun q => ?_)
      · have h := br_p q h
        refine lv_aload_n hx hb dX9_takesWord_34 rfl (lv_at hl 0 rfl) ?_
        refine lv_bipush (v := (32 : Int32)) hx hb dX9_takesWord_35 (by decide) ?_
        obtain ⟨r_102, S_101, hc_103, h⟩ := bd_e h
        refine mw_calli (As := [.int (32 : Int32)]) (rest := []) cx (cc_takes l D cs ad S S_101 (32 : Int32) r_102 hc_103) (cwV 1 hts (uG uw_X9_takes ul_RX9_149 ui_X9_takes us_RX9_X9_takes un_RX9) rfl rfl rfl ud_X9_takes ⟨Nat.le_of_ble_eq_true rfl, Nat.le_of_ble_eq_true rfl⟩) w rfl hl.1 rfl (Nat.le_of_ble_eq_true rfl) dX9_takesWord_37 (fun H locs w => ?_)
        obtain ⟨hq_104, h⟩ := ck_e h
        exact mw_zret cx (z01_e hq_104) (rt_e h) w dX9_takesWord_40
      · have h := br_n q h
        refine lv_aload_n hx hb dX9_takesWord_8 rfl (lv_at hl 0 rfl) ?_
        refine lv_bipush (v := (96 : Int32)) hx hb dX9_takesWord_9 (by decide) ?_
        refine lv_iload_n hx hb dX9_takesWord_11 rfl (lv_at hl 1 rfl) ?_
        refine lv_iconst (v := (5 : Int32)) hx hb dX9_takesWord_12 (by decide) ?_
        refine lv_iload_n hx hb dX9_takesWord_13 rfl (lv_at hl 2 rfl) ?_
        refine lv_imul hx hb dX9_takesWord_14 ?_
        refine lv_ishr hx hb dX9_takesWord_15 ?_
        refine lv_bipush (v := (31 : Int32)) hx hb dX9_takesWord_16 (by decide) ?_
        refine lv_iand hx hb dX9_takesWord_18 ?_
        refine lv_iadd hx hb dX9_takesWord_19 ?_
        obtain ⟨r_106, S_105, hc_107, h⟩ := bd_e h
        refine mw_calli (As := [.int ((96 : Int32) + ((x1 >>> (((5 : Int32) * x3) &&& 31)) &&& (31 : Int32)))]) (rest := []) cx (cc_takes l D cs ad S S_105 ((96 : Int32) + ((x1 >>> (((5 : Int32) * x3) &&& 31)) &&& (31 : Int32))) r_106 hc_107) (cwV 1 hts (uG uw_X9_takes ul_RX9_149 ui_X9_takes us_RX9_X9_takes un_RX9) rfl rfl rfl ud_X9_takes ⟨Nat.le_of_ble_eq_true rfl, Nat.le_of_ble_eq_true rfl⟩) w rfl hl.1 rfl (Nat.le_of_ble_eq_true rfl) dX9_takesWord_20 (fun H locs w => ?_)
        refine lv_if_ne (tgt := 28) hx hb dX9_takesWord_23 (by decide) (fun q => ?_) (fun q => ?_)
        · have h := br_n q h
          obtain ⟨x3_108, ex3_108, h⟩ := lt_e h
          refine lv_iinc (v := x3_108) (lv' := [(3, .int x3_108), (0, .ref (ad 100)), (1, .int x1)]) hx hb dX9_takesWord_28 hl (k := 2) rfl (by rw [ex3_108]; rfl) (by decide) rfl (fun ls hl => ?_)
          refine lv_goto (tgt := 4) hx hb dX9_takesWord_31 (by decide) ?_
          exact hk4 x1 x3_108 S_105 h _ _ _ (lv_sub hl [1, 2, 0] rfl) w
        · have h := br_p q h
          refine lv_iconst (v := (0 : Int32)) hx hb dX9_takesWord_26 (by decide) ?_
          exact mw_zret cx (Or.inl rfl) (rt_e h) w dX9_takesWord_27
  unfold mm_takesWord at h
  refine lv_iload_n hx hb dX9_takesWord_0 rfl (lv_at hl 2 rfl) ?_
  refine lv_iconst (v := (1 : Int32)) hx hb dX9_takesWord_1 (by decide) ?_
  refine lv_isub hx hb dX9_takesWord_2 ?_
  obtain ⟨x3_209, ex3_209, h⟩ := lt_e h
  refine top_i ex3_209 ?_
  refine lv_istore_n (lv' := [(3, .int x3_209), (0, .ref (ad 100)), (1, .int a1), (2, .int a2)]) hx hb dX9_takesWord_3 rfl hl (by decide) rfl (fun ls hl => ?_)
  exact L4  4000 a1 x3_209 S h _ _ _ (lv_sub hl [1, 2, 0] rfl) w
def mm_put (S : MS) (a1 : Int32) : Option (Int32 × MS) := ck (vin (S.1 20) 1000) (lt_ (mR S 19 ((S.1 20)).toNatClampNeg a1) (fun S_102 => lt_ (mP S_102 20 ((S_102.1 20) + (1 : Int32))) (fun S_103 => some ((0 : Int32), S_103))))
abbrev wu_X9_put : List Cond := .code yX9_put cX9_put 2 none :: wsL_law
theorem ud_X9_put : yX9_put.cls = RX9 ∧ yX9_put.cls ≠ "java/lang/invoke/MethodHandle" ∧ yX9_put.cls ≠ "java/lang/invoke/VarHandle" ∧ (parseMethodDescriptor yX9_put.desc).map (fun d => d.parameters.length) = some 1 := by decide +kernel
abbrev rmX9_put : Room := { frames := 0, cells := 0, slots := 0, locals := 0 }
set_option maxHeartbeats 4000000 in
set_option maxRecDepth 100000 in
theorem cc_put (l : Launch) (D : va_G) (cs : Nat → ClassId) (ad : Nat → Nat) (S T : MS) (a1 : Int32) (r0 : Int32) (h : mm_put S a1 = some (r0, T)) : MetV l yX9_put wu_X9_put rmX9_put D cs ad [.int a1] S T r0 := by
  refine mo_V (cc := cX9_put) (maxL := 2) ⟨by decide, rfl⟩ rfl (Nat.le_of_ble_eq_true rfl) ?_
  intro p e s m args below meth c ls cx hl w
  have hx := cx.1
  have hb := cx.2.1
  have hts := cx.2.2.2.1
  have hown := cx.2.2.2.2.1
  have hin : ∀ w ∈ wsX90, w ∈ wu_X9_put := fun _ hq => List.mem_cons_of_mem _ (inlX9 _ hq)
  have hl : lv_has ls 2 [(0, .ref (ad 100)), (1, .int a1)] := hl
  unfold mm_put at h
  refine lv_aload_n hx hb dX9_put_0 rfl (lv_at hl 0 rfl) ?_
  refine mw_getR cx hin w 19 (by decide) (List.mem_cons_of_mem _ uf_RX9_68) dX9_put_1 ?_
  refine lv_aload_n hx hb dX9_put_4 rfl (lv_at hl 0 rfl) ?_
  refine mw_getI cx hin w 20 (by decide) (List.mem_cons_of_mem _ uf_RX9_71) dX9_put_5 ?_
  refine lv_iload_n hx hb dX9_put_8 rfl (lv_at hl 1 rfl) ?_
  obtain ⟨hq_101, h⟩ := ck_e h
  obtain ⟨S_102, eS_102, h⟩ := lt_e h
  refine mw_iast cx w 13 19 1000 (by decide) hq_101 eS_102 dX9_put_9 (fun H locs w => ?_)
  refine lv_aload_n hx hb dX9_put_10 rfl (lv_at hl 0 rfl) ?_
  refine lv_dup hx hb dX9_put_11 rfl ?_
  refine mw_getI cx hin w 20 (by decide) (List.mem_cons_of_mem _ uf_RX9_71) dX9_put_12 ?_
  refine lv_iconst (v := (1 : Int32)) hx hb dX9_put_15 (by decide) ?_
  refine lv_iadd hx hb dX9_put_16 ?_
  obtain ⟨S_103, eS_103, h⟩ := lt_e h
  refine mw_putI cx hin w 20 eS_103 (by decide +kernel) (List.mem_cons_of_mem _ uf_RX9_71) dX9_put_17 (fun H locs w => ?_)
  exact mw_vret cx (rt_e h) w dX9_put_20
def mm_whole_0 (k0 : MS → Option (Int32 × MS))  (S : MS) : Option (Int32 × MS) := if (S.1 22) ≤ (0 : Int32) then (some ((0 : Int32), S)) else (ck (vin ((S.1 22) - (1 : Int32)) 101) (if (S.2.1 21 (((S.1 22) - (1 : Int32))).toNatClampNeg) = (33 : Int32) then (bd (mm_put S (33 : Int32)) (fun _ S_102 => lt_ (mP S_102 22 ((S_102.1 22) - (1 : Int32))) (fun S_105 => lt_ (mP S_105 23 ((S_105.1 23) - (1 : Int32))) (fun S_106 => k0  S_106)))) else (some ((0 : Int32), S))))
def mm_whole_0L : Nat → MS → Option (Int32 × MS)
  | 0, _ => none
  | n + 1, S => mm_whole_0  (mm_whole_0L  n)  S
def mm_whole (S : MS)  : Option (Int32 × MS) := mm_whole_0L  4000  S
abbrev wu_X9_whole : List Cond := .code yX9_whole cX9_whole 1 none :: wsL_law
theorem ud_X9_whole : yX9_whole.cls = RX9 ∧ yX9_whole.cls ≠ "java/lang/invoke/MethodHandle" ∧ yX9_whole.cls ≠ "java/lang/invoke/VarHandle" ∧ (parseMethodDescriptor yX9_whole.desc).map (fun d => d.parameters.length) = some 0 := by decide +kernel
abbrev rmX9_whole : Room := { frames := 1, cells := 0, slots := 0, locals := 21 }
set_option maxHeartbeats 4000000 in
set_option maxRecDepth 100000 in
theorem cc_whole (l : Launch) (D : va_G) (cs : Nat → ClassId) (ad : Nat → Nat) (S T : MS)  (r0 : Int32) (h : mm_whole S  = some (r0, T)) : MetV l yX9_whole wu_X9_whole rmX9_whole D cs ad [] S T r0 := by
  refine mo_V (cc := cX9_whole) (maxL := 1) ⟨by decide, rfl⟩ rfl (Nat.le_of_ble_eq_true rfl) ?_
  intro p e s m args below meth c ls cx hl w
  have hx := cx.1
  have hb := cx.2.1
  have hts := cx.2.2.2.1
  have hown := cx.2.2.2.2.1
  have hin : ∀ w ∈ wsX90, w ∈ wu_X9_whole := fun _ hq => List.mem_cons_of_mem _ (inlX9 _ hq)
  have hl : lv_has ls 1 [(0, .ref (ad 100))] := hl
  have L0 : ∀ (n : Nat)  (S : MS), mm_whole_0L  n  S = some (r0, T) → mGo p l e rmX9_whole s m args below meth c 1 D cs ad (mQV below D cs ad args s r0 T) 0 [(0, .ref (ad 100))] [] S := by
    intro n
    induction n with
    | zero =>
      intro  S h
      have h : none = some (r0, T) := h
      cases h
    | succ n hk0 =>
      intro  S h H locs ls hl w
      have h : mm_whole_0  (mm_whole_0L  n)  S = some (r0, T) := h
      generalize mm_whole_0L  n = k0 at h hk0
      unfold mm_whole_0 at h
      refine lv_aload_n hx hb dX9_whole_0 rfl (lv_at hl 0 rfl) ?_
      refine mw_getI cx hin w 22 (by decide) (List.mem_cons_of_mem _ uf_RX9_77) dX9_whole_1 ?_
      refine lv_if_le (tgt := 52) hx hb dX9_whole_4 (by decide) (fun q => ?_) (fun q => ?_)
      · have h := br_p q h
        exact mw_vret cx (rt_e h) w dX9_whole_52
      · have h := br_n q h
        refine lv_aload_n hx hb dX9_whole_7 rfl (lv_at hl 0 rfl) ?_
        refine mw_getR cx hin w 21 (by decide) (List.mem_cons_of_mem _ uf_RX9_74) dX9_whole_8 ?_
        refine lv_aload_n hx hb dX9_whole_11 rfl (lv_at hl 0 rfl) ?_
        refine mw_getI cx hin w 22 (by decide) (List.mem_cons_of_mem _ uf_RX9_77) dX9_whole_12 ?_
        refine lv_iconst (v := (1 : Int32)) hx hb dX9_whole_15 (by decide) ?_
        refine lv_isub hx hb dX9_whole_16 ?_
        obtain ⟨hq_101, h⟩ := ck_e h
        refine mw_iald cx w 14 21 101 (by decide) hq_101 dX9_whole_17 ?_
        refine lv_bipush (v := (33 : Int32)) hx hb dX9_whole_18 (by decide) ?_
        refine lv_icmp_ne (tgt := 52) hx hb dX9_whole_20 (by decide) (fun q => ?_) (fun q => ?_)
        · have h := br_n q h
          exact mw_vret cx (rt_e h) w dX9_whole_52
        · have h := br_p q h
          refine lv_aload_n hx hb dX9_whole_23 rfl (lv_at hl 0 rfl) ?_
          refine lv_bipush (v := (33 : Int32)) hx hb dX9_whole_24 (by decide) ?_
          obtain ⟨r_103, S_102, hc_104, h⟩ := bd_e h
          refine mw_callv (As := [.int (33 : Int32)]) (rest := []) cx (cc_put l D cs ad S S_102 (33 : Int32) r_103 hc_104) (cwV 1 hts (uG uw_X9_put ul_RX9_152 ui_X9_put us_RX9_X9_put un_RX9) rfl rfl rfl ud_X9_put ⟨Nat.le_of_ble_eq_true rfl, Nat.le_of_ble_eq_true rfl⟩) w rfl hl.1 rfl (Nat.le_of_ble_eq_true rfl) dX9_whole_26 (fun H locs w => ?_)
          refine lv_aload_n hx hb dX9_whole_29 rfl (lv_at hl 0 rfl) ?_
          refine lv_dup hx hb dX9_whole_30 rfl ?_
          refine mw_getI cx hin w 22 (by decide) (List.mem_cons_of_mem _ uf_RX9_77) dX9_whole_31 ?_
          refine lv_iconst (v := (1 : Int32)) hx hb dX9_whole_34 (by decide) ?_
          refine lv_isub hx hb dX9_whole_35 ?_
          obtain ⟨S_105, eS_105, h⟩ := lt_e h
          refine mw_putI cx hin w 22 eS_105 (by decide +kernel) (List.mem_cons_of_mem _ uf_RX9_77) dX9_whole_36 (fun H locs w => ?_)
          refine lv_aload_n hx hb dX9_whole_39 rfl (lv_at hl 0 rfl) ?_
          refine lv_dup hx hb dX9_whole_40 rfl ?_
          refine mw_getI cx hin w 23 (by decide) (List.mem_cons_of_mem _ uf_RX9_80) dX9_whole_41 ?_
          refine lv_iconst (v := (1 : Int32)) hx hb dX9_whole_44 (by decide) ?_
          refine lv_isub hx hb dX9_whole_45 ?_
          obtain ⟨S_106, eS_106, h⟩ := lt_e h
          refine mw_putI cx hin w 23 eS_106 (by decide +kernel) (List.mem_cons_of_mem _ uf_RX9_80) dX9_whole_46 (fun H locs w => ?_)
          refine lv_goto (tgt := 0) hx hb dX9_whole_49 (by decide) ?_
          exact hk0  S_106 h _ _ _ (lv_sub hl [0] rfl) w
  unfold mm_whole at h
  exact L0  4000  S h _ _ _ (lv_sub hl [0] rfl) w
def mm_settle_45 (k0 : Int32 → MS → Option (Int32 × MS)) (x1 : Int32) (S : MS) : Option (Int32 × MS) := lt_ (mP S 22 ((S.1 22) - (1 : Int32))) (fun S_101 => ck (vin (S_101.1 22) 101) (bd (mm_put S_101 (S_101.2.1 21 ((S_101.1 22)).toNatClampNeg)) (fun _ S_103 => k0 x1 S_103)))
def mm_settle_0 (k0 : Int32 → MS → Option (Int32 × MS)) (x1 : Int32) (S : MS) : Option (Int32 × MS) := if (S.1 22) ≤ (0 : Int32) then (some ((0 : Int32), S)) else (ck (vin ((S.1 22) - (1 : Int32)) 101) (if (S.2.1 21 (((S.1 22) - (1 : Int32))).toNatClampNeg) = (38 : Int32) then (mm_settle_45 k0 x1 S) else (ck (vin ((S.1 22) - (1 : Int32)) 101) (if (S.2.1 21 (((S.1 22) - (1 : Int32))).toNatClampNeg) = (124 : Int32) then (if x1 = (38 : Int32) then (some ((0 : Int32), S)) else (mm_settle_45 k0 x1 S)) else (some ((0 : Int32), S))))))
def mm_settle_0L : Nat → Int32 → MS → Option (Int32 × MS)
  | 0, _, _ => none
  | n + 1, x1, S => mm_settle_0  (mm_settle_0L  n) x1 S
def mm_settle (S : MS) (a1 : Int32) : Option (Int32 × MS) := mm_settle_0L  4000 a1 S
abbrev wu_X9_settle : List Cond := .code yX9_settle cX9_settle 2 none :: wsL_law
theorem ud_X9_settle : yX9_settle.cls = RX9 ∧ yX9_settle.cls ≠ "java/lang/invoke/MethodHandle" ∧ yX9_settle.cls ≠ "java/lang/invoke/VarHandle" ∧ (parseMethodDescriptor yX9_settle.desc).map (fun d => d.parameters.length) = some 1 := by decide +kernel
abbrev rmX9_settle : Room := { frames := 1, cells := 0, slots := 0, locals := 21 }
set_option maxHeartbeats 4000000 in
set_option maxRecDepth 100000 in
theorem cc_settle (l : Launch) (D : va_G) (cs : Nat → ClassId) (ad : Nat → Nat) (S T : MS) (a1 : Int32) (r0 : Int32) (h : mm_settle S a1 = some (r0, T)) : MetV l yX9_settle wu_X9_settle rmX9_settle D cs ad [.int a1] S T r0 := by
  refine mo_V (cc := cX9_settle) (maxL := 2) ⟨by decide, rfl⟩ rfl (Nat.le_of_ble_eq_true rfl) ?_
  intro p e s m args below meth c ls cx hl w
  have hx := cx.1
  have hb := cx.2.1
  have hts := cx.2.2.2.1
  have hown := cx.2.2.2.2.1
  have hin : ∀ w ∈ wsX90, w ∈ wu_X9_settle := fun _ hq => List.mem_cons_of_mem _ (inlX9 _ hq)
  have hl : lv_has ls 2 [(0, .ref (ad 100)), (1, .int a1)] := hl
  have J45 : ∀ (k0 : Int32 → MS → Option (Int32 × MS)) (hk0 : ∀ (x1 : Int32) (S : MS), k0 x1 S = some (r0, T) → mGo p l e rmX9_settle s m args below meth c 2 D cs ad (mQV below D cs ad args s r0 T) 0 [(0, .ref (ad 100)), (1, .int x1)] [] S) (x1 : Int32) (S : MS), mm_settle_45 k0 x1 S = some (r0, T) → mGo p l e rmX9_settle s m args below meth c 2 D cs ad (mQV below D cs ad args s r0 T) 45 [(0, .ref (ad 100)), (1, .int x1)] [] S := by
    intro k0 hk0 x1 S h H locs ls hl w
    unfold mm_settle_45 at h
    refine lv_aload_n hx hb dX9_settle_45 rfl (lv_at hl 0 rfl) ?_
    refine lv_dup hx hb dX9_settle_46 rfl ?_
    refine mw_getI cx hin w 22 (by decide) (List.mem_cons_of_mem _ uf_RX9_77) dX9_settle_47 ?_
    refine lv_iconst (v := (1 : Int32)) hx hb dX9_settle_50 (by decide) ?_
    refine lv_isub hx hb dX9_settle_51 ?_
    obtain ⟨S_101, eS_101, h⟩ := lt_e h
    refine mw_putI cx hin w 22 eS_101 (by decide +kernel) (List.mem_cons_of_mem _ uf_RX9_77) dX9_settle_52 (fun H locs w => ?_)
    refine lv_aload_n hx hb dX9_settle_55 rfl (lv_at hl 0 rfl) ?_
    refine lv_aload_n hx hb dX9_settle_56 rfl (lv_at hl 0 rfl) ?_
    refine mw_getR cx hin w 21 (by decide) (List.mem_cons_of_mem _ uf_RX9_74) dX9_settle_57 ?_
    refine lv_aload_n hx hb dX9_settle_60 rfl (lv_at hl 0 rfl) ?_
    refine mw_getI cx hin w 22 (by decide) (List.mem_cons_of_mem _ uf_RX9_77) dX9_settle_61 ?_
    obtain ⟨hq_102, h⟩ := ck_e h
    refine mw_iald cx w 14 21 101 (by decide) hq_102 dX9_settle_64 ?_
    obtain ⟨r_104, S_103, hc_105, h⟩ := bd_e h
    refine mw_callv (As := [.int (S_101.2.1 21 ((S_101.1 22)).toNatClampNeg)]) (rest := []) cx (cc_put l D cs ad S_101 S_103 (S_101.2.1 21 ((S_101.1 22)).toNatClampNeg) r_104 hc_105) (cwV 1 hts (uG uw_X9_put ul_RX9_152 ui_X9_put us_RX9_X9_put un_RX9) rfl rfl rfl ud_X9_put ⟨Nat.le_of_ble_eq_true rfl, Nat.le_of_ble_eq_true rfl⟩) w rfl hl.1 rfl (Nat.le_of_ble_eq_true rfl) dX9_settle_65 (fun H locs w => ?_)
    refine lv_goto (tgt := 0) hx hb dX9_settle_68 (by decide) ?_
    exact hk0 x1 S_103 h _ _ _ (lv_sub hl [0, 1] rfl) w
  have L0 : ∀ (n : Nat) (x1 : Int32) (S : MS), mm_settle_0L  n x1 S = some (r0, T) → mGo p l e rmX9_settle s m args below meth c 2 D cs ad (mQV below D cs ad args s r0 T) 0 [(0, .ref (ad 100)), (1, .int x1)] [] S := by
    intro n
    induction n with
    | zero =>
      intro x1 S h
      have h : none = some (r0, T) := h
      cases h
    | succ n hk0 =>
      intro x1 S h H locs ls hl w
      have h : mm_settle_0  (mm_settle_0L  n) x1 S = some (r0, T) := h
      generalize mm_settle_0L  n = k0 at h hk0
      unfold mm_settle_0 at h
      refine lv_aload_n hx hb dX9_settle_0 rfl (lv_at hl 0 rfl) ?_
      refine mw_getI cx hin w 22 (by decide) (List.mem_cons_of_mem _ uf_RX9_77) dX9_settle_1 ?_
      refine lv_if_le (tgt := 71) hx hb dX9_settle_4 (by decide) (fun q => ?_) (fun q => ?_)
      · have h := br_p q h
        exact mw_vret cx (rt_e h) w dX9_settle_71
      · have h := br_n q h
        refine lv_aload_n hx hb dX9_settle_7 rfl (lv_at hl 0 rfl) ?_
        refine mw_getR cx hin w 21 (by decide) (List.mem_cons_of_mem _ uf_RX9_74) dX9_settle_8 ?_
        refine lv_aload_n hx hb dX9_settle_11 rfl (lv_at hl 0 rfl) ?_
        refine mw_getI cx hin w 22 (by decide) (List.mem_cons_of_mem _ uf_RX9_77) dX9_settle_12 ?_
        refine lv_iconst (v := (1 : Int32)) hx hb dX9_settle_15 (by decide) ?_
        refine lv_isub hx hb dX9_settle_16 ?_
        obtain ⟨hq_206, h⟩ := ck_e h
        refine mw_iald cx w 14 21 101 (by decide) hq_206 dX9_settle_17 ?_
        refine lv_bipush (v := (38 : Int32)) hx hb dX9_settle_18 (by decide) ?_
        refine lv_icmp_eq (tgt := 45) hx hb dX9_settle_20 (by decide) (fun q => ?_) (fun q => ?_)
        · have h := br_p q h
          exact J45 k0 hk0 x1 S h _ _ _ (lv_sub hl [0, 1] rfl) w
        · have h := br_n q h
          refine lv_aload_n hx hb dX9_settle_23 rfl (lv_at hl 0 rfl) ?_
          refine mw_getR cx hin w 21 (by decide) (List.mem_cons_of_mem _ uf_RX9_74) dX9_settle_24 ?_
          refine lv_aload_n hx hb dX9_settle_27 rfl (lv_at hl 0 rfl) ?_
          refine mw_getI cx hin w 22 (by decide) (List.mem_cons_of_mem _ uf_RX9_77) dX9_settle_28 ?_
          refine lv_iconst (v := (1 : Int32)) hx hb dX9_settle_31 (by decide) ?_
          refine lv_isub hx hb dX9_settle_32 ?_
          obtain ⟨hq_207, h⟩ := ck_e h
          refine mw_iald cx w 14 21 101 (by decide) hq_207 dX9_settle_33 ?_
          refine lv_bipush (v := (124 : Int32)) hx hb dX9_settle_34 (by decide) ?_
          refine lv_icmp_ne (tgt := 71) hx hb dX9_settle_36 (by decide) (fun q => ?_) (fun q => ?_)
          · have h := br_n q h
            exact mw_vret cx (rt_e h) w dX9_settle_71
          · have h := br_p q h
            refine lv_iload_n hx hb dX9_settle_39 rfl (lv_at hl 1 rfl) ?_
            refine lv_bipush (v := (38 : Int32)) hx hb dX9_settle_40 (by decide) ?_
            refine lv_icmp_eq (tgt := 71) hx hb dX9_settle_42 (by decide) (fun q => ?_) (fun q => ?_)
            · have h := br_p q h
              exact mw_vret cx (rt_e h) w dX9_settle_71
            · have h := br_n q h
              exact J45 k0 hk0 x1 S h _ _ _ (lv_sub hl [0, 1] rfl) w
  unfold mm_settle at h
  exact L0  4000 a1 S h _ _ _ (lv_sub hl [0, 1] rfl) w
