def mm_takesTest_96  (S : MS) : Option (Int32 × MS) := some ((0 : Int32), S)
def mm_takesTest_98 (x1 : Int32) (x3 : Int32) (S : MS) : Option (Int32 × MS) := lt_ (mP S 11 ((S.1 11) + (1 : Int32))) (fun S_201 => bd (mm_next S_201 ) (fun r_203 S_202 => lt_ ((r_203 - (48 : Int32))) (fun x4_205 => bd (mm_in S_202 x4_205 (0 : Int32) (9 : Int32)) (fun r_207 S_206 => if r_207 = (0 : Int32) then (some ((0 : Int32), S_206)) else (lt_ (mP S_206 11 ((S_206.1 11) + (1 : Int32))) (fun S_209 => bd (mm_put S_209 ((((1000 : Int32) * x1) + ((10 : Int32) * x3)) + x4_205)) (fun _ S_210 => bd (mm_whole S_210 ) (fun _ S_213 => some ((1 : Int32), S_213)))))))))
def mm_takesTest_59 (x1 : Int32) (x2 : Int32) (S : MS) : Option (Int32 × MS) := lt_ (mP S 11 ((S.1 11) + (1 : Int32))) (fun S_316 => bd (mm_next S_316 ) (fun r_318 S_317 => if r_318 = (61 : Int32) then (mm_takesTest_98  x1 r_318 S_317) else (if x2 = (0 : Int32) then (mm_takesTest_96   S_317) else (if r_318 = (60 : Int32) then (mm_takesTest_98  x1 r_318 S_317) else (if r_318 = (62 : Int32) then (mm_takesTest_98  x1 r_318 S_317) else (mm_takesTest_96   S_317))))))
def mm_takesTest_22 (x1 : Int32) (t0 : Int32) (S : MS) : Option (Int32 × MS) := if t0 = (0 : Int32) then (if x1 = (117 : Int32) then (mm_takesTest_59  x1 t0 S) else (if x1 = (98 : Int32) then (mm_takesTest_59  x1 t0 S) else (if x1 = (99 : Int32) then (mm_takesTest_59  x1 t0 S) else (if x1 = (101 : Int32) then (mm_takesTest_59  x1 t0 S) else (if x1 = (115 : Int32) then (mm_takesTest_59  x1 t0 S) else (some ((0 : Int32), S))))))) else (mm_takesTest_59  x1 t0 S)
def mm_takesTest_17 (x1 : Int32) (S : MS) : Option (Int32 × MS) := mm_takesTest_22  x1 (1 : Int32) S
def mm_takesTest (S : MS)  : Option (Int32 × MS) := bd (mm_next S ) (fun r_621 S_620 => if r_621 = (107 : Int32) then (mm_takesTest_17  r_621 S_620) else (if r_621 = (104 : Int32) then (mm_takesTest_17  r_621 S_620) else (mm_takesTest_22  r_621 (0 : Int32) S_620)))
abbrev wu_X9_takesTest : List Cond := .code yX9_takesTest cX9_takesTest 5 (some .boolean) :: wsL_law
theorem ud_X9_takesTest : yX9_takesTest.cls = RX9 ∧ yX9_takesTest.cls ≠ "java/lang/invoke/MethodHandle" ∧ yX9_takesTest.cls ≠ "java/lang/invoke/VarHandle" ∧ (parseMethodDescriptor yX9_takesTest.desc).map (fun d => d.parameters.length) = some 0 := by decide +kernel
abbrev rmX9_takesTest : Room := { frames := 2, cells := 0, slots := 0, locals := 41 }
set_option maxHeartbeats 4000000 in
set_option maxRecDepth 100000 in
theorem cc_takesTest (l : Launch) (D : va_G) (cs : Nat → ClassId) (ad : Nat → Nat) (S T : MS)  (r0 : Int32) (h : mm_takesTest S  = some (r0, T)) : MetI l yX9_takesTest wu_X9_takesTest rmX9_takesTest D cs ad [] S T r0 := by
  refine mo_I (ty := .boolean) (cc := cX9_takesTest) (maxL := 5) ⟨by decide, rfl⟩ rfl (Nat.le_of_ble_eq_true rfl) ?_
  intro p e s m args below meth c ls cx hl w
  have hx := cx.1
  have hb := cx.2.1
  have hts := cx.2.2.2.1
  have hown := cx.2.2.2.2.1
  have hin : ∀ w ∈ wsX90, w ∈ wu_X9_takesTest := fun _ hq => List.mem_cons_of_mem _ (inlX9 _ hq)
  have hl : lv_has ls 5 [(0, .ref (ad 100))] := hl
  have J96 : ∀  (S : MS), mm_takesTest_96   S = some (r0, T) → mGo p l e rmX9_takesTest s m args below meth c 5 D cs ad (mQI below D cs ad args s r0 T) 96 [] [] S := by
    intro  S h H locs ls hl w
    unfold mm_takesTest_96 at h
    refine lv_iconst (v := (0 : Int32)) hx hb dX9_takesTest_96 (by decide) ?_
    exact mw_zret cx (Or.inl rfl) (rt_e h) w dX9_takesTest_97
  have J98 : ∀ (x1 : Int32) (x3 : Int32) (S : MS), mm_takesTest_98  x1 x3 S = some (r0, T) → mGo p l e rmX9_takesTest s m args below meth c 5 D cs ad (mQI below D cs ad args s r0 T) 98 [(0, .ref (ad 100)), (1, .int x1), (3, .int x3)] [] S := by
    intro x1 x3 S h H locs ls hl w
    unfold mm_takesTest_98 at h
    refine lv_aload_n hx hb dX9_takesTest_98 rfl (lv_at hl 0 rfl) ?_
    refine lv_dup hx hb dX9_takesTest_99 rfl ?_
    refine mw_getI cx hin w 11 (by decide) (List.mem_cons_of_mem _ uf_RX9_44) dX9_takesTest_100 ?_
    refine lv_iconst (v := (1 : Int32)) hx hb dX9_takesTest_103 (by decide) ?_
    refine lv_iadd hx hb dX9_takesTest_104 ?_
    obtain ⟨S_201, eS_201, h⟩ := lt_e h
    refine mw_putI cx hin w 11 eS_201 (by decide +kernel) (List.mem_cons_of_mem _ uf_RX9_44) dX9_takesTest_105 (fun H locs w => ?_)
    refine lv_aload_n hx hb dX9_takesTest_108 rfl (lv_at hl 0 rfl) ?_
    obtain ⟨r_203, S_202, hc_204, h⟩ := bd_e h
    refine mw_calli (As := []) (rest := []) cx (cc_next l D cs ad S_201 S_202  r_203 hc_204) (cwV 0 hts (uG uw_X9_next ul_RX9_145 ui_X9_next us_RX9_X9_next un_RX9) rfl rfl rfl ud_X9_next ⟨Nat.le_of_ble_eq_true rfl, Nat.le_of_ble_eq_true rfl⟩) w rfl hl.1 rfl (Nat.le_of_ble_eq_true rfl) dX9_takesTest_109 (fun H locs w => ?_)
    refine lv_bipush (v := (48 : Int32)) hx hb dX9_takesTest_112 (by decide) ?_
    refine lv_isub hx hb dX9_takesTest_114 ?_
    obtain ⟨x4_205, ex4_205, h⟩ := lt_e h
    refine top_i ex4_205 ?_
    refine lv_istore (lv' := [(4, .int x4_205), (0, .ref (ad 100)), (1, .int x1), (3, .int x3)]) hx hb dX9_takesTest_115 hl (by decide) rfl (fun ls hl => ?_)
    refine lv_aload_n hx hb dX9_takesTest_117 rfl (lv_at hl 1 rfl) ?_
    refine lv_iload hx hb dX9_takesTest_118 (lv_at hl 0 rfl) ?_
    refine lv_iconst (v := (0 : Int32)) hx hb dX9_takesTest_120 (by decide) ?_
    refine lv_bipush (v := (9 : Int32)) hx hb dX9_takesTest_121 (by decide) ?_
    obtain ⟨r_207, S_206, hc_208, h⟩ := bd_e h
    refine mw_calli (As := [.int x4_205, .int (0 : Int32), .int (9 : Int32)]) (rest := []) cx (cc_in l D cs ad S_202 S_206 x4_205 (0 : Int32) (9 : Int32) r_207 hc_208) (cwV 3 hts (uG uw_X9_in ul_RX9_133 ui_X9_in us_RX9_X9_in un_RX9) rfl rfl rfl ud_X9_in ⟨Nat.le_of_ble_eq_true rfl, Nat.le_of_ble_eq_true rfl⟩) w rfl hl.1 rfl (Nat.le_of_ble_eq_true rfl) dX9_takesTest_123 (fun H locs w => ?_)
    refine lv_if_ne (tgt := 131) hx hb dX9_takesTest_126 (by decide) (fun q => ?_) (fun q => ?_)
    · have h := br_n q h
      refine lv_aload_n hx hb dX9_takesTest_131 rfl (lv_at hl 1 rfl) ?_
      refine lv_dup hx hb dX9_takesTest_132 rfl ?_
      refine mw_getI cx hin w 11 (by decide) (List.mem_cons_of_mem _ uf_RX9_44) dX9_takesTest_133 ?_
      refine lv_iconst (v := (1 : Int32)) hx hb dX9_takesTest_136 (by decide) ?_
      refine lv_iadd hx hb dX9_takesTest_137 ?_
      obtain ⟨S_209, eS_209, h⟩ := lt_e h
      refine mw_putI cx hin w 11 eS_209 (by decide +kernel) (List.mem_cons_of_mem _ uf_RX9_44) dX9_takesTest_138 (fun H locs w => ?_)
      refine lv_aload_n hx hb dX9_takesTest_141 rfl (lv_at hl 1 rfl) ?_
      refine lv_sipush (v := (1000 : Int32)) hx hb dX9_takesTest_142 (by decide) ?_
      refine lv_iload_n hx hb dX9_takesTest_145 rfl (lv_at hl 2 rfl) ?_
      refine lv_imul hx hb dX9_takesTest_146 ?_
      refine lv_bipush (v := (10 : Int32)) hx hb dX9_takesTest_147 (by decide) ?_
      refine lv_iload_n hx hb dX9_takesTest_149 rfl (lv_at hl 3 rfl) ?_
      refine lv_imul hx hb dX9_takesTest_150 ?_
      refine lv_iadd hx hb dX9_takesTest_151 ?_
      refine lv_iload hx hb dX9_takesTest_152 (lv_at hl 0 rfl) ?_
      refine lv_iadd hx hb dX9_takesTest_154 ?_
      obtain ⟨r_211, S_210, hc_212, h⟩ := bd_e h
      refine mw_callv (As := [.int ((((1000 : Int32) * x1) + ((10 : Int32) * x3)) + x4_205)]) (rest := []) cx (cc_put l D cs ad S_209 S_210 ((((1000 : Int32) * x1) + ((10 : Int32) * x3)) + x4_205) r_211 hc_212) (cwV 1 hts (uG uw_X9_put ul_RX9_152 ui_X9_put us_RX9_X9_put un_RX9) rfl rfl rfl ud_X9_put ⟨Nat.le_of_ble_eq_true rfl, Nat.le_of_ble_eq_true rfl⟩) w rfl hl.1 rfl (Nat.le_of_ble_eq_true rfl) dX9_takesTest_155 (fun H locs w => ?_)
      refine lv_aload_n hx hb dX9_takesTest_158 rfl (lv_at hl 1 rfl) ?_
      obtain ⟨r_214, S_213, hc_215, h⟩ := bd_e h
      refine mw_callv (As := []) (rest := []) cx (cc_whole l D cs ad S_210 S_213  r_214 hc_215) (cwV 0 hts (uG uw_X9_whole ul_RX9_156 ui_X9_whole us_RX9_X9_whole un_RX9) rfl rfl rfl ud_X9_whole ⟨Nat.le_of_ble_eq_true rfl, Nat.le_of_ble_eq_true rfl⟩) w rfl hl.1 rfl (Nat.le_of_ble_eq_true rfl) dX9_takesTest_159 (fun H locs w => ?_)
      refine lv_iconst (v := (1 : Int32)) hx hb dX9_takesTest_162 (by decide) ?_
      exact mw_zret cx (Or.inr rfl) (rt_e h) w dX9_takesTest_163
    · have h := br_p q h
      refine lv_iconst (v := (0 : Int32)) hx hb dX9_takesTest_129 (by decide) ?_
      exact mw_zret cx (Or.inl rfl) (rt_e h) w dX9_takesTest_130
  have J59 : ∀ (x1 : Int32) (x2 : Int32) (S : MS), mm_takesTest_59  x1 x2 S = some (r0, T) → mGo p l e rmX9_takesTest s m args below meth c 5 D cs ad (mQI below D cs ad args s r0 T) 59 [(0, .ref (ad 100)), (1, .int x1), (2, .int x2)] [] S := by
    intro x1 x2 S h H locs ls hl w
    unfold mm_takesTest_59 at h
    refine lv_aload_n hx hb dX9_takesTest_59 rfl (lv_at hl 0 rfl) ?_
    refine lv_dup hx hb dX9_takesTest_60 rfl ?_
    refine mw_getI cx hin w 11 (by decide) (List.mem_cons_of_mem _ uf_RX9_44) dX9_takesTest_61 ?_
    refine lv_iconst (v := (1 : Int32)) hx hb dX9_takesTest_64 (by decide) ?_
    refine lv_iadd hx hb dX9_takesTest_65 ?_
    obtain ⟨S_316, eS_316, h⟩ := lt_e h
    refine mw_putI cx hin w 11 eS_316 (by decide +kernel) (List.mem_cons_of_mem _ uf_RX9_44) dX9_takesTest_66 (fun H locs w => ?_)
    refine lv_aload_n hx hb dX9_takesTest_69 rfl (lv_at hl 0 rfl) ?_
    obtain ⟨r_318, S_317, hc_319, h⟩ := bd_e h
    refine mw_calli (As := []) (rest := []) cx (cc_next l D cs ad S_316 S_317  r_318 hc_319) (cwV 0 hts (uG uw_X9_next ul_RX9_145 ui_X9_next us_RX9_X9_next un_RX9) rfl rfl rfl ud_X9_next ⟨Nat.le_of_ble_eq_true rfl, Nat.le_of_ble_eq_true rfl⟩) w rfl hl.1 rfl (Nat.le_of_ble_eq_true rfl) dX9_takesTest_70 (fun H locs w => ?_)
    refine lv_istore_n (lv' := [(3, .int r_318), (0, .ref (ad 100)), (1, .int x1), (2, .int x2)]) hx hb dX9_takesTest_73 rfl hl (by decide) rfl (fun ls hl => ?_)
    refine lv_iload_n hx hb dX9_takesTest_74 rfl (lv_at hl 0 rfl) ?_
    refine lv_bipush (v := (61 : Int32)) hx hb dX9_takesTest_75 (by decide) ?_
    refine lv_icmp_eq (tgt := 98) hx hb dX9_takesTest_77 (by decide) (fun q => ?_) (fun q => ?_)
    · have h := br_p q h
      exact J98  x1 r_318 S_317 h _ _ _ (lv_sub hl [1, 2, 0] rfl) w
    · have h := br_n q h
      refine lv_iload_n hx hb dX9_takesTest_80 rfl (lv_at hl 3 rfl) ?_
      refine lv_if_eq (tgt := 96) hx hb dX9_takesTest_81 (by decide) (fun q => ?_) (fun q => ?_)
      · have h := br_p q h
        exact J96   S_317 h _ _ _ (lv_sub hl [] rfl) w
      · have h := br_n q h
        refine lv_iload_n hx hb dX9_takesTest_84 rfl (lv_at hl 0 rfl) ?_
        refine lv_bipush (v := (60 : Int32)) hx hb dX9_takesTest_85 (by decide) ?_
        refine lv_icmp_eq (tgt := 98) hx hb dX9_takesTest_87 (by decide) (fun q => ?_) (fun q => ?_)
        · have h := br_p q h
          exact J98  x1 r_318 S_317 h _ _ _ (lv_sub hl [1, 2, 0] rfl) w
        · have h := br_n q h
          refine lv_iload_n hx hb dX9_takesTest_90 rfl (lv_at hl 0 rfl) ?_
          refine lv_bipush (v := (62 : Int32)) hx hb dX9_takesTest_91 (by decide) ?_
          refine lv_icmp_eq (tgt := 98) hx hb dX9_takesTest_93 (by decide) (fun q => ?_) (fun q => ?_)
          · have h := br_p q h
            exact J98  x1 r_318 S_317 h _ _ _ (lv_sub hl [1, 2, 0] rfl) w
          · have h := br_n q h
            exact J96   S_317 h _ _ _ (lv_sub hl [] rfl) w
  have J22 : ∀ (x1 : Int32) (t0 : Int32) (S : MS), mm_takesTest_22  x1 t0 S = some (r0, T) → mGo p l e rmX9_takesTest s m args below meth c 5 D cs ad (mQI below D cs ad args s r0 T) 22 [(0, .ref (ad 100)), (1, .int x1)] [.int t0] S := by
    intro x1 t0 S h H locs ls hl w
    unfold mm_takesTest_22 at h
    refine lv_istore_n (lv' := [(2, .int t0), (0, .ref (ad 100)), (1, .int x1)]) hx hb dX9_takesTest_22 rfl hl (by decide) rfl (fun ls hl => ?_)
    refine lv_iload_n hx hb dX9_takesTest_23 rfl (lv_at hl 0 rfl) ?_
    refine lv_if_ne (tgt := 59) hx hb dX9_takesTest_24 (by decide) (fun q => ?_) (fun q => ?_)
    · have h := br_n q h
      exact J59  x1 t0 S h _ _ _ (lv_sub hl [1, 2, 0] rfl) w
    · have h := br_p q h
      refine lv_iload_n hx hb dX9_takesTest_27 rfl (lv_at hl 2 rfl) ?_
      refine lv_bipush (v := (117 : Int32)) hx hb dX9_takesTest_28 (by decide) ?_
      refine lv_icmp_eq (tgt := 59) hx hb dX9_takesTest_30 (by decide) (fun q => ?_) (fun q => ?_)
      · have h := br_p q h
        exact J59  x1 t0 S h _ _ _ (lv_sub hl [1, 2, 0] rfl) w
      · have h := br_n q h
        refine lv_iload_n hx hb dX9_takesTest_33 rfl (lv_at hl 2 rfl) ?_
        refine lv_bipush (v := (98 : Int32)) hx hb dX9_takesTest_34 (by decide) ?_
        refine lv_icmp_eq (tgt := 59) hx hb dX9_takesTest_36 (by decide) (fun q => ?_) (fun q => ?_)
        · have h := br_p q h
          exact J59  x1 t0 S h _ _ _ (lv_sub hl [1, 2, 0] rfl) w
        · have h := br_n q h
          refine lv_iload_n hx hb dX9_takesTest_39 rfl (lv_at hl 2 rfl) ?_
          refine lv_bipush (v := (99 : Int32)) hx hb dX9_takesTest_40 (by decide) ?_
          refine lv_icmp_eq (tgt := 59) hx hb dX9_takesTest_42 (by decide) (fun q => ?_) (fun q => ?_)
          · have h := br_p q h
            exact J59  x1 t0 S h _ _ _ (lv_sub hl [1, 2, 0] rfl) w
          · have h := br_n q h
            refine lv_iload_n hx hb dX9_takesTest_45 rfl (lv_at hl 2 rfl) ?_
            refine lv_bipush (v := (101 : Int32)) hx hb dX9_takesTest_46 (by decide) ?_
            refine lv_icmp_eq (tgt := 59) hx hb dX9_takesTest_48 (by decide) (fun q => ?_) (fun q => ?_)
            · have h := br_p q h
              exact J59  x1 t0 S h _ _ _ (lv_sub hl [1, 2, 0] rfl) w
            · have h := br_n q h
              refine lv_iload_n hx hb dX9_takesTest_51 rfl (lv_at hl 2 rfl) ?_
              refine lv_bipush (v := (115 : Int32)) hx hb dX9_takesTest_52 (by decide) ?_
              refine lv_icmp_eq (tgt := 59) hx hb dX9_takesTest_54 (by decide) (fun q => ?_) (fun q => ?_)
              · have h := br_p q h
                exact J59  x1 t0 S h _ _ _ (lv_sub hl [1, 2, 0] rfl) w
              · have h := br_n q h
                refine lv_iconst (v := (0 : Int32)) hx hb dX9_takesTest_57 (by decide) ?_
                exact mw_zret cx (Or.inl rfl) (rt_e h) w dX9_takesTest_58
  have J17 : ∀ (x1 : Int32) (S : MS), mm_takesTest_17  x1 S = some (r0, T) → mGo p l e rmX9_takesTest s m args below meth c 5 D cs ad (mQI below D cs ad args s r0 T) 17 [(0, .ref (ad 100)), (1, .int x1)] [] S := by
    intro x1 S h H locs ls hl w
    unfold mm_takesTest_17 at h
    refine lv_iconst (v := (1 : Int32)) hx hb dX9_takesTest_17 (by decide) ?_
    refine lv_goto (tgt := 22) hx hb dX9_takesTest_18 (by decide) ?_
    exact J22  x1 (1 : Int32) S h _ _ _ (lv_sub hl [0, 1] rfl) w
  unfold mm_takesTest at h
  refine lv_aload_n hx hb dX9_takesTest_0 rfl (lv_at hl 0 rfl) ?_
  obtain ⟨r_621, S_620, hc_622, h⟩ := bd_e h
  refine mw_calli (As := []) (rest := []) cx (cc_next l D cs ad S S_620  r_621 hc_622) (cwV 0 hts (uG uw_X9_next ul_RX9_145 ui_X9_next us_RX9_X9_next un_RX9) rfl rfl rfl ud_X9_next ⟨Nat.le_of_ble_eq_true rfl, Nat.le_of_ble_eq_true rfl⟩) w rfl hl.1 rfl (Nat.le_of_ble_eq_true rfl) dX9_takesTest_1 (fun H locs w => ?_)
  refine lv_istore_n (lv' := [(1, .int r_621), (0, .ref (ad 100))]) hx hb dX9_takesTest_4 rfl hl (by decide) rfl (fun ls hl => ?_)
  refine lv_iload_n hx hb dX9_takesTest_5 rfl (lv_at hl 0 rfl) ?_
  refine lv_bipush (v := (107 : Int32)) hx hb dX9_takesTest_6 (by decide) ?_
  refine lv_icmp_eq (tgt := 17) hx hb dX9_takesTest_8 (by decide) (fun q => ?_) (fun q => ?_)
  · have h := br_p q h
    exact J17  r_621 S_620 h _ _ _ (lv_sub hl [1, 0] rfl) w
  · have h := br_n q h
    refine lv_iload_n hx hb dX9_takesTest_11 rfl (lv_at hl 0 rfl) ?_
    refine lv_bipush (v := (104 : Int32)) hx hb dX9_takesTest_12 (by decide) ?_
    refine lv_icmp_ne (tgt := 21) hx hb dX9_takesTest_14 (by decide) (fun q => ?_) (fun q => ?_)
    · have h := br_n q h
      refine lv_iconst (v := (0 : Int32)) hx hb dX9_takesTest_21 (by decide) ?_
      exact J22  r_621 (0 : Int32) S_620 h _ _ _ (lv_sub hl [1, 0] rfl) w
    · have h := br_p q h
      exact J17  r_621 S_620 h _ _ _ (lv_sub hl [1, 0] rfl) w
def mm_takesE_33 (k12 : Int32 → MS → Option (Int32 × MS)) (x1 : Int32) (x2 : Int32) (S : MS) : Option (Int32 × MS) := if (S.1 23) = (4 : Int32) then (some ((0 : Int32), S)) else (lt_ (mP S 23 ((S.1 23) + (1 : Int32))) (fun S_101 => ck (vin (S_101.1 22) 101) (lt_ (mR S_101 21 ((S_101.1 22)).toNatClampNeg x2) (fun S_103 => lt_ (mP S_103 22 ((S_103.1 22) + (1 : Int32))) (fun S_104 => lt_ (mP S_104 11 ((S_104.1 11) + (1 : Int32))) (fun S_105 => k12 x1 S_105))))))
def mm_takesE_112 (k12 : Int32 → MS → Option (Int32 × MS)) (x2 : Int32) (S : MS) : Option (Int32 × MS) := bd (mm_settle S x2) (fun _ S_206 => ck (vin (S_206.1 22) 101) (lt_ (mR S_206 21 ((S_206.1 22)).toNatClampNeg x2) (fun S_210 => lt_ (mP S_210 22 ((S_210.1 22) + (1 : Int32))) (fun S_211 => lt_ ((1 : Int32)) (fun x1_212 => lt_ (mP S_211 11 ((S_211.1 11) + (1 : Int32))) (fun S_213 => k12 x1_212 S_213))))))
def mm_takesE_12 (k12 : Int32 → MS → Option (Int32 × MS)) (x1 : Int32) (S : MS) : Option (Int32 × MS) := bd (mm_next S ) (fun r_315 S_314 => if x1 = (0 : Int32) then (if r_315 = (38 : Int32) then (mm_takesE_112 k12 r_315 S_314) else (if r_315 = (124 : Int32) then (mm_takesE_112 k12 r_315 S_314) else (bd (mm_settle S_314 (124 : Int32)) (fun _ S_317 => if (S_317.1 22) = (0 : Int32) then (some ((1 : Int32), S_317)) else (if r_315 = (41 : Int32) then (lt_ (mP S_317 22 ((S_317.1 22) - (1 : Int32))) (fun S_320 => lt_ (mP S_320 23 ((S_320.1 23) - (1 : Int32))) (fun S_321 => lt_ (mP S_321 11 ((S_321.1 11) + (1 : Int32))) (fun S_322 => bd (mm_whole S_322 ) (fun _ S_323 => k12 x1 S_323))))) else (some ((0 : Int32), S_317))))))) else (if r_315 = (33 : Int32) then (mm_takesE_33 k12 x1 r_315 S_314) else (if r_315 = (40 : Int32) then (mm_takesE_33 k12 x1 r_315 S_314) else (bd (mm_takesTest S_314 ) (fun r_327 S_326 => if r_327 = (0 : Int32) then (some ((0 : Int32), S_326)) else (lt_ ((0 : Int32)) (fun x1_329 => k12 x1_329 S_326)))))))
def mm_takesE_12L : Nat → Int32 → MS → Option (Int32 × MS)
  | 0, _, _ => none
  | n + 1, x1, S => mm_takesE_12  (mm_takesE_12L  n) x1 S
def mm_takesE (S : MS)  : Option (Int32 × MS) := lt_ (mP S 22 (0 : Int32)) (fun S_430 => lt_ (mP S_430 23 (0 : Int32)) (fun S_431 => lt_ ((1 : Int32)) (fun x1_432 => mm_takesE_12L  4000 x1_432 S_431)))
abbrev wu_X9_takesE : List Cond := .code yX9_takesE cX9_takesE 3 (some .boolean) :: wsL_law
theorem ud_X9_takesE : yX9_takesE.cls = RX9 ∧ yX9_takesE.cls ≠ "java/lang/invoke/MethodHandle" ∧ yX9_takesE.cls ≠ "java/lang/invoke/VarHandle" ∧ (parseMethodDescriptor yX9_takesE.desc).map (fun d => d.parameters.length) = some 0 := by decide +kernel
abbrev rmX9_takesE : Room := { frames := 3, cells := 0, slots := 0, locals := 65 }
set_option maxHeartbeats 4000000 in
set_option maxRecDepth 100000 in
theorem cc_takesE (l : Launch) (D : va_G) (cs : Nat → ClassId) (ad : Nat → Nat) (S T : MS)  (r0 : Int32) (h : mm_takesE S  = some (r0, T)) : MetI l yX9_takesE wu_X9_takesE rmX9_takesE D cs ad [] S T r0 := by
  refine mo_I (ty := .boolean) (cc := cX9_takesE) (maxL := 3) ⟨by decide, rfl⟩ rfl (Nat.le_of_ble_eq_true rfl) ?_
  intro p e s m args below meth c ls cx hl w
  have hx := cx.1
  have hb := cx.2.1
  have hts := cx.2.2.2.1
  have hown := cx.2.2.2.2.1
  have hin : ∀ w ∈ wsX90, w ∈ wu_X9_takesE := fun _ hq => List.mem_cons_of_mem _ (inlX9 _ hq)
  have hl : lv_has ls 3 [(0, .ref (ad 100))] := hl
  have J33 : ∀ (k12 : Int32 → MS → Option (Int32 × MS)) (hk12 : ∀ (x1 : Int32) (S : MS), k12 x1 S = some (r0, T) → mGo p l e rmX9_takesE s m args below meth c 3 D cs ad (mQI below D cs ad args s r0 T) 12 [(0, .ref (ad 100)), (1, .int x1)] [] S) (x1 : Int32) (x2 : Int32) (S : MS), mm_takesE_33 k12 x1 x2 S = some (r0, T) → mGo p l e rmX9_takesE s m args below meth c 3 D cs ad (mQI below D cs ad args s r0 T) 33 [(0, .ref (ad 100)), (1, .int x1), (2, .int x2)] [] S := by
    intro k12 hk12 x1 x2 S h H locs ls hl w
    unfold mm_takesE_33 at h
    refine lv_aload_n hx hb dX9_takesE_33 rfl (lv_at hl 0 rfl) ?_
    refine mw_getI cx hin w 23 (by decide) (List.mem_cons_of_mem _ uf_RX9_80) dX9_takesE_34 ?_
    refine lv_iconst (v := (4 : Int32)) hx hb dX9_takesE_37 (by decide) ?_
    refine lv_icmp_ne (tgt := 43) hx hb dX9_takesE_38 (by decide) (fun q => ?_) (fun q => ?_)
    · have h := br_n q h
      refine lv_aload_n hx hb dX9_takesE_43 rfl (lv_at hl 0 rfl) ?_
      refine lv_dup hx hb dX9_takesE_44 rfl ?_
      refine mw_getI cx hin w 23 (by decide) (List.mem_cons_of_mem _ uf_RX9_80) dX9_takesE_45 ?_
      refine lv_iconst (v := (1 : Int32)) hx hb dX9_takesE_48 (by decide) ?_
      refine lv_iadd hx hb dX9_takesE_49 ?_
      obtain ⟨S_101, eS_101, h⟩ := lt_e h
      refine mw_putI cx hin w 23 eS_101 (by decide +kernel) (List.mem_cons_of_mem _ uf_RX9_80) dX9_takesE_50 (fun H locs w => ?_)
      refine lv_aload_n hx hb dX9_takesE_53 rfl (lv_at hl 0 rfl) ?_
      refine mw_getR cx hin w 21 (by decide) (List.mem_cons_of_mem _ uf_RX9_74) dX9_takesE_54 ?_
      refine lv_aload_n hx hb dX9_takesE_57 rfl (lv_at hl 0 rfl) ?_
      refine mw_getI cx hin w 22 (by decide) (List.mem_cons_of_mem _ uf_RX9_77) dX9_takesE_58 ?_
      refine lv_iload_n hx hb dX9_takesE_61 rfl (lv_at hl 2 rfl) ?_
      obtain ⟨hq_102, h⟩ := ck_e h
      obtain ⟨S_103, eS_103, h⟩ := lt_e h
      refine mw_iast cx w 14 21 101 (by decide) hq_102 eS_103 dX9_takesE_62 (fun H locs w => ?_)
      refine lv_aload_n hx hb dX9_takesE_63 rfl (lv_at hl 0 rfl) ?_
      refine lv_dup hx hb dX9_takesE_64 rfl ?_
      refine mw_getI cx hin w 22 (by decide) (List.mem_cons_of_mem _ uf_RX9_77) dX9_takesE_65 ?_
      refine lv_iconst (v := (1 : Int32)) hx hb dX9_takesE_68 (by decide) ?_
      refine lv_iadd hx hb dX9_takesE_69 ?_
      obtain ⟨S_104, eS_104, h⟩ := lt_e h
      refine mw_putI cx hin w 22 eS_104 (by decide +kernel) (List.mem_cons_of_mem _ uf_RX9_77) dX9_takesE_70 (fun H locs w => ?_)
      refine lv_aload_n hx hb dX9_takesE_73 rfl (lv_at hl 0 rfl) ?_
      refine lv_dup hx hb dX9_takesE_74 rfl ?_
      refine mw_getI cx hin w 11 (by decide) (List.mem_cons_of_mem _ uf_RX9_44) dX9_takesE_75 ?_
      refine lv_iconst (v := (1 : Int32)) hx hb dX9_takesE_78 (by decide) ?_
      refine lv_iadd hx hb dX9_takesE_79 ?_
      obtain ⟨S_105, eS_105, h⟩ := lt_e h
      refine mw_putI cx hin w 11 eS_105 (by decide +kernel) (List.mem_cons_of_mem _ uf_RX9_44) dX9_takesE_80 (fun H locs w => ?_)
      refine lv_goto (tgt := 12) hx hb dX9_takesE_83 (by decide) ?_
      exact hk12 x1 S_105 h _ _ _ (lv_sub hl [0, 1] rfl) w
    · have h := br_p q h
      refine lv_iconst (v := (0 : Int32)) hx hb dX9_takesE_41 (by decide) ?_
      exact mw_zret cx (Or.inl rfl) (rt_e h) w dX9_takesE_42
  have J112 : ∀ (k12 : Int32 → MS → Option (Int32 × MS)) (hk12 : ∀ (x1 : Int32) (S : MS), k12 x1 S = some (r0, T) → mGo p l e rmX9_takesE s m args below meth c 3 D cs ad (mQI below D cs ad args s r0 T) 12 [(0, .ref (ad 100)), (1, .int x1)] [] S) (x2 : Int32) (S : MS), mm_takesE_112 k12 x2 S = some (r0, T) → mGo p l e rmX9_takesE s m args below meth c 3 D cs ad (mQI below D cs ad args s r0 T) 112 [(0, .ref (ad 100)), (2, .int x2)] [] S := by
    intro k12 hk12 x2 S h H locs ls hl w
    unfold mm_takesE_112 at h
    refine lv_aload_n hx hb dX9_takesE_112 rfl (lv_at hl 0 rfl) ?_
    refine lv_iload_n hx hb dX9_takesE_113 rfl (lv_at hl 1 rfl) ?_
    obtain ⟨r_207, S_206, hc_208, h⟩ := bd_e h
    refine mw_callv (As := [.int x2]) (rest := []) cx (cc_settle l D cs ad S S_206 x2 r_207 hc_208) (cwV 1 hts (uG uw_X9_settle ul_RX9_163 ui_X9_settle us_RX9_X9_settle un_RX9) rfl rfl rfl ud_X9_settle ⟨Nat.le_of_ble_eq_true rfl, Nat.le_of_ble_eq_true rfl⟩) w rfl hl.1 rfl (Nat.le_of_ble_eq_true rfl) dX9_takesE_114 (fun H locs w => ?_)
    refine lv_aload_n hx hb dX9_takesE_117 rfl (lv_at hl 0 rfl) ?_
    refine mw_getR cx hin w 21 (by decide) (List.mem_cons_of_mem _ uf_RX9_74) dX9_takesE_118 ?_
    refine lv_aload_n hx hb dX9_takesE_121 rfl (lv_at hl 0 rfl) ?_
    refine mw_getI cx hin w 22 (by decide) (List.mem_cons_of_mem _ uf_RX9_77) dX9_takesE_122 ?_
    refine lv_iload_n hx hb dX9_takesE_125 rfl (lv_at hl 1 rfl) ?_
    obtain ⟨hq_209, h⟩ := ck_e h
    obtain ⟨S_210, eS_210, h⟩ := lt_e h
    refine mw_iast cx w 14 21 101 (by decide) hq_209 eS_210 dX9_takesE_126 (fun H locs w => ?_)
    refine lv_aload_n hx hb dX9_takesE_127 rfl (lv_at hl 0 rfl) ?_
    refine lv_dup hx hb dX9_takesE_128 rfl ?_
    refine mw_getI cx hin w 22 (by decide) (List.mem_cons_of_mem _ uf_RX9_77) dX9_takesE_129 ?_
    refine lv_iconst (v := (1 : Int32)) hx hb dX9_takesE_132 (by decide) ?_
    refine lv_iadd hx hb dX9_takesE_133 ?_
    obtain ⟨S_211, eS_211, h⟩ := lt_e h
    refine mw_putI cx hin w 22 eS_211 (by decide +kernel) (List.mem_cons_of_mem _ uf_RX9_77) dX9_takesE_134 (fun H locs w => ?_)
    refine lv_iconst (v := (1 : Int32)) hx hb dX9_takesE_137 (by decide) ?_
    obtain ⟨x1_212, ex1_212, h⟩ := lt_e h
    refine top_i ex1_212 ?_
    refine lv_istore_n (lv' := [(1, .int x1_212), (0, .ref (ad 100)), (2, .int x2)]) hx hb dX9_takesE_138 rfl hl (by decide) rfl (fun ls hl => ?_)
    refine lv_aload_n hx hb dX9_takesE_139 rfl (lv_at hl 1 rfl) ?_
    refine lv_dup hx hb dX9_takesE_140 rfl ?_
    refine mw_getI cx hin w 11 (by decide) (List.mem_cons_of_mem _ uf_RX9_44) dX9_takesE_141 ?_
    refine lv_iconst (v := (1 : Int32)) hx hb dX9_takesE_144 (by decide) ?_
    refine lv_iadd hx hb dX9_takesE_145 ?_
    obtain ⟨S_213, eS_213, h⟩ := lt_e h
    refine mw_putI cx hin w 11 eS_213 (by decide +kernel) (List.mem_cons_of_mem _ uf_RX9_44) dX9_takesE_146 (fun H locs w => ?_)
    refine lv_goto (tgt := 12) hx hb dX9_takesE_149 (by decide) ?_
    exact hk12 x1_212 S_213 h _ _ _ (lv_sub hl [1, 0] rfl) w
  have L12 : ∀ (n : Nat) (x1 : Int32) (S : MS), mm_takesE_12L  n x1 S = some (r0, T) → mGo p l e rmX9_takesE s m args below meth c 3 D cs ad (mQI below D cs ad args s r0 T) 12 [(0, .ref (ad 100)), (1, .int x1)] [] S := by
    intro n
    induction n with
    | zero =>
      intro x1 S h
      have h : none = some (r0, T) := h
      cases h
    | succ n hk12 =>
      intro x1 S h H locs ls hl w
      have h : mm_takesE_12  (mm_takesE_12L  n) x1 S = some (r0, T) := h
      generalize mm_takesE_12L  n = k12 at h hk12
      unfold mm_takesE_12 at h
      refine lv_aload_n hx hb dX9_takesE_12 rfl (lv_at hl 0 rfl) ?_
      obtain ⟨r_315, S_314, hc_316, h⟩ := bd_e h
      refine mw_calli (As := []) (rest := []) cx (cc_next l D cs ad S S_314  r_315 hc_316) (cwV 0 hts (uG uw_X9_next ul_RX9_145 ui_X9_next us_RX9_X9_next un_RX9) rfl rfl rfl ud_X9_next ⟨Nat.le_of_ble_eq_true rfl, Nat.le_of_ble_eq_true rfl⟩) w rfl hl.1 rfl (Nat.le_of_ble_eq_true rfl) dX9_takesE_13 (fun H locs w => ?_)
      refine lv_istore_n (lv' := [(2, .int r_315), (0, .ref (ad 100)), (1, .int x1)]) hx hb dX9_takesE_16 rfl hl (by decide) rfl (fun ls hl => ?_)
      refine lv_iload_n hx hb dX9_takesE_17 rfl (lv_at hl 2 rfl) ?_
      refine lv_if_eq (tgt := 100) hx hb dX9_takesE_18 (by decide) (fun q => ?_) (fun q => ?_)
      · have h := br_p q h
        refine lv_iload_n hx hb dX9_takesE_100 rfl (lv_at hl 0 rfl) ?_
        refine lv_bipush (v := (38 : Int32)) hx hb dX9_takesE_101 (by decide) ?_
        refine lv_icmp_eq (tgt := 112) hx hb dX9_takesE_103 (by decide) (fun q => ?_) (fun q => ?_)
        · have h := br_p q h
          exact J112 k12 hk12 r_315 S_314 h _ _ _ (lv_sub hl [1, 0] rfl) w
        · have h := br_n q h
          refine lv_iload_n hx hb dX9_takesE_106 rfl (lv_at hl 0 rfl) ?_
          refine lv_bipush (v := (124 : Int32)) hx hb dX9_takesE_107 (by decide) ?_
          refine lv_icmp_ne (tgt := 152) hx hb dX9_takesE_109 (by decide) (fun q => ?_) (fun q => ?_)
          · have h := br_n q h
            refine lv_aload_n hx hb dX9_takesE_152 rfl (lv_at hl 1 rfl) ?_
            refine lv_bipush (v := (124 : Int32)) hx hb dX9_takesE_153 (by decide) ?_
            obtain ⟨r_318, S_317, hc_319, h⟩ := bd_e h
            refine mw_callv (As := [.int (124 : Int32)]) (rest := []) cx (cc_settle l D cs ad S_314 S_317 (124 : Int32) r_318 hc_319) (cwV 1 hts (uG uw_X9_settle ul_RX9_163 ui_X9_settle us_RX9_X9_settle un_RX9) rfl rfl rfl ud_X9_settle ⟨Nat.le_of_ble_eq_true rfl, Nat.le_of_ble_eq_true rfl⟩) w rfl hl.1 rfl (Nat.le_of_ble_eq_true rfl) dX9_takesE_155 (fun H locs w => ?_)
            refine lv_aload_n hx hb dX9_takesE_158 rfl (lv_at hl 1 rfl) ?_
            refine mw_getI cx hin w 22 (by decide) (List.mem_cons_of_mem _ uf_RX9_77) dX9_takesE_159 ?_
            refine lv_if_ne (tgt := 167) hx hb dX9_takesE_162 (by decide) (fun q => ?_) (fun q => ?_)
            · have h := br_n q h
              refine lv_iload_n hx hb dX9_takesE_167 rfl (lv_at hl 0 rfl) ?_
              refine lv_bipush (v := (41 : Int32)) hx hb dX9_takesE_168 (by decide) ?_
              refine lv_icmp_eq (tgt := 175) hx hb dX9_takesE_170 (by decide) (fun q => ?_) (fun q => ?_)
              · have h := br_p q h
                refine lv_aload_n hx hb dX9_takesE_175 rfl (lv_at hl 1 rfl) ?_
                refine lv_dup hx hb dX9_takesE_176 rfl ?_
                refine mw_getI cx hin w 22 (by decide) (List.mem_cons_of_mem _ uf_RX9_77) dX9_takesE_177 ?_
                refine lv_iconst (v := (1 : Int32)) hx hb dX9_takesE_180 (by decide) ?_
                refine lv_isub hx hb dX9_takesE_181 ?_
                obtain ⟨S_320, eS_320, h⟩ := lt_e h
                refine mw_putI cx hin w 22 eS_320 (by decide +kernel) (List.mem_cons_of_mem _ uf_RX9_77) dX9_takesE_182 (fun H locs w => ?_)
                refine lv_aload_n hx hb dX9_takesE_185 rfl (lv_at hl 1 rfl) ?_
                refine lv_dup hx hb dX9_takesE_186 rfl ?_
                refine mw_getI cx hin w 23 (by decide) (List.mem_cons_of_mem _ uf_RX9_80) dX9_takesE_187 ?_
                refine lv_iconst (v := (1 : Int32)) hx hb dX9_takesE_190 (by decide) ?_
                refine lv_isub hx hb dX9_takesE_191 ?_
                obtain ⟨S_321, eS_321, h⟩ := lt_e h
                refine mw_putI cx hin w 23 eS_321 (by decide +kernel) (List.mem_cons_of_mem _ uf_RX9_80) dX9_takesE_192 (fun H locs w => ?_)
                refine lv_aload_n hx hb dX9_takesE_195 rfl (lv_at hl 1 rfl) ?_
                refine lv_dup hx hb dX9_takesE_196 rfl ?_
                refine mw_getI cx hin w 11 (by decide) (List.mem_cons_of_mem _ uf_RX9_44) dX9_takesE_197 ?_
                refine lv_iconst (v := (1 : Int32)) hx hb dX9_takesE_200 (by decide) ?_
                refine lv_iadd hx hb dX9_takesE_201 ?_
                obtain ⟨S_322, eS_322, h⟩ := lt_e h
                refine mw_putI cx hin w 11 eS_322 (by decide +kernel) (List.mem_cons_of_mem _ uf_RX9_44) dX9_takesE_202 (fun H locs w => ?_)
                refine lv_aload_n hx hb dX9_takesE_205 rfl (lv_at hl 1 rfl) ?_
                obtain ⟨r_324, S_323, hc_325, h⟩ := bd_e h
                refine mw_callv (As := []) (rest := []) cx (cc_whole l D cs ad S_322 S_323  r_324 hc_325) (cwV 0 hts (uG uw_X9_whole ul_RX9_156 ui_X9_whole us_RX9_X9_whole un_RX9) rfl rfl rfl ud_X9_whole ⟨Nat.le_of_ble_eq_true rfl, Nat.le_of_ble_eq_true rfl⟩) w rfl hl.1 rfl (Nat.le_of_ble_eq_true rfl) dX9_takesE_206 (fun H locs w => ?_)
                refine lv_goto (tgt := 12) hx hb dX9_takesE_209 (by decide) ?_
                exact hk12 x1 S_323 h _ _ _ (lv_sub hl [1, 2] rfl) w
              · have h := br_n q h
                refine lv_iconst (v := (0 : Int32)) hx hb dX9_takesE_173 (by decide) ?_
                exact mw_zret cx (Or.inl rfl) (rt_e h) w dX9_takesE_174
            · have h := br_p q h
              refine lv_iconst (v := (1 : Int32)) hx hb dX9_takesE_165 (by decide) ?_
              exact mw_zret cx (Or.inr rfl) (rt_e h) w dX9_takesE_166
          · have h := br_p q h
            exact J112 k12 hk12 r_315 S_314 h _ _ _ (lv_sub hl [1, 0] rfl) w
      · have h := br_n q h
        refine lv_iload_n hx hb dX9_takesE_21 rfl (lv_at hl 0 rfl) ?_
        refine lv_bipush (v := (33 : Int32)) hx hb dX9_takesE_22 (by decide) ?_
        refine lv_icmp_eq (tgt := 33) hx hb dX9_takesE_24 (by decide) (fun q => ?_) (fun q => ?_)
        · have h := br_p q h
          exact J33 k12 hk12 x1 r_315 S_314 h _ _ _ (lv_sub hl [1, 2, 0] rfl) w
        · have h := br_n q h
          refine lv_iload_n hx hb dX9_takesE_27 rfl (lv_at hl 0 rfl) ?_
          refine lv_bipush (v := (40 : Int32)) hx hb dX9_takesE_28 (by decide) ?_
          refine lv_icmp_ne (tgt := 86) hx hb dX9_takesE_30 (by decide) (fun q => ?_) (fun q => ?_)
          · have h := br_n q h
            refine lv_aload_n hx hb dX9_takesE_86 rfl (lv_at hl 1 rfl) ?_
            obtain ⟨r_327, S_326, hc_328, h⟩ := bd_e h
            refine mw_calli (As := []) (rest := []) cx (cc_takesTest l D cs ad S_314 S_326  r_327 hc_328) (cwV 0 hts (uG uw_X9_takesTest ul_RX9_159 ui_X9_takesTest us_RX9_X9_takesTest un_RX9) rfl rfl rfl ud_X9_takesTest ⟨Nat.le_of_ble_eq_true rfl, Nat.le_of_ble_eq_true rfl⟩) w rfl hl.1 rfl (Nat.le_of_ble_eq_true rfl) dX9_takesE_87 (fun H locs w => ?_)
            refine lv_if_eq (tgt := 98) hx hb dX9_takesE_90 (by decide) (fun q => ?_) (fun q => ?_)
            · have h := br_p q h
              refine lv_iconst (v := (0 : Int32)) hx hb dX9_takesE_98 (by decide) ?_
              exact mw_zret cx (Or.inl rfl) (rt_e h) w dX9_takesE_99
            · have h := br_n q h
              refine lv_iconst (v := (0 : Int32)) hx hb dX9_takesE_93 (by decide) ?_
              obtain ⟨x1_329, ex1_329, h⟩ := lt_e h
              refine top_i ex1_329 ?_
              refine lv_istore_n (lv' := [(1, .int x1_329), (2, .int r_315), (0, .ref (ad 100))]) hx hb dX9_takesE_94 rfl hl (by decide) rfl (fun ls hl => ?_)
              refine lv_goto (tgt := 12) hx hb dX9_takesE_95 (by decide) ?_
              exact hk12 x1_329 S_326 h _ _ _ (lv_sub hl [2, 0] rfl) w
          · have h := br_p q h
            exact J33 k12 hk12 x1 r_315 S_314 h _ _ _ (lv_sub hl [1, 2, 0] rfl) w
  unfold mm_takesE at h
  refine lv_aload_n hx hb dX9_takesE_0 rfl (lv_at hl 0 rfl) ?_
  refine lv_iconst (v := (0 : Int32)) hx hb dX9_takesE_1 (by decide) ?_
  obtain ⟨S_430, eS_430, h⟩ := lt_e h
  refine mw_putI cx hin w 22 eS_430 (by decide +kernel) (List.mem_cons_of_mem _ uf_RX9_77) dX9_takesE_2 (fun H locs w => ?_)
  refine lv_aload_n hx hb dX9_takesE_5 rfl (lv_at hl 0 rfl) ?_
  refine lv_iconst (v := (0 : Int32)) hx hb dX9_takesE_6 (by decide) ?_
  obtain ⟨S_431, eS_431, h⟩ := lt_e h
  refine mw_putI cx hin w 23 eS_431 (by decide +kernel) (List.mem_cons_of_mem _ uf_RX9_80) dX9_takesE_7 (fun H locs w => ?_)
  refine lv_iconst (v := (1 : Int32)) hx hb dX9_takesE_10 (by decide) ?_
  obtain ⟨x1_432, ex1_432, h⟩ := lt_e h
  refine top_i ex1_432 ?_
  refine lv_istore_n (lv' := [(1, .int x1_432), (0, .ref (ad 100))]) hx hb dX9_takesE_11 rfl hl (by decide) rfl (fun ls hl => ?_)
  exact L12  4000 x1_432 S_431 h _ _ _ (lv_sub hl [1, 0] rfl) w
def mm_takesHead_120  (S : MS) : Option (Int32 × MS) := some ((0 : Int32), S)
def mm_takesHead (S : MS) (a1 : Int32) : Option (Int32 × MS) := bd (mm_next S ) (fun r_202 S_201 => if r_202 = (105 : Int32) then (ck (vin a1 60) (lt_ (mR S_201 15 (a1).toNatClampNeg (1 : Int32)) (fun S_206 => bd (mm_takesWord S_206 (302 : Int32) (2 : Int32)) (fun r_208 S_207 => ck (z01 r_208) (some (r_208, S_207)))))) else (if r_202 = (109 : Int32) then (ck (vin a1 60) (lt_ (mR S_201 15 (a1).toNatClampNeg (3 : Int32)) (fun S_213 => bd (mm_takesWord S_213 (13369 : Int32) (3 : Int32)) (fun r_215 S_214 => ck (z01 r_215) (some (r_215, S_214)))))) else (if r_202 = (111 : Int32) then (ck (vin a1 60) (lt_ (mR S_201 15 (a1).toNatClampNeg (0 : Int32)) (fun S_220 => bd (mm_takesWord S_220 (16052 : Int32) (3 : Int32)) (fun r_222 S_221 => ck (z01 r_222) (some (r_222, S_221)))))) else (ck (vin a1 60) (lt_ (mR S_201 15 (a1).toNatClampNeg (2 : Int32)) (fun S_226 => bd (mm_takesWord S_226 (464036 : Int32) (4 : Int32)) (fun r_228 S_227 => if r_228 = (0 : Int32) then (mm_takesHead_120   S_227) else (bd (mm_next S_227 ) (fun r_231 S_230 => bd (mm_in S_230 r_231 (48 : Int32) (57 : Int32)) (fun r_234 S_233 => if r_234 = (0 : Int32) then (mm_takesHead_120   S_233) else (bd (mm_next S_233 ) (fun r_237 S_236 => ck (vin a1 60) (lt_ (mR S_236 16 (a1).toNatClampNeg (r_237 - (48 : Int32))) (fun S_240 => lt_ (mP S_240 11 ((S_240.1 11) + (1 : Int32))) (fun S_241 => bd (mm_takes S_241 (32 : Int32)) (fun r_243 S_242 => ck (z01 r_243) (some (r_243, S_242))))))))))))))))))
abbrev wu_X9_takesHead : List Cond := .code yX9_takesHead cX9_takesHead 2 (some .boolean) :: wsL_law
theorem ud_X9_takesHead : yX9_takesHead.cls = RX9 ∧ yX9_takesHead.cls ≠ "java/lang/invoke/MethodHandle" ∧ yX9_takesHead.cls ≠ "java/lang/invoke/VarHandle" ∧ (parseMethodDescriptor yX9_takesHead.desc).map (fun d => d.parameters.length) = some 1 := by decide +kernel
abbrev rmX9_takesHead : Room := { frames := 3, cells := 0, slots := 0, locals := 64 }
set_option maxHeartbeats 4000000 in
set_option maxRecDepth 100000 in
theorem cc_takesHead (l : Launch) (D : va_G) (cs : Nat → ClassId) (ad : Nat → Nat) (S T : MS) (a1 : Int32) (r0 : Int32) (h : mm_takesHead S a1 = some (r0, T)) : MetI l yX9_takesHead wu_X9_takesHead rmX9_takesHead D cs ad [.int a1] S T r0 := by
  refine mo_I (ty := .boolean) (cc := cX9_takesHead) (maxL := 2) ⟨by decide, rfl⟩ rfl (Nat.le_of_ble_eq_true rfl) ?_
  intro p e s m args below meth c ls cx hl w
  have hx := cx.1
  have hb := cx.2.1
  have hts := cx.2.2.2.1
  have hown := cx.2.2.2.2.1
  have hin : ∀ w ∈ wsX90, w ∈ wu_X9_takesHead := fun _ hq => List.mem_cons_of_mem _ (inlX9 _ hq)
  have hl : lv_has ls 2 [(0, .ref (ad 100)), (1, .int a1)] := hl
  have J120 : ∀  (S : MS), mm_takesHead_120   S = some (r0, T) → mGo p l e rmX9_takesHead s m args below meth c 2 D cs ad (mQI below D cs ad args s r0 T) 120 [] [] S := by
    intro  S h H locs ls hl w
    unfold mm_takesHead_120 at h
    refine lv_iconst (v := (0 : Int32)) hx hb dX9_takesHead_120 (by decide) ?_
    exact mw_zret cx (Or.inl rfl) (rt_e h) w dX9_takesHead_121
  unfold mm_takesHead at h
  refine lv_aload_n hx hb dX9_takesHead_0 rfl (lv_at hl 0 rfl) ?_
  obtain ⟨r_202, S_201, hc_203, h⟩ := bd_e h
  refine mw_calli (As := []) (rest := []) cx (cc_next l D cs ad S S_201  r_202 hc_203) (cwV 0 hts (uG uw_X9_next ul_RX9_145 ui_X9_next us_RX9_X9_next un_RX9) rfl rfl rfl ud_X9_next ⟨Nat.le_of_ble_eq_true rfl, Nat.le_of_ble_eq_true rfl⟩) w rfl hl.1 rfl (Nat.le_of_ble_eq_true rfl) dX9_takesHead_1 (fun H locs w => ?_)
  by_cases q_204 : r_202 = (105 : Int32)
  · have h := br_p q_204 h
    refine lv_lookup (tgt := 56) (off := 52) hx hb dX9_takesHead_4 (by decide) (by rw [q_204] <;> rfl) (by decide) ?_
    refine lv_aload_n hx hb dX9_takesHead_56 rfl (lv_at hl 0 rfl) ?_
    refine mw_getR cx hin w 15 (by decide) (List.mem_cons_of_mem _ uf_RX9_56) dX9_takesHead_57 ?_
    refine lv_iload_n hx hb dX9_takesHead_60 rfl (lv_at hl 1 rfl) ?_
    refine lv_iconst (v := (1 : Int32)) hx hb dX9_takesHead_61 (by decide) ?_
    obtain ⟨hq_205, h⟩ := ck_e h
    obtain ⟨S_206, eS_206, h⟩ := lt_e h
    refine mw_iast cx w 9 15 60 (by decide) hq_205 eS_206 dX9_takesHead_62 (fun H locs w => ?_)
    refine lv_aload_n hx hb dX9_takesHead_63 rfl (lv_at hl 0 rfl) ?_
    refine lv_sipush (v := (302 : Int32)) hx hb dX9_takesHead_64 (by decide) ?_
    refine lv_iconst (v := (2 : Int32)) hx hb dX9_takesHead_67 (by decide) ?_
    obtain ⟨r_208, S_207, hc_209, h⟩ := bd_e h
    refine mw_calli (As := [.int (302 : Int32), .int (2 : Int32)]) (rest := []) cx (cc_takesWord l D cs ad S_206 S_207 (302 : Int32) (2 : Int32) r_208 hc_209) (cwV 2 hts (uG uw_X9_takesWord ul_RX9_166 ui_X9_takesWord us_RX9_X9_takesWord un_RX9) rfl rfl rfl ud_X9_takesWord ⟨Nat.le_of_ble_eq_true rfl, Nat.le_of_ble_eq_true rfl⟩) w rfl hl.1 rfl (Nat.le_of_ble_eq_true rfl) dX9_takesHead_68 (fun H locs w => ?_)
    obtain ⟨hq_210, h⟩ := ck_e h
    exact mw_zret cx (z01_e hq_210) (rt_e h) w dX9_takesHead_71
  have h := br_n q_204 h
  by_cases q_211 : r_202 = (109 : Int32)
  · have h := br_p q_211 h
    refine lv_lookup (tgt := 72) (off := 68) hx hb dX9_takesHead_4 (by decide) (by rw [q_211] <;> rfl) (by decide) ?_
    refine lv_aload_n hx hb dX9_takesHead_72 rfl (lv_at hl 0 rfl) ?_
    refine mw_getR cx hin w 15 (by decide) (List.mem_cons_of_mem _ uf_RX9_56) dX9_takesHead_73 ?_
    refine lv_iload_n hx hb dX9_takesHead_76 rfl (lv_at hl 1 rfl) ?_
    refine lv_iconst (v := (3 : Int32)) hx hb dX9_takesHead_77 (by decide) ?_
    obtain ⟨hq_212, h⟩ := ck_e h
    obtain ⟨S_213, eS_213, h⟩ := lt_e h
    refine mw_iast cx w 9 15 60 (by decide) hq_212 eS_213 dX9_takesHead_78 (fun H locs w => ?_)
    refine lv_aload_n hx hb dX9_takesHead_79 rfl (lv_at hl 0 rfl) ?_
    refine lv_sipush (v := (13369 : Int32)) hx hb dX9_takesHead_80 (by decide) ?_
    refine lv_iconst (v := (3 : Int32)) hx hb dX9_takesHead_83 (by decide) ?_
    obtain ⟨r_215, S_214, hc_216, h⟩ := bd_e h
    refine mw_calli (As := [.int (13369 : Int32), .int (3 : Int32)]) (rest := []) cx (cc_takesWord l D cs ad S_213 S_214 (13369 : Int32) (3 : Int32) r_215 hc_216) (cwV 2 hts (uG uw_X9_takesWord ul_RX9_166 ui_X9_takesWord us_RX9_X9_takesWord un_RX9) rfl rfl rfl ud_X9_takesWord ⟨Nat.le_of_ble_eq_true rfl, Nat.le_of_ble_eq_true rfl⟩) w rfl hl.1 rfl (Nat.le_of_ble_eq_true rfl) dX9_takesHead_84 (fun H locs w => ?_)
    obtain ⟨hq_217, h⟩ := ck_e h
    exact mw_zret cx (z01_e hq_217) (rt_e h) w dX9_takesHead_87
  have h := br_n q_211 h
  by_cases q_218 : r_202 = (111 : Int32)
  · have h := br_p q_218 h
    refine lv_lookup (tgt := 40) (off := 36) hx hb dX9_takesHead_4 (by decide) (by rw [q_218] <;> rfl) (by decide) ?_
    refine lv_aload_n hx hb dX9_takesHead_40 rfl (lv_at hl 0 rfl) ?_
    refine mw_getR cx hin w 15 (by decide) (List.mem_cons_of_mem _ uf_RX9_56) dX9_takesHead_41 ?_
    refine lv_iload_n hx hb dX9_takesHead_44 rfl (lv_at hl 1 rfl) ?_
    refine lv_iconst (v := (0 : Int32)) hx hb dX9_takesHead_45 (by decide) ?_
    obtain ⟨hq_219, h⟩ := ck_e h
    obtain ⟨S_220, eS_220, h⟩ := lt_e h
    refine mw_iast cx w 9 15 60 (by decide) hq_219 eS_220 dX9_takesHead_46 (fun H locs w => ?_)
    refine lv_aload_n hx hb dX9_takesHead_47 rfl (lv_at hl 0 rfl) ?_
    refine lv_sipush (v := (16052 : Int32)) hx hb dX9_takesHead_48 (by decide) ?_
    refine lv_iconst (v := (3 : Int32)) hx hb dX9_takesHead_51 (by decide) ?_
    obtain ⟨r_222, S_221, hc_223, h⟩ := bd_e h
    refine mw_calli (As := [.int (16052 : Int32), .int (3 : Int32)]) (rest := []) cx (cc_takesWord l D cs ad S_220 S_221 (16052 : Int32) (3 : Int32) r_222 hc_223) (cwV 2 hts (uG uw_X9_takesWord ul_RX9_166 ui_X9_takesWord us_RX9_X9_takesWord un_RX9) rfl rfl rfl ud_X9_takesWord ⟨Nat.le_of_ble_eq_true rfl, Nat.le_of_ble_eq_true rfl⟩) w rfl hl.1 rfl (Nat.le_of_ble_eq_true rfl) dX9_takesHead_52 (fun H locs w => ?_)
    obtain ⟨hq_224, h⟩ := ck_e h
    exact mw_zret cx (z01_e hq_224) (rt_e h) w dX9_takesHead_55
  have h := br_n q_218 h
  refine lv_lookup (tgt := 88) (off := 84) hx hb dX9_takesHead_4 (by decide) ((lv_osw q_204 (by decide)).trans ((lv_osw q_211 (by decide)).trans ((lv_osw q_218 (by decide)).trans rfl))) (by decide) ?_
  refine lv_aload_n hx hb dX9_takesHead_88 rfl (lv_at hl 0 rfl) ?_
  refine mw_getR cx hin w 15 (by decide) (List.mem_cons_of_mem _ uf_RX9_56) dX9_takesHead_89 ?_
  refine lv_iload_n hx hb dX9_takesHead_92 rfl (lv_at hl 1 rfl) ?_
  refine lv_iconst (v := (2 : Int32)) hx hb dX9_takesHead_93 (by decide) ?_
  obtain ⟨hq_225, h⟩ := ck_e h
  obtain ⟨S_226, eS_226, h⟩ := lt_e h
  refine mw_iast cx w 9 15 60 (by decide) hq_225 eS_226 dX9_takesHead_94 (fun H locs w => ?_)
  refine lv_aload_n hx hb dX9_takesHead_95 rfl (lv_at hl 0 rfl) ?_
  refine lv_ldc (v := (464036 : Int32)) hx hb hown (hts _ (List.mem_cons_of_mem _ uc_RX9_170)) dX9_takesHead_96 ?_
  refine lv_iconst (v := (4 : Int32)) hx hb dX9_takesHead_98 (by decide) ?_
  obtain ⟨r_228, S_227, hc_229, h⟩ := bd_e h
  refine mw_calli (As := [.int (464036 : Int32), .int (4 : Int32)]) (rest := []) cx (cc_takesWord l D cs ad S_226 S_227 (464036 : Int32) (4 : Int32) r_228 hc_229) (cwV 2 hts (uG uw_X9_takesWord ul_RX9_166 ui_X9_takesWord us_RX9_X9_takesWord un_RX9) rfl rfl rfl ud_X9_takesWord ⟨Nat.le_of_ble_eq_true rfl, Nat.le_of_ble_eq_true rfl⟩) w rfl hl.1 rfl (Nat.le_of_ble_eq_true rfl) dX9_takesHead_99 (fun H locs w => ?_)
  refine lv_if_eq (tgt := 120) hx hb dX9_takesHead_102 (by decide) (fun q => ?_) (fun q => ?_)
  · have h := br_p q h
    exact J120   S_227 h _ _ _ (lv_sub hl [] rfl) w
  · have h := br_n q h
    refine lv_aload_n hx hb dX9_takesHead_105 rfl (lv_at hl 0 rfl) ?_
    refine lv_aload_n hx hb dX9_takesHead_106 rfl (lv_at hl 0 rfl) ?_
    obtain ⟨r_231, S_230, hc_232, h⟩ := bd_e h
    refine mw_calli (As := []) (rest := [.ref (ad 100)]) cx (cc_next l D cs ad S_227 S_230  r_231 hc_232) (cwV 0 hts (uG uw_X9_next ul_RX9_145 ui_X9_next us_RX9_X9_next un_RX9) rfl rfl rfl ud_X9_next ⟨Nat.le_of_ble_eq_true rfl, Nat.le_of_ble_eq_true rfl⟩) w rfl hl.1 rfl (Nat.le_of_ble_eq_true rfl) dX9_takesHead_107 (fun H locs w => ?_)
    refine lv_bipush (v := (48 : Int32)) hx hb dX9_takesHead_110 (by decide) ?_
    refine lv_bipush (v := (57 : Int32)) hx hb dX9_takesHead_112 (by decide) ?_
    obtain ⟨r_234, S_233, hc_235, h⟩ := bd_e h
    refine mw_calli (As := [.int r_231, .int (48 : Int32), .int (57 : Int32)]) (rest := []) cx (cc_in l D cs ad S_230 S_233 r_231 (48 : Int32) (57 : Int32) r_234 hc_235) (cwV 3 hts (uG uw_X9_in ul_RX9_133 ui_X9_in us_RX9_X9_in un_RX9) rfl rfl rfl ud_X9_in ⟨Nat.le_of_ble_eq_true rfl, Nat.le_of_ble_eq_true rfl⟩) w rfl hl.1 rfl (Nat.le_of_ble_eq_true rfl) dX9_takesHead_114 (fun H locs w => ?_)
    refine lv_if_ne (tgt := 122) hx hb dX9_takesHead_117 (by decide) (fun q => ?_) (fun q => ?_)
    · have h := br_n q h
      refine lv_aload_n hx hb dX9_takesHead_122 rfl (lv_at hl 0 rfl) ?_
      refine mw_getR cx hin w 16 (by decide) (List.mem_cons_of_mem _ uf_RX9_59) dX9_takesHead_123 ?_
      refine lv_iload_n hx hb dX9_takesHead_126 rfl (lv_at hl 1 rfl) ?_
      refine lv_aload_n hx hb dX9_takesHead_127 rfl (lv_at hl 0 rfl) ?_
      obtain ⟨r_237, S_236, hc_238, h⟩ := bd_e h
      refine mw_calli (As := []) (rest := [.int a1, .ref (ad 16)]) cx (cc_next l D cs ad S_233 S_236  r_237 hc_238) (cwV 0 hts (uG uw_X9_next ul_RX9_145 ui_X9_next us_RX9_X9_next un_RX9) rfl rfl rfl ud_X9_next ⟨Nat.le_of_ble_eq_true rfl, Nat.le_of_ble_eq_true rfl⟩) w rfl hl.1 rfl (Nat.le_of_ble_eq_true rfl) dX9_takesHead_128 (fun H locs w => ?_)
      refine lv_bipush (v := (48 : Int32)) hx hb dX9_takesHead_131 (by decide) ?_
      refine lv_isub hx hb dX9_takesHead_133 ?_
      obtain ⟨hq_239, h⟩ := ck_e h
      obtain ⟨S_240, eS_240, h⟩ := lt_e h
      refine mw_iast cx w 10 16 60 (by decide) hq_239 eS_240 dX9_takesHead_134 (fun H locs w => ?_)
      refine lv_aload_n hx hb dX9_takesHead_135 rfl (lv_at hl 0 rfl) ?_
      refine lv_dup hx hb dX9_takesHead_136 rfl ?_
      refine mw_getI cx hin w 11 (by decide) (List.mem_cons_of_mem _ uf_RX9_44) dX9_takesHead_137 ?_
      refine lv_iconst (v := (1 : Int32)) hx hb dX9_takesHead_140 (by decide) ?_
      refine lv_iadd hx hb dX9_takesHead_141 ?_
      obtain ⟨S_241, eS_241, h⟩ := lt_e h
      refine mw_putI cx hin w 11 eS_241 (by decide +kernel) (List.mem_cons_of_mem _ uf_RX9_44) dX9_takesHead_142 (fun H locs w => ?_)
      refine lv_aload_n hx hb dX9_takesHead_145 rfl (lv_at hl 0 rfl) ?_
      refine lv_bipush (v := (32 : Int32)) hx hb dX9_takesHead_146 (by decide) ?_
      obtain ⟨r_243, S_242, hc_244, h⟩ := bd_e h
      refine mw_calli (As := [.int (32 : Int32)]) (rest := []) cx (cc_takes l D cs ad S_241 S_242 (32 : Int32) r_243 hc_244) (cwV 1 hts (uG uw_X9_takes ul_RX9_149 ui_X9_takes us_RX9_X9_takes un_RX9) rfl rfl rfl ud_X9_takes ⟨Nat.le_of_ble_eq_true rfl, Nat.le_of_ble_eq_true rfl⟩) w rfl hl.1 rfl (Nat.le_of_ble_eq_true rfl) dX9_takesHead_148 (fun H locs w => ?_)
      obtain ⟨hq_245, h⟩ := ck_e h
      exact mw_zret cx (z01_e hq_245) (rt_e h) w dX9_takesHead_151
    · have h := br_p q h
      exact J120   S_233 h _ _ _ (lv_sub hl [] rfl) w
def mm_goes_99  (S : MS) : Option (Int32 × MS) := some ((0 : Int32), S)
def mm_goes_15 (k15 : Int32 → Int32 → MS → Option (Int32 × MS)) (x1 : Int32) (x2 : Int32) (S : MS) : Option (Int32 × MS) := lt_ ((((6 : Int32) * x1) + x2)) (fun x3_201 => bd (mm_takesHead S x3_201) (fun r_203 S_202 => if r_203 = (0 : Int32) then (some ((0 : Int32), S_202)) else (ck (vin x3_201 60) (lt_ (mR S_202 17 (x3_201).toNatClampNeg (S_202.1 20)) (fun S_206 => bd (mm_takesE S_206 ) (fun r_208 S_207 => if r_208 = (0 : Int32) then (some ((0 : Int32), S_207)) else (ck (vin x3_201 60) (lt_ (mR S_207 18 (x3_201).toNatClampNeg (S_207.1 20)) (fun S_211 => lt_ (x2 + (1 : Int32)) (fun x2_212 => ck (vin x1 10) (lt_ (mR S_211 14 (x1).toNatClampNeg x2_212) (fun S_214 => if (S_214.1 11) = (S_214.1 10) then (some ((1 : Int32), S_214)) else (if x2_212 = (6 : Int32) then (mm_goes_99   S_214) else (bd (mm_takes S_214 (59 : Int32)) (fun r_216 S_215 => if r_216 = (0 : Int32) then (mm_goes_99   S_215) else (k15 x1 x2_212 S_215))))))))))))))))
def mm_goes_15L : Nat → Int32 → Int32 → MS → Option (Int32 × MS)
  | 0, _, _, _ => none
  | n + 1, x1, x2, S => mm_goes_15  (mm_goes_15L  n) x1 x2 S
def mm_goes (S : MS) (a1 : Int32) : Option (Int32 × MS) := lt_ (mP S 11 (0 : Int32)) (fun S_318 => lt_ (mP S_318 20 ((100 : Int32) * a1)) (fun S_319 => lt_ ((0 : Int32)) (fun x2_320 => mm_goes_15L  4000 a1 x2_320 S_319)))
abbrev wu_X9_goes : List Cond := .code yX9_goes cX9_goes 4 (some .boolean) :: wsL_law
theorem ud_X9_goes : yX9_goes.cls = RX9 ∧ yX9_goes.cls ≠ "java/lang/invoke/MethodHandle" ∧ yX9_goes.cls ≠ "java/lang/invoke/VarHandle" ∧ (parseMethodDescriptor yX9_goes.desc).map (fun d => d.parameters.length) = some 1 := by decide +kernel
abbrev rmX9_goes : Room := { frames := 4, cells := 0, slots := 0, locals := 87 }
set_option maxHeartbeats 4000000 in
set_option maxRecDepth 100000 in
theorem cc_goes (l : Launch) (D : va_G) (cs : Nat → ClassId) (ad : Nat → Nat) (S T : MS) (a1 : Int32) (r0 : Int32) (h : mm_goes S a1 = some (r0, T)) : MetI l yX9_goes wu_X9_goes rmX9_goes D cs ad [.int a1] S T r0 := by
  refine mo_I (ty := .boolean) (cc := cX9_goes) (maxL := 4) ⟨by decide, rfl⟩ rfl (Nat.le_of_ble_eq_true rfl) ?_
  intro p e s m args below meth c ls cx hl w
  have hx := cx.1
  have hb := cx.2.1
  have hts := cx.2.2.2.1
  have hown := cx.2.2.2.2.1
  have hin : ∀ w ∈ wsX90, w ∈ wu_X9_goes := fun _ hq => List.mem_cons_of_mem _ (inlX9 _ hq)
  have hl : lv_has ls 4 [(0, .ref (ad 100)), (1, .int a1)] := hl
  have J99 : ∀  (S : MS), mm_goes_99   S = some (r0, T) → mGo p l e rmX9_goes s m args below meth c 4 D cs ad (mQI below D cs ad args s r0 T) 99 [] [] S := by
    intro  S h H locs ls hl w
    unfold mm_goes_99 at h
    refine lv_iconst (v := (0 : Int32)) hx hb dX9_goes_99 (by decide) ?_
    exact mw_zret cx (Or.inl rfl) (rt_e h) w dX9_goes_100
  have L15 : ∀ (n : Nat) (x1 : Int32) (x2 : Int32) (S : MS), mm_goes_15L  n x1 x2 S = some (r0, T) → mGo p l e rmX9_goes s m args below meth c 4 D cs ad (mQI below D cs ad args s r0 T) 15 [(0, .ref (ad 100)), (1, .int x1), (2, .int x2)] [] S := by
    intro n
    induction n with
    | zero =>
      intro x1 x2 S h
      have h : none = some (r0, T) := h
      cases h
    | succ n hk15 =>
      intro x1 x2 S h H locs ls hl w
      have h : mm_goes_15  (mm_goes_15L  n) x1 x2 S = some (r0, T) := h
      generalize mm_goes_15L  n = k15 at h hk15
      unfold mm_goes_15 at h
      refine lv_bipush (v := (6 : Int32)) hx hb dX9_goes_15 (by decide) ?_
      refine lv_iload_n hx hb dX9_goes_17 rfl (lv_at hl 1 rfl) ?_
      refine lv_imul hx hb dX9_goes_18 ?_
      refine lv_iload_n hx hb dX9_goes_19 rfl (lv_at hl 2 rfl) ?_
      refine lv_iadd hx hb dX9_goes_20 ?_
      obtain ⟨x3_201, ex3_201, h⟩ := lt_e h
      refine top_i ex3_201 ?_
      refine lv_istore_n (lv' := [(3, .int x3_201), (0, .ref (ad 100)), (1, .int x1), (2, .int x2)]) hx hb dX9_goes_21 rfl hl (by decide) rfl (fun ls hl => ?_)
      refine lv_aload_n hx hb dX9_goes_22 rfl (lv_at hl 1 rfl) ?_
      refine lv_iload_n hx hb dX9_goes_23 rfl (lv_at hl 0 rfl) ?_
      obtain ⟨r_203, S_202, hc_204, h⟩ := bd_e h
      refine mw_calli (As := [.int x3_201]) (rest := []) cx (cc_takesHead l D cs ad S S_202 x3_201 r_203 hc_204) (cwV 1 hts (uG uw_X9_takesHead ul_RX9_171 ui_X9_takesHead us_RX9_X9_takesHead un_RX9) rfl rfl rfl ud_X9_takesHead ⟨Nat.le_of_ble_eq_true rfl, Nat.le_of_ble_eq_true rfl⟩) w rfl hl.1 rfl (Nat.le_of_ble_eq_true rfl) dX9_goes_24 (fun H locs w => ?_)
      refine lv_if_ne (tgt := 32) hx hb dX9_goes_27 (by decide) (fun q => ?_) (fun q => ?_)
      · have h := br_n q h
        refine lv_aload_n hx hb dX9_goes_32 rfl (lv_at hl 1 rfl) ?_
        refine mw_getR cx hin w 17 (by decide) (List.mem_cons_of_mem _ uf_RX9_62) dX9_goes_33 ?_
        refine lv_iload_n hx hb dX9_goes_36 rfl (lv_at hl 0 rfl) ?_
        refine lv_aload_n hx hb dX9_goes_37 rfl (lv_at hl 1 rfl) ?_
        refine mw_getI cx hin w 20 (by decide) (List.mem_cons_of_mem _ uf_RX9_71) dX9_goes_38 ?_
        obtain ⟨hq_205, h⟩ := ck_e h
        obtain ⟨S_206, eS_206, h⟩ := lt_e h
        refine mw_iast cx w 11 17 60 (by decide) hq_205 eS_206 dX9_goes_41 (fun H locs w => ?_)
        refine lv_aload_n hx hb dX9_goes_42 rfl (lv_at hl 1 rfl) ?_
        obtain ⟨r_208, S_207, hc_209, h⟩ := bd_e h
        refine mw_calli (As := []) (rest := []) cx (cc_takesE l D cs ad S_206 S_207  r_208 hc_209) (cwV 0 hts (uG uw_X9_takesE ul_RX9_174 ui_X9_takesE us_RX9_X9_takesE un_RX9) rfl rfl rfl ud_X9_takesE ⟨Nat.le_of_ble_eq_true rfl, Nat.le_of_ble_eq_true rfl⟩) w rfl hl.1 rfl (Nat.le_of_ble_eq_true rfl) dX9_goes_43 (fun H locs w => ?_)
        refine lv_if_ne (tgt := 51) hx hb dX9_goes_46 (by decide) (fun q => ?_) (fun q => ?_)
        · have h := br_n q h
          refine lv_aload_n hx hb dX9_goes_51 rfl (lv_at hl 1 rfl) ?_
          refine mw_getR cx hin w 18 (by decide) (List.mem_cons_of_mem _ uf_RX9_65) dX9_goes_52 ?_
          refine lv_iload_n hx hb dX9_goes_55 rfl (lv_at hl 0 rfl) ?_
          refine lv_aload_n hx hb dX9_goes_56 rfl (lv_at hl 1 rfl) ?_
          refine mw_getI cx hin w 20 (by decide) (List.mem_cons_of_mem _ uf_RX9_71) dX9_goes_57 ?_
          obtain ⟨hq_210, h⟩ := ck_e h
          obtain ⟨S_211, eS_211, h⟩ := lt_e h
          refine mw_iast cx w 12 18 60 (by decide) hq_210 eS_211 dX9_goes_60 (fun H locs w => ?_)
          obtain ⟨x2_212, ex2_212, h⟩ := lt_e h
          refine lv_iinc (v := x2_212) (lv' := [(2, .int x2_212), (3, .int x3_201), (0, .ref (ad 100)), (1, .int x1)]) hx hb dX9_goes_61 hl (k := 3) rfl (by rw [ex2_212]; rfl) (by decide) rfl (fun ls hl => ?_)
          refine lv_aload_n hx hb dX9_goes_64 rfl (lv_at hl 2 rfl) ?_
          refine mw_getR cx hin w 14 (by decide) (List.mem_cons_of_mem _ uf_RX9_53) dX9_goes_65 ?_
          refine lv_iload_n hx hb dX9_goes_68 rfl (lv_at hl 3 rfl) ?_
          refine lv_iload_n hx hb dX9_goes_69 rfl (lv_at hl 0 rfl) ?_
          obtain ⟨hq_213, h⟩ := ck_e h
          obtain ⟨S_214, eS_214, h⟩ := lt_e h
          refine mw_iast cx w 8 14 10 (by decide) hq_213 eS_214 dX9_goes_70 (fun H locs w => ?_)
          refine lv_aload_n hx hb dX9_goes_71 rfl (lv_at hl 2 rfl) ?_
          refine mw_getI cx hin w 11 (by decide) (List.mem_cons_of_mem _ uf_RX9_44) dX9_goes_72 ?_
          refine lv_aload_n hx hb dX9_goes_75 rfl (lv_at hl 2 rfl) ?_
          refine mw_getI cx hin w 10 (by decide) (List.mem_cons_of_mem _ uf_RX9_41) dX9_goes_76 ?_
          refine lv_icmp_ne (tgt := 84) hx hb dX9_goes_79 (by decide) (fun q => ?_) (fun q => ?_)
          · have h := br_n q h
            refine lv_iload_n hx hb dX9_goes_84 rfl (lv_at hl 0 rfl) ?_
            refine lv_bipush (v := (6 : Int32)) hx hb dX9_goes_85 (by decide) ?_
            refine lv_icmp_eq (tgt := 99) hx hb dX9_goes_87 (by decide) (fun q => ?_) (fun q => ?_)
            · have h := br_p q h
              exact J99   S_214 h _ _ _ (lv_sub hl [] rfl) w
            · have h := br_n q h
              refine lv_aload_n hx hb dX9_goes_90 rfl (lv_at hl 2 rfl) ?_
              refine lv_bipush (v := (59 : Int32)) hx hb dX9_goes_91 (by decide) ?_
              obtain ⟨r_216, S_215, hc_217, h⟩ := bd_e h
              refine mw_calli (As := [.int (59 : Int32)]) (rest := []) cx (cc_takes l D cs ad S_214 S_215 (59 : Int32) r_216 hc_217) (cwV 1 hts (uG uw_X9_takes ul_RX9_149 ui_X9_takes us_RX9_X9_takes un_RX9) rfl rfl rfl ud_X9_takes ⟨Nat.le_of_ble_eq_true rfl, Nat.le_of_ble_eq_true rfl⟩) w rfl hl.1 rfl (Nat.le_of_ble_eq_true rfl) dX9_goes_93 (fun H locs w => ?_)
              refine lv_if_ne (tgt := 101) hx hb dX9_goes_96 (by decide) (fun q => ?_) (fun q => ?_)
              · have h := br_n q h
                refine lv_goto (tgt := 15) hx hb dX9_goes_101 (by decide) ?_
                exact hk15 x1 x2_212 S_215 h _ _ _ (lv_sub hl [2, 3, 0] rfl) w
              · have h := br_p q h
                exact J99   S_215 h _ _ _ (lv_sub hl [] rfl) w
          · have h := br_p q h
            refine lv_iconst (v := (1 : Int32)) hx hb dX9_goes_82 (by decide) ?_
            exact mw_zret cx (Or.inr rfl) (rt_e h) w dX9_goes_83
        · have h := br_p q h
          refine lv_iconst (v := (0 : Int32)) hx hb dX9_goes_49 (by decide) ?_
          exact mw_zret cx (Or.inl rfl) (rt_e h) w dX9_goes_50
      · have h := br_p q h
        refine lv_iconst (v := (0 : Int32)) hx hb dX9_goes_30 (by decide) ?_
        exact mw_zret cx (Or.inl rfl) (rt_e h) w dX9_goes_31
  unfold mm_goes at h
  refine lv_aload_n hx hb dX9_goes_0 rfl (lv_at hl 0 rfl) ?_
  refine lv_iconst (v := (0 : Int32)) hx hb dX9_goes_1 (by decide) ?_
  obtain ⟨S_318, eS_318, h⟩ := lt_e h
  refine mw_putI cx hin w 11 eS_318 (by decide +kernel) (List.mem_cons_of_mem _ uf_RX9_44) dX9_goes_2 (fun H locs w => ?_)
  refine lv_aload_n hx hb dX9_goes_5 rfl (lv_at hl 0 rfl) ?_
  refine lv_bipush (v := (100 : Int32)) hx hb dX9_goes_6 (by decide) ?_
  refine lv_iload_n hx hb dX9_goes_8 rfl (lv_at hl 1 rfl) ?_
  refine lv_imul hx hb dX9_goes_9 ?_
  obtain ⟨S_319, eS_319, h⟩ := lt_e h
  refine mw_putI cx hin w 20 eS_319 (by decide +kernel) (List.mem_cons_of_mem _ uf_RX9_71) dX9_goes_10 (fun H locs w => ?_)
  refine lv_iconst (v := (0 : Int32)) hx hb dX9_goes_13 (by decide) ?_
  obtain ⟨x2_320, ex2_320, h⟩ := lt_e h
  refine top_i ex2_320 ?_
  refine lv_istore_n (lv' := [(2, .int x2_320), (0, .ref (ad 100)), (1, .int a1)]) hx hb dX9_goes_14 rfl hl (by decide) rfl (fun ls hl => ?_)
  exact L15  4000 a1 x2_320 S_319 h _ _ _ (lv_sub hl [1, 2, 0] rfl) w
def mm_rule (S : MS) (a1 : Int32) : Option (Int32 × MS) := bd (mm_isLand S a1) (fun r_102 S_101 => if r_102 = (0 : Int32) then (some ((-1 : Int32), S_101)) else (if (S_101.1 9) = (10 : Int32) then (some ((-4 : Int32), S_101)) else (bd (mm_goes S_101 (S_101.1 9)) (fun r_105 S_104 => lt_ (mP S_104 10 (0 : Int32)) (fun S_107 => if r_105 = (0 : Int32) then (some (((-10 : Int32) - (S_107.1 11)), S_107)) else (ck (vin (S_107.1 9) 10) (lt_ (mR S_107 13 ((S_107.1 9)).toNatClampNeg a1) (fun S_109 => lt_ (mP S_109 9 ((S_109.1 9) + (1 : Int32))) (fun S_110 => some (((S_110.1 9) - (1 : Int32)), S_110))))))))))
abbrev wu_X9_rule : List Cond := .code yX9_rule cX9_rule 3 (some .int) :: wsL_law
theorem ud_X9_rule : yX9_rule.cls = RX9 ∧ yX9_rule.cls ≠ "java/lang/invoke/MethodHandle" ∧ yX9_rule.cls ≠ "java/lang/invoke/VarHandle" ∧ (parseMethodDescriptor yX9_rule.desc).map (fun d => d.parameters.length) = some 1 := by decide +kernel
abbrev rmX9_rule : Room := { frames := 5, cells := 0, slots := 0, locals := 110 }
set_option maxHeartbeats 4000000 in
set_option maxRecDepth 100000 in
theorem cc_rule (l : Launch) (D : va_G) (cs : Nat → ClassId) (ad : Nat → Nat) (S T : MS) (a1 : Int32) (r0 : Int32) (h : mm_rule S a1 = some (r0, T)) : MetI l yX9_rule wu_X9_rule rmX9_rule D cs ad [.int a1] S T r0 := by
  refine mo_I (ty := .int) (cc := cX9_rule) (maxL := 3) ⟨by decide, rfl⟩ rfl (Nat.le_of_ble_eq_true rfl) ?_
  intro p e s m args below meth c ls cx hl w
  have hx := cx.1
  have hb := cx.2.1
  have hts := cx.2.2.2.1
  have hown := cx.2.2.2.2.1
  have hin : ∀ w ∈ wsX90, w ∈ wu_X9_rule := fun _ hq => List.mem_cons_of_mem _ (inlX9 _ hq)
  have hl : lv_has ls 3 [(0, .ref (ad 100)), (1, .int a1)] := hl
  unfold mm_rule at h
  refine lv_aload_n hx hb dX9_rule_0 rfl (lv_at hl 0 rfl) ?_
  refine lv_iload_n hx hb dX9_rule_1 rfl (lv_at hl 1 rfl) ?_
  obtain ⟨r_102, S_101, hc_103, h⟩ := bd_e h
  refine mw_calli (As := [.int a1]) (rest := []) cx (cc_isLand l D cs ad S S_101 a1 r_102 hc_103) (cwV 1 hts (uG uw_X9_isLand ul_RX9_177 ui_X9_isLand us_RX9_X9_isLand un_RX9) rfl rfl rfl ud_X9_isLand ⟨Nat.le_of_ble_eq_true rfl, Nat.le_of_ble_eq_true rfl⟩) w rfl hl.1 rfl (Nat.le_of_ble_eq_true rfl) dX9_rule_2 (fun H locs w => ?_)
  refine lv_if_ne (tgt := 10) hx hb dX9_rule_5 (by decide) (fun q => ?_) (fun q => ?_)
  · have h := br_n q h
    refine lv_aload_n hx hb dX9_rule_10 rfl (lv_at hl 0 rfl) ?_
    refine mw_getI cx hin w 9 (by decide) (List.mem_cons_of_mem _ uf_RX9_38) dX9_rule_11 ?_
    refine lv_bipush (v := (10 : Int32)) hx hb dX9_rule_14 (by decide) ?_
    refine lv_icmp_ne (tgt := 22) hx hb dX9_rule_16 (by decide) (fun q => ?_) (fun q => ?_)
    · have h := br_n q h
      refine lv_aload_n hx hb dX9_rule_22 rfl (lv_at hl 0 rfl) ?_
      refine lv_aload_n hx hb dX9_rule_23 rfl (lv_at hl 0 rfl) ?_
      refine mw_getI cx hin w 9 (by decide) (List.mem_cons_of_mem _ uf_RX9_38) dX9_rule_24 ?_
      obtain ⟨r_105, S_104, hc_106, h⟩ := bd_e h
      refine mw_calli (As := [.int (S_101.1 9)]) (rest := []) cx (cc_goes l D cs ad S_101 S_104 (S_101.1 9) r_105 hc_106) (cwV 1 hts (uG uw_X9_goes ul_RX9_180 ui_X9_goes us_RX9_X9_goes un_RX9) rfl rfl rfl ud_X9_goes ⟨Nat.le_of_ble_eq_true rfl, Nat.le_of_ble_eq_true rfl⟩) w rfl hl.1 rfl (Nat.le_of_ble_eq_true rfl) dX9_rule_27 (fun H locs w => ?_)
      refine lv_istore_n (lv' := [(2, .int r_105), (0, .ref (ad 100)), (1, .int a1)]) hx hb dX9_rule_30 rfl hl (by decide) rfl (fun ls hl => ?_)
      refine lv_aload_n hx hb dX9_rule_31 rfl (lv_at hl 1 rfl) ?_
      refine lv_iconst (v := (0 : Int32)) hx hb dX9_rule_32 (by decide) ?_
      obtain ⟨S_107, eS_107, h⟩ := lt_e h
      refine mw_putI cx hin w 10 eS_107 (by decide +kernel) (List.mem_cons_of_mem _ uf_RX9_41) dX9_rule_33 (fun H locs w => ?_)
      refine lv_iload_n hx hb dX9_rule_36 rfl (lv_at hl 0 rfl) ?_
      refine lv_if_ne (tgt := 48) hx hb dX9_rule_37 (by decide) (fun q => ?_) (fun q => ?_)
      · have h := br_n q h
        refine lv_aload_n hx hb dX9_rule_48 rfl (lv_at hl 1 rfl) ?_
        refine mw_getR cx hin w 13 (by decide) (List.mem_cons_of_mem _ uf_RX9_50) dX9_rule_49 ?_
        refine lv_aload_n hx hb dX9_rule_52 rfl (lv_at hl 1 rfl) ?_
        refine mw_getI cx hin w 9 (by decide) (List.mem_cons_of_mem _ uf_RX9_38) dX9_rule_53 ?_
        refine lv_iload_n hx hb dX9_rule_56 rfl (lv_at hl 2 rfl) ?_
        obtain ⟨hq_108, h⟩ := ck_e h
        obtain ⟨S_109, eS_109, h⟩ := lt_e h
        refine mw_iast cx w 7 13 10 (by decide) hq_108 eS_109 dX9_rule_57 (fun H locs w => ?_)
        refine lv_aload_n hx hb dX9_rule_58 rfl (lv_at hl 1 rfl) ?_
        refine lv_dup hx hb dX9_rule_59 rfl ?_
        refine mw_getI cx hin w 9 (by decide) (List.mem_cons_of_mem _ uf_RX9_38) dX9_rule_60 ?_
        refine lv_iconst (v := (1 : Int32)) hx hb dX9_rule_63 (by decide) ?_
        refine lv_iadd hx hb dX9_rule_64 ?_
        obtain ⟨S_110, eS_110, h⟩ := lt_e h
        refine mw_putI cx hin w 9 eS_110 (by decide +kernel) (List.mem_cons_of_mem _ uf_RX9_38) dX9_rule_65 (fun H locs w => ?_)
        refine lv_aload_n hx hb dX9_rule_68 rfl (lv_at hl 1 rfl) ?_
        refine mw_getI cx hin w 9 (by decide) (List.mem_cons_of_mem _ uf_RX9_38) dX9_rule_69 ?_
        refine lv_iconst (v := (1 : Int32)) hx hb dX9_rule_72 (by decide) ?_
        refine lv_isub hx hb dX9_rule_73 ?_
        exact mw_iret cx (rt_e h) w dX9_rule_74
      · have h := br_p q h
        refine lv_bipush (v := (-10 : Int32)) hx hb dX9_rule_40 (by decide) ?_
        refine lv_aload_n hx hb dX9_rule_42 rfl (lv_at hl 1 rfl) ?_
        refine mw_getI cx hin w 11 (by decide) (List.mem_cons_of_mem _ uf_RX9_44) dX9_rule_43 ?_
        refine lv_isub hx hb dX9_rule_46 ?_
        exact mw_iret cx (rt_e h) w dX9_rule_47
    · have h := br_p q h
      refine lv_bipush (v := (-4 : Int32)) hx hb dX9_rule_19 (by decide) ?_
      exact mw_iret cx (rt_e h) w dX9_rule_21
  · have h := br_p q h
    refine lv_iconst (v := (-1 : Int32)) hx hb dX9_rule_8 (by decide) ?_
    exact mw_iret cx (rt_e h) w dX9_rule_9
def mm_judge (S : MS) (a1 : Int32) : Option (Int32 × MS) := bd (mm_in S a1 (0 : Int32) (((1 : Int32) <<< ((S.1 9) &&& 31)) - (1 : Int32))) (fun r_102 S_101 => if r_102 = (0 : Int32) then (some ((-2 : Int32), S_101)) else (lt_ ((S_101.1 2)) (fun x2_104 => lt_ (mP S_101 2 a1) (fun S_105 => some (x2_104, S_105)))))
abbrev wu_X9_judge : List Cond := .code yX9_judge cX9_judge 3 (some .int) :: wsL_law
theorem ud_X9_judge : yX9_judge.cls = RX9 ∧ yX9_judge.cls ≠ "java/lang/invoke/MethodHandle" ∧ yX9_judge.cls ≠ "java/lang/invoke/VarHandle" ∧ (parseMethodDescriptor yX9_judge.desc).map (fun d => d.parameters.length) = some 1 := by decide +kernel
abbrev rmX9_judge : Room := { frames := 1, cells := 0, slots := 0, locals := 23 }
set_option maxHeartbeats 4000000 in
set_option maxRecDepth 100000 in
theorem cc_judge (l : Launch) (D : va_G) (cs : Nat → ClassId) (ad : Nat → Nat) (S T : MS) (a1 : Int32) (r0 : Int32) (h : mm_judge S a1 = some (r0, T)) : MetI l yX9_judge wu_X9_judge rmX9_judge D cs ad [.int a1] S T r0 := by
  refine mo_I (ty := .int) (cc := cX9_judge) (maxL := 3) ⟨by decide, rfl⟩ rfl (Nat.le_of_ble_eq_true rfl) ?_
  intro p e s m args below meth c ls cx hl w
  have hx := cx.1
  have hb := cx.2.1
  have hts := cx.2.2.2.1
  have hown := cx.2.2.2.2.1
  have hin : ∀ w ∈ wsX90, w ∈ wu_X9_judge := fun _ hq => List.mem_cons_of_mem _ (inlX9 _ hq)
  have hl : lv_has ls 3 [(0, .ref (ad 100)), (1, .int a1)] := hl
  unfold mm_judge at h
  refine lv_aload_n hx hb dX9_judge_0 rfl (lv_at hl 0 rfl) ?_
  refine lv_iload_n hx hb dX9_judge_1 rfl (lv_at hl 1 rfl) ?_
  refine lv_iconst (v := (0 : Int32)) hx hb dX9_judge_2 (by decide) ?_
  refine lv_iconst (v := (1 : Int32)) hx hb dX9_judge_3 (by decide) ?_
  refine lv_aload_n hx hb dX9_judge_4 rfl (lv_at hl 0 rfl) ?_
  refine mw_getI cx hin w 9 (by decide) (List.mem_cons_of_mem _ uf_RX9_38) dX9_judge_5 ?_
  refine lv_ishl hx hb dX9_judge_8 ?_
  refine lv_iconst (v := (1 : Int32)) hx hb dX9_judge_9 (by decide) ?_
  refine lv_isub hx hb dX9_judge_10 ?_
  obtain ⟨r_102, S_101, hc_103, h⟩ := bd_e h
  refine mw_calli (As := [.int a1, .int (0 : Int32), .int (((1 : Int32) <<< ((S.1 9) &&& 31)) - (1 : Int32))]) (rest := []) cx (cc_in l D cs ad S S_101 a1 (0 : Int32) (((1 : Int32) <<< ((S.1 9) &&& 31)) - (1 : Int32)) r_102 hc_103) (cwV 3 hts (uG uw_X9_in ul_RX9_133 ui_X9_in us_RX9_X9_in un_RX9) rfl rfl rfl ud_X9_in ⟨Nat.le_of_ble_eq_true rfl, Nat.le_of_ble_eq_true rfl⟩) w rfl hl.1 rfl (Nat.le_of_ble_eq_true rfl) dX9_judge_11 (fun H locs w => ?_)
  refine lv_if_ne (tgt := 20) hx hb dX9_judge_14 (by decide) (fun q => ?_) (fun q => ?_)
  · have h := br_n q h
    refine lv_aload_n hx hb dX9_judge_20 rfl (lv_at hl 0 rfl) ?_
    refine mw_getI cx hin w 2 (by decide) (List.mem_cons_of_mem _ uf_RX9_16) dX9_judge_21 ?_
    obtain ⟨x2_104, ex2_104, h⟩ := lt_e h
    refine top_i ex2_104 ?_
    refine lv_istore_n (lv' := [(2, .int x2_104), (0, .ref (ad 100)), (1, .int a1)]) hx hb dX9_judge_24 rfl hl (by decide) rfl (fun ls hl => ?_)
    refine lv_aload_n hx hb dX9_judge_25 rfl (lv_at hl 1 rfl) ?_
    refine lv_iload_n hx hb dX9_judge_26 rfl (lv_at hl 2 rfl) ?_
    obtain ⟨S_105, eS_105, h⟩ := lt_e h
    refine mw_putI cx hin w 2 eS_105 (by decide +kernel) (List.mem_cons_of_mem _ uf_RX9_16) dX9_judge_27 (fun H locs w => ?_)
    refine lv_iload_n hx hb dX9_judge_30 rfl (lv_at hl 0 rfl) ?_
    exact mw_iret cx (rt_e h) w dX9_judge_31
  · have h := br_p q h
    refine lv_bipush (v := (-2 : Int32)) hx hb dX9_judge_17 (by decide) ?_
    exact mw_iret cx (rt_e h) w dX9_judge_19
def mm_asItIs_23 (k23 : Int32 → MS → Option (Int32 × MS)) (x1 : Int32) (S : MS) : Option (Int32 × MS) := if (8 : Int32) ≤ x1 then (some ((0 : Int32), S)) else (ck (vin x1 8) (lt_ (mR S 27 (x1).toNatClampNeg (0 : Int32)) (fun S_102 => lt_ (x1 + (1 : Int32)) (fun x1_103 => k23 x1_103 S_102))))
def mm_asItIs_23L : Nat → Int32 → MS → Option (Int32 × MS)
  | 0, _, _ => none
  | n + 1, x1, S => mm_asItIs_23  (mm_asItIs_23L  n) x1 S
def mm_asItIs (S : MS)  : Option (Int32 × MS) := lt_ (mP S 24 (S.1 1)) (fun S_204 => lt_ (mP S_204 25 (S_204.1 2)) (fun S_205 => lt_ (mP S_205 26 (-1 : Int32)) (fun S_206 => lt_ ((0 : Int32)) (fun x1_207 => mm_asItIs_23L  4000 x1_207 S_206))))
abbrev wu_X9_asItIs : List Cond := .code yX9_asItIs cX9_asItIs 2 none :: wsL_law
theorem ud_X9_asItIs : yX9_asItIs.cls = RX9 ∧ yX9_asItIs.cls ≠ "java/lang/invoke/MethodHandle" ∧ yX9_asItIs.cls ≠ "java/lang/invoke/VarHandle" ∧ (parseMethodDescriptor yX9_asItIs.desc).map (fun d => d.parameters.length) = some 0 := by decide +kernel
abbrev rmX9_asItIs : Room := { frames := 0, cells := 0, slots := 0, locals := 0 }
set_option maxHeartbeats 4000000 in
set_option maxRecDepth 100000 in
theorem cc_asItIs (l : Launch) (D : va_G) (cs : Nat → ClassId) (ad : Nat → Nat) (S T : MS)  (r0 : Int32) (h : mm_asItIs S  = some (r0, T)) : MetV l yX9_asItIs wu_X9_asItIs rmX9_asItIs D cs ad [] S T r0 := by
  refine mo_V (cc := cX9_asItIs) (maxL := 2) ⟨by decide, rfl⟩ rfl (Nat.le_of_ble_eq_true rfl) ?_
  intro p e s m args below meth c ls cx hl w
  have hx := cx.1
  have hb := cx.2.1
  have hts := cx.2.2.2.1
  have hown := cx.2.2.2.2.1
  have hin : ∀ w ∈ wsX90, w ∈ wu_X9_asItIs := fun _ hq => List.mem_cons_of_mem _ (inlX9 _ hq)
  have hl : lv_has ls 2 [(0, .ref (ad 100))] := hl
  have L23 : ∀ (n : Nat) (x1 : Int32) (S : MS), mm_asItIs_23L  n x1 S = some (r0, T) → mGo p l e rmX9_asItIs s m args below meth c 2 D cs ad (mQV below D cs ad args s r0 T) 23 [(0, .ref (ad 100)), (1, .int x1)] [] S := by
    intro n
    induction n with
    | zero =>
      intro x1 S h
      have h : none = some (r0, T) := h
      cases h
    | succ n hk23 =>
      intro x1 S h H locs ls hl w
      have h : mm_asItIs_23  (mm_asItIs_23L  n) x1 S = some (r0, T) := h
      generalize mm_asItIs_23L  n = k23 at h hk23
      unfold mm_asItIs_23 at h
      refine lv_iload_n hx hb dX9_asItIs_23 rfl (lv_at hl 1 rfl) ?_
      refine lv_bipush (v := (8 : Int32)) hx hb dX9_asItIs_24 (by decide) ?_
      refine lv_icmp_ge (tgt := 42) hx hb dX9_asItIs_26 (by decide) (fun q => ?_) (fun q => ?_)
      · have h := br_p q h
        exact mw_vret cx (rt_e h) w dX9_asItIs_42
      · have h := br_n q h
        refine lv_aload_n hx hb dX9_asItIs_29 rfl (lv_at hl 0 rfl) ?_
        refine mw_getR cx hin w 27 (by decide) (List.mem_cons_of_mem _ uf_RX9_92) dX9_asItIs_30 ?_
        refine lv_iload_n hx hb dX9_asItIs_33 rfl (lv_at hl 1 rfl) ?_
        refine lv_iconst (v := (0 : Int32)) hx hb dX9_asItIs_34 (by decide) ?_
        obtain ⟨hq_101, h⟩ := ck_e h
        obtain ⟨S_102, eS_102, h⟩ := lt_e h
        refine mw_iast cx w 15 27 8 (by decide) hq_101 eS_102 dX9_asItIs_35 (fun H locs w => ?_)
        obtain ⟨x1_103, ex1_103, h⟩ := lt_e h
        refine lv_iinc (v := x1_103) (lv' := [(1, .int x1_103), (0, .ref (ad 100))]) hx hb dX9_asItIs_36 hl (k := 1) rfl (by rw [ex1_103]; rfl) (by decide) rfl (fun ls hl => ?_)
        refine lv_goto (tgt := 23) hx hb dX9_asItIs_39 (by decide) ?_
        exact hk23 x1_103 S_102 h _ _ _ (lv_sub hl [1, 0] rfl) w
  unfold mm_asItIs at h
  refine lv_aload_n hx hb dX9_asItIs_0 rfl (lv_at hl 0 rfl) ?_
  refine lv_aload_n hx hb dX9_asItIs_1 rfl (lv_at hl 0 rfl) ?_
  refine mw_getI cx hin w 1 (by decide) (List.mem_cons_of_mem _ uf_RX9_13) dX9_asItIs_2 ?_
  obtain ⟨S_204, eS_204, h⟩ := lt_e h
  refine mw_putI cx hin w 24 eS_204 (by decide +kernel) (List.mem_cons_of_mem _ uf_RX9_83) dX9_asItIs_5 (fun H locs w => ?_)
  refine lv_aload_n hx hb dX9_asItIs_8 rfl (lv_at hl 0 rfl) ?_
  refine lv_aload_n hx hb dX9_asItIs_9 rfl (lv_at hl 0 rfl) ?_
  refine mw_getI cx hin w 2 (by decide) (List.mem_cons_of_mem _ uf_RX9_16) dX9_asItIs_10 ?_
  obtain ⟨S_205, eS_205, h⟩ := lt_e h
  refine mw_putI cx hin w 25 eS_205 (by decide +kernel) (List.mem_cons_of_mem _ uf_RX9_86) dX9_asItIs_13 (fun H locs w => ?_)
  refine lv_aload_n hx hb dX9_asItIs_16 rfl (lv_at hl 0 rfl) ?_
  refine lv_iconst (v := (-1 : Int32)) hx hb dX9_asItIs_17 (by decide) ?_
  obtain ⟨S_206, eS_206, h⟩ := lt_e h
  refine mw_putI cx hin w 26 eS_206 (by decide +kernel) (List.mem_cons_of_mem _ uf_RX9_89) dX9_asItIs_18 (fun H locs w => ?_)
  refine lv_iconst (v := (0 : Int32)) hx hb dX9_asItIs_21 (by decide) ?_
  obtain ⟨x1_207, ex1_207, h⟩ := lt_e h
  refine top_i ex1_207 ?_
  refine lv_istore_n (lv' := [(1, .int x1_207), (0, .ref (ad 100))]) hx hb dX9_asItIs_22 rfl hl (by decide) rfl (fun ls hl => ?_)
  exact L23  4000 x1_207 S_206 h _ _ _ (lv_sub hl [1, 0] rfl) w
def mm_compares (S : MS) (a1 : Int32) (a2 : Int32) (a3 : Int32) : Option (Int32 × MS) := if a1 = (60 : Int32) then (if a3 ≤ a2 then (some ((0 : Int32), S)) else (some ((1 : Int32), S))) else (if a1 = (61 : Int32) then (if a2 = a3 then (some ((1 : Int32), S)) else (some ((0 : Int32), S))) else (if a2 ≤ a3 then (some ((0 : Int32), S)) else (some ((1 : Int32), S))))
abbrev wu_X9_compares : List Cond := .code yX9_compares cX9_compares 4 (some .boolean) :: wsL_law
theorem ud_X9_compares : yX9_compares.cls = RX9 ∧ yX9_compares.cls ≠ "java/lang/invoke/MethodHandle" ∧ yX9_compares.cls ≠ "java/lang/invoke/VarHandle" ∧ (parseMethodDescriptor yX9_compares.desc).map (fun d => d.parameters.length) = some 3 := by decide +kernel
abbrev rmX9_compares : Room := { frames := 0, cells := 0, slots := 0, locals := 0 }
set_option maxHeartbeats 4000000 in
set_option maxRecDepth 100000 in
theorem cc_compares (l : Launch) (D : va_G) (cs : Nat → ClassId) (ad : Nat → Nat) (S T : MS) (a1 : Int32) (a2 : Int32) (a3 : Int32) (r0 : Int32) (h : mm_compares S a1 a2 a3 = some (r0, T)) : MetI l yX9_compares wu_X9_compares rmX9_compares D cs ad [.int a1, .int a2, .int a3] S T r0 := by
  refine mo_I (ty := .boolean) (cc := cX9_compares) (maxL := 4) ⟨by decide, rfl⟩ rfl (Nat.le_of_ble_eq_true rfl) ?_
  intro p e s m args below meth c ls cx hl w
  have hx := cx.1
  have hb := cx.2.1
  have hts := cx.2.2.2.1
  have hown := cx.2.2.2.2.1
  have hl : lv_has ls 4 [(0, .ref (ad 100)), (1, .int a1), (2, .int a2), (3, .int a3)] := hl
  unfold mm_compares at h
  refine lv_iload_n hx hb dX9_compares_0 rfl (lv_at hl 1 rfl) ?_
  refine lv_bipush (v := (60 : Int32)) hx hb dX9_compares_1 (by decide) ?_
  refine lv_icmp_ne (tgt := 19) hx hb dX9_compares_3 (by decide) (fun q => ?_) (fun q => ?_)
  · have h := br_n q h
    refine lv_iload_n hx hb dX9_compares_19 rfl (lv_at hl 1 rfl) ?_
    refine lv_bipush (v := (61 : Int32)) hx hb dX9_compares_20 (by decide) ?_
    refine lv_icmp_ne (tgt := 38) hx hb dX9_compares_22 (by decide) (fun q => ?_) (fun q => ?_)
    · have h := br_n q h
      refine lv_iload_n hx hb dX9_compares_38 rfl (lv_at hl 2 rfl) ?_
      refine lv_iload_n hx hb dX9_compares_39 rfl (lv_at hl 3 rfl) ?_
      refine lv_icmp_le (tgt := 47) hx hb dX9_compares_40 (by decide) (fun q => ?_) (fun q => ?_)
      · have h := br_p q h
        refine lv_iconst (v := (0 : Int32)) hx hb dX9_compares_47 (by decide) ?_
        exact mw_zret cx (Or.inl rfl) (rt_e h) w dX9_compares_48
      · have h := br_n q h
        refine lv_iconst (v := (1 : Int32)) hx hb dX9_compares_43 (by decide) ?_
        refine lv_goto (tgt := 48) hx hb dX9_compares_44 (by decide) ?_
        exact mw_zret cx (Or.inr rfl) (rt_e h) w dX9_compares_48
    · have h := br_p q h
      refine lv_iload_n hx hb dX9_compares_25 rfl (lv_at hl 2 rfl) ?_
      refine lv_iload_n hx hb dX9_compares_26 rfl (lv_at hl 3 rfl) ?_
      refine lv_icmp_ne (tgt := 34) hx hb dX9_compares_27 (by decide) (fun q => ?_) (fun q => ?_)
      · have h := br_n q h
        refine lv_iconst (v := (0 : Int32)) hx hb dX9_compares_34 (by decide) ?_
        refine lv_goto (tgt := 48) hx hb dX9_compares_35 (by decide) ?_
        exact mw_zret cx (Or.inl rfl) (rt_e h) w dX9_compares_48
      · have h := br_p q h
        refine lv_iconst (v := (1 : Int32)) hx hb dX9_compares_30 (by decide) ?_
        refine lv_goto (tgt := 48) hx hb dX9_compares_31 (by decide) ?_
        exact mw_zret cx (Or.inr rfl) (rt_e h) w dX9_compares_48
  · have h := br_p q h
    refine lv_iload_n hx hb dX9_compares_6 rfl (lv_at hl 2 rfl) ?_
    refine lv_iload_n hx hb dX9_compares_7 rfl (lv_at hl 3 rfl) ?_
    refine lv_icmp_ge (tgt := 15) hx hb dX9_compares_8 (by decide) (fun q => ?_) (fun q => ?_)
    · have h := br_p q h
      refine lv_iconst (v := (0 : Int32)) hx hb dX9_compares_15 (by decide) ?_
      refine lv_goto (tgt := 48) hx hb dX9_compares_16 (by decide) ?_
      exact mw_zret cx (Or.inl rfl) (rt_e h) w dX9_compares_48
    · have h := br_n q h
      refine lv_iconst (v := (1 : Int32)) hx hb dX9_compares_11 (by decide) ?_
      refine lv_goto (tgt := 48) hx hb dX9_compares_12 (by decide) ?_
      exact mw_zret cx (Or.inr rfl) (rt_e h) w dX9_compares_48
def mm_test_226 (x5 : Int32) (S : MS) : Option (Int32 × MS) := bd (mm_has S (S.1 24) x5) (fun r_102 S_101 => ck (z01 r_102) (some (r_102, S_101)))
def mm_test_177  (S : MS) : Option (Int32 × MS) := some ((0 : Int32), S)
def mm_test (S : MS) (a1 : Int32) (a2 : Int32) (a3 : Int32) : Option (Int32 × MS) := lt_ (((a1 / (10 : Int32)) - (a1 / (10 : Int32)) / (100 : Int32) * (100 : Int32))) (fun x4_305 => lt_ ((a1 - a1 / (10 : Int32) * (10 : Int32))) (fun x5_306 => if (a1 / (1000 : Int32)) = (98 : Int32) then (ck (vin a2 14) (if (S.2.1 5 (a2).toNatClampNeg) = x5_306 then (some ((1 : Int32), S)) else (some ((0 : Int32), S)))) else (if (a1 / (1000 : Int32)) = (99 : Int32) then (ck (vin a2 14) (ck (vin (S.2.1 5 (a2).toNatClampNeg) 8) (bd (mm_has S (S.2.1 3 ((S.2.1 5 (a2).toNatClampNeg)).toNatClampNeg) x5_306) (fun r_313 S_312 => ck (z01 r_313) (some (r_313, S_312)))))) else (if (a1 / (1000 : Int32)) = (101 : Int32) then (if a3 = x5_306 then (some ((1 : Int32), S)) else (some ((0 : Int32), S))) else (if (a1 / (1000 : Int32)) = (104 : Int32) then (ck (vin a2 14) (ck (vin (S.2.1 5 (a2).toNatClampNeg) 8) (bd (mm_compares S x4_305 (S.2.1 27 ((S.2.1 5 (a2).toNatClampNeg)).toNatClampNeg) x5_306) (fun r_321 S_320 => ck (z01 r_321) (some (r_321, S_320)))))) else (if (a1 / (1000 : Int32)) = (107 : Int32) then (ck (vin a2 14) (bd (mm_compares S x4_305 (S.2.1 4 (a2).toNatClampNeg) x5_306) (fun r_327 S_326 => ck (z01 r_327) (some (r_327, S_326))))) else (if (a1 / (1000 : Int32)) = (117 : Int32) then (if (7 : Int32) ≤ x5_306 then (mm_test_177   S) else (ck (vin a2 14) (bd (mm_isUnder S (S.2.1 4 (a2).toNatClampNeg) x5_306) (fun r_333 S_332 => if r_333 = (0 : Int32) then (mm_test_177   S_332) else (some ((1 : Int32), S_332)))))) else (mm_test_226  x5_306 S))))))))
abbrev wu_X9_test : List Cond := .code yX9_test cX9_test 6 (some .boolean) :: wsL_law
theorem ud_X9_test : yX9_test.cls = RX9 ∧ yX9_test.cls ≠ "java/lang/invoke/MethodHandle" ∧ yX9_test.cls ≠ "java/lang/invoke/VarHandle" ∧ (parseMethodDescriptor yX9_test.desc).map (fun d => d.parameters.length) = some 3 := by decide +kernel
abbrev rmX9_test : Room := { frames := 1, cells := 0, slots := 0, locals := 23 }
set_option maxHeartbeats 4000000 in
set_option maxRecDepth 100000 in
theorem cc_test (l : Launch) (D : va_G) (cs : Nat → ClassId) (ad : Nat → Nat) (S T : MS) (a1 : Int32) (a2 : Int32) (a3 : Int32) (r0 : Int32) (h : mm_test S a1 a2 a3 = some (r0, T)) : MetI l yX9_test wu_X9_test rmX9_test D cs ad [.int a1, .int a2, .int a3] S T r0 := by
  refine mo_I (ty := .boolean) (cc := cX9_test) (maxL := 6) ⟨by decide, rfl⟩ rfl (Nat.le_of_ble_eq_true rfl) ?_
  intro p e s m args below meth c ls cx hl w
  have hx := cx.1
  have hb := cx.2.1
  have hts := cx.2.2.2.1
  have hown := cx.2.2.2.2.1
  have hin : ∀ w ∈ wsX90, w ∈ wu_X9_test := fun _ hq => List.mem_cons_of_mem _ (inlX9 _ hq)
  have hl : lv_has ls 6 [(0, .ref (ad 100)), (1, .int a1), (2, .int a2), (3, .int a3)] := hl
  have J226 : ∀ (x5 : Int32) (S : MS), mm_test_226  x5 S = some (r0, T) → mGo p l e rmX9_test s m args below meth c 6 D cs ad (mQI below D cs ad args s r0 T) 226 [(0, .ref (ad 100)), (5, .int x5)] [] S := by
    intro x5 S h H locs ls hl w
    unfold mm_test_226 at h
    refine lv_aload_n hx hb dX9_test_226 rfl (lv_at hl 0 rfl) ?_
    refine lv_aload_n hx hb dX9_test_227 rfl (lv_at hl 0 rfl) ?_
    refine mw_getI cx hin w 24 (by decide) (List.mem_cons_of_mem _ uf_RX9_83) dX9_test_228 ?_
    refine lv_iload hx hb dX9_test_231 (lv_at hl 1 rfl) ?_
    obtain ⟨r_102, S_101, hc_103, h⟩ := bd_e h
    refine mw_calli (As := [.int (S.1 24), .int x5]) (rest := []) cx (cc_has l D cs ad S S_101 (S.1 24) x5 r_102 hc_103) (cwV 2 hts (uG uw_X9_has ul_RX9_189 ui_X9_has us_RX9_X9_has un_RX9) rfl rfl rfl ud_X9_has ⟨Nat.le_of_ble_eq_true rfl, Nat.le_of_ble_eq_true rfl⟩) w rfl hl.1 rfl (Nat.le_of_ble_eq_true rfl) dX9_test_233 (fun H locs w => ?_)
    obtain ⟨hq_104, h⟩ := ck_e h
    exact mw_zret cx (z01_e hq_104) (rt_e h) w dX9_test_236
  have J177 : ∀  (S : MS), mm_test_177   S = some (r0, T) → mGo p l e rmX9_test s m args below meth c 6 D cs ad (mQI below D cs ad args s r0 T) 177 [] [] S := by
    intro  S h H locs ls hl w
    unfold mm_test_177 at h
    refine lv_iconst (v := (0 : Int32)) hx hb dX9_test_177 (by decide) ?_
    exact mw_zret cx (Or.inl rfl) (rt_e h) w dX9_test_178
  unfold mm_test at h
  refine lv_iload_n hx hb dX9_test_0 rfl (lv_at hl 1 rfl) ?_
  refine lv_bipush (v := (10 : Int32)) hx hb dX9_test_1 (by decide) ?_
  refine lv_idiv hx hb dX9_test_3 (by decide) ?_
  refine lv_bipush (v := (100 : Int32)) hx hb dX9_test_4 (by decide) ?_
  refine lv_irem hx hb dX9_test_6 (by decide) ?_
  obtain ⟨x4_305, ex4_305, h⟩ := lt_e h
  refine top_i ex4_305 ?_
  refine lv_istore (lv' := [(4, .int x4_305), (0, .ref (ad 100)), (1, .int a1), (2, .int a2), (3, .int a3)]) hx hb dX9_test_7 hl (by decide) rfl (fun ls hl => ?_)
  refine lv_iload_n hx hb dX9_test_9 rfl (lv_at hl 2 rfl) ?_
  refine lv_bipush (v := (10 : Int32)) hx hb dX9_test_10 (by decide) ?_
  refine lv_irem hx hb dX9_test_12 (by decide) ?_
  obtain ⟨x5_306, ex5_306, h⟩ := lt_e h
  refine top_i ex5_306 ?_
  refine lv_istore (lv' := [(5, .int x5_306), (4, .int x4_305), (0, .ref (ad 100)), (1, .int a1), (2, .int a2), (3, .int a3)]) hx hb dX9_test_13 hl (by decide) rfl (fun ls hl => ?_)
  refine lv_iload_n hx hb dX9_test_15 rfl (lv_at hl 3 rfl) ?_
  refine lv_sipush (v := (1000 : Int32)) hx hb dX9_test_16 (by decide) ?_
  refine lv_idiv hx hb dX9_test_19 (by decide) ?_
  by_cases q_307 : (a1 / (1000 : Int32)) = (98 : Int32)
  · have h := br_p q_307 h
    refine lv_tableIn (tgt := 179) hx hb dX9_test_20 (by rw [q_307]; decide) (by rw [q_307]; decide) (by rw [q_307]; rfl) (by decide) ?_
    refine lv_aload_n hx hb dX9_test_179 rfl (lv_at hl 2 rfl) ?_
    refine mw_getR cx hin w 5 (by decide) (List.mem_cons_of_mem _ uf_RX9_26) dX9_test_180 ?_
    refine lv_iload_n hx hb dX9_test_183 rfl (lv_at hl 4 rfl) ?_
    obtain ⟨hq_308, h⟩ := ck_e h
    refine mw_iald cx w 2 5 14 (by decide) hq_308 dX9_test_184 ?_
    refine lv_iload hx hb dX9_test_185 (lv_at hl 0 rfl) ?_
    refine lv_icmp_ne (tgt := 194) hx hb dX9_test_187 (by decide) (fun q => ?_) (fun q => ?_)
    · have h := br_n q h
      refine lv_iconst (v := (0 : Int32)) hx hb dX9_test_194 (by decide) ?_
      exact mw_zret cx (Or.inl rfl) (rt_e h) w dX9_test_195
    · have h := br_p q h
      refine lv_iconst (v := (1 : Int32)) hx hb dX9_test_190 (by decide) ?_
      refine lv_goto (tgt := 195) hx hb dX9_test_191 (by decide) ?_
      exact mw_zret cx (Or.inr rfl) (rt_e h) w dX9_test_195
  have h := br_n q_307 h
  by_cases q_309 : (a1 / (1000 : Int32)) = (99 : Int32)
  · have h := br_p q_309 h
    refine lv_tableIn (tgt := 196) hx hb dX9_test_20 (by rw [q_309]; decide) (by rw [q_309]; decide) (by rw [q_309]; rfl) (by decide) ?_
    refine lv_aload_n hx hb dX9_test_196 rfl (lv_at hl 2 rfl) ?_
    refine lv_aload_n hx hb dX9_test_197 rfl (lv_at hl 2 rfl) ?_
    refine mw_getR cx hin w 3 (by decide) (List.mem_cons_of_mem _ uf_RX9_19) dX9_test_198 ?_
    refine lv_aload_n hx hb dX9_test_201 rfl (lv_at hl 2 rfl) ?_
    refine mw_getR cx hin w 5 (by decide) (List.mem_cons_of_mem _ uf_RX9_26) dX9_test_202 ?_
    refine lv_iload_n hx hb dX9_test_205 rfl (lv_at hl 4 rfl) ?_
    obtain ⟨hq_310, h⟩ := ck_e h
    refine mw_iald cx w 2 5 14 (by decide) hq_310 dX9_test_206 ?_
    obtain ⟨hq_311, h⟩ := ck_e h
    refine mw_iald cx w 0 3 8 (by decide) hq_311 dX9_test_207 ?_
    refine lv_iload hx hb dX9_test_208 (lv_at hl 0 rfl) ?_
    obtain ⟨r_313, S_312, hc_314, h⟩ := bd_e h
    refine mw_calli (As := [.int (S.2.1 3 ((S.2.1 5 (a2).toNatClampNeg)).toNatClampNeg), .int x5_306]) (rest := []) cx (cc_has l D cs ad S S_312 (S.2.1 3 ((S.2.1 5 (a2).toNatClampNeg)).toNatClampNeg) x5_306 r_313 hc_314) (cwV 2 hts (uG uw_X9_has ul_RX9_189 ui_X9_has us_RX9_X9_has un_RX9) rfl rfl rfl ud_X9_has ⟨Nat.le_of_ble_eq_true rfl, Nat.le_of_ble_eq_true rfl⟩) w rfl hl.1 rfl (Nat.le_of_ble_eq_true rfl) dX9_test_210 (fun H locs w => ?_)
    obtain ⟨hq_315, h⟩ := ck_e h
    exact mw_zret cx (z01_e hq_315) (rt_e h) w dX9_test_213
  have h := br_n q_309 h
  by_cases q_316 : (a1 / (1000 : Int32)) = (101 : Int32)
  · have h := br_p q_316 h
    refine lv_tableIn (tgt := 214) hx hb dX9_test_20 (by rw [q_316]; decide) (by rw [q_316]; decide) (by rw [q_316]; rfl) (by decide) ?_
    refine lv_iload_n hx hb dX9_test_214 rfl (lv_at hl 5 rfl) ?_
    refine lv_iload hx hb dX9_test_215 (lv_at hl 0 rfl) ?_
    refine lv_icmp_ne (tgt := 224) hx hb dX9_test_217 (by decide) (fun q => ?_) (fun q => ?_)
    · have h := br_n q h
      refine lv_iconst (v := (0 : Int32)) hx hb dX9_test_224 (by decide) ?_
      exact mw_zret cx (Or.inl rfl) (rt_e h) w dX9_test_225
    · have h := br_p q h
      refine lv_iconst (v := (1 : Int32)) hx hb dX9_test_220 (by decide) ?_
      refine lv_goto (tgt := 225) hx hb dX9_test_221 (by decide) ?_
      exact mw_zret cx (Or.inr rfl) (rt_e h) w dX9_test_225
  have h := br_n q_316 h
  by_cases q_317 : (a1 / (1000 : Int32)) = (104 : Int32)
  · have h := br_p q_317 h
    refine lv_tableIn (tgt := 131) hx hb dX9_test_20 (by rw [q_317]; decide) (by rw [q_317]; decide) (by rw [q_317]; rfl) (by decide) ?_
    refine lv_aload_n hx hb dX9_test_131 rfl (lv_at hl 2 rfl) ?_
    refine lv_iload hx hb dX9_test_132 (lv_at hl 1 rfl) ?_
    refine lv_aload_n hx hb dX9_test_134 rfl (lv_at hl 2 rfl) ?_
    refine mw_getR cx hin w 27 (by decide) (List.mem_cons_of_mem _ uf_RX9_92) dX9_test_135 ?_
    refine lv_aload_n hx hb dX9_test_138 rfl (lv_at hl 2 rfl) ?_
    refine mw_getR cx hin w 5 (by decide) (List.mem_cons_of_mem _ uf_RX9_26) dX9_test_139 ?_
    refine lv_iload_n hx hb dX9_test_142 rfl (lv_at hl 4 rfl) ?_
    obtain ⟨hq_318, h⟩ := ck_e h
    refine mw_iald cx w 2 5 14 (by decide) hq_318 dX9_test_143 ?_
    obtain ⟨hq_319, h⟩ := ck_e h
    refine mw_iald cx w 15 27 8 (by decide) hq_319 dX9_test_144 ?_
    refine lv_iload hx hb dX9_test_145 (lv_at hl 0 rfl) ?_
    obtain ⟨r_321, S_320, hc_322, h⟩ := bd_e h
    refine mw_calli (As := [.int x4_305, .int (S.2.1 27 ((S.2.1 5 (a2).toNatClampNeg)).toNatClampNeg), .int x5_306]) (rest := []) cx (cc_compares l D cs ad S S_320 x4_305 (S.2.1 27 ((S.2.1 5 (a2).toNatClampNeg)).toNatClampNeg) x5_306 r_321 hc_322) (cwV 3 hts (uG uw_X9_compares ul_RX9_183 ui_X9_compares us_RX9_X9_compares un_RX9) rfl rfl rfl ud_X9_compares ⟨Nat.le_of_ble_eq_true rfl, Nat.le_of_ble_eq_true rfl⟩) w rfl hl.1 rfl (Nat.le_of_ble_eq_true rfl) dX9_test_147 (fun H locs w => ?_)
    obtain ⟨hq_323, h⟩ := ck_e h
    exact mw_zret cx (z01_e hq_323) (rt_e h) w dX9_test_150
  have h := br_n q_317 h
  by_cases q_324 : (a1 / (1000 : Int32)) = (107 : Int32)
  · have h := br_p q_324 h
    refine lv_tableIn (tgt := 116) hx hb dX9_test_20 (by rw [q_324]; decide) (by rw [q_324]; decide) (by rw [q_324]; rfl) (by decide) ?_
    refine lv_aload_n hx hb dX9_test_116 rfl (lv_at hl 2 rfl) ?_
    refine lv_iload hx hb dX9_test_117 (lv_at hl 1 rfl) ?_
    refine lv_aload_n hx hb dX9_test_119 rfl (lv_at hl 2 rfl) ?_
    refine mw_getR cx hin w 4 (by decide) (List.mem_cons_of_mem _ uf_RX9_23) dX9_test_120 ?_
    refine lv_iload_n hx hb dX9_test_123 rfl (lv_at hl 4 rfl) ?_
    obtain ⟨hq_325, h⟩ := ck_e h
    refine mw_iald cx w 1 4 14 (by decide) hq_325 dX9_test_124 ?_
    refine lv_iload hx hb dX9_test_125 (lv_at hl 0 rfl) ?_
    obtain ⟨r_327, S_326, hc_328, h⟩ := bd_e h
    refine mw_calli (As := [.int x4_305, .int (S.2.1 4 (a2).toNatClampNeg), .int x5_306]) (rest := []) cx (cc_compares l D cs ad S S_326 x4_305 (S.2.1 4 (a2).toNatClampNeg) x5_306 r_327 hc_328) (cwV 3 hts (uG uw_X9_compares ul_RX9_183 ui_X9_compares us_RX9_X9_compares un_RX9) rfl rfl rfl ud_X9_compares ⟨Nat.le_of_ble_eq_true rfl, Nat.le_of_ble_eq_true rfl⟩) w rfl hl.1 rfl (Nat.le_of_ble_eq_true rfl) dX9_test_127 (fun H locs w => ?_)
    obtain ⟨hq_329, h⟩ := ck_e h
    exact mw_zret cx (z01_e hq_329) (rt_e h) w dX9_test_130
  have h := br_n q_324 h
  by_cases q_330 : (a1 / (1000 : Int32)) = (117 : Int32)
  · have h := br_p q_330 h
    refine lv_tableIn (tgt := 151) hx hb dX9_test_20 (by rw [q_330]; decide) (by rw [q_330]; decide) (by rw [q_330]; rfl) (by decide) ?_
    refine lv_iload hx hb dX9_test_151 (lv_at hl 0 rfl) ?_
    refine lv_bipush (v := (7 : Int32)) hx hb dX9_test_153 (by decide) ?_
    refine lv_icmp_ge (tgt := 177) hx hb dX9_test_155 (by decide) (fun q => ?_) (fun q => ?_)
    · have h := br_p q h
      exact J177   S h _ _ _ (lv_sub hl [] rfl) w
    · have h := br_n q h
      refine lv_aload_n hx hb dX9_test_158 rfl (lv_at hl 2 rfl) ?_
      refine lv_aload_n hx hb dX9_test_159 rfl (lv_at hl 2 rfl) ?_
      refine mw_getR cx hin w 4 (by decide) (List.mem_cons_of_mem _ uf_RX9_23) dX9_test_160 ?_
      refine lv_iload_n hx hb dX9_test_163 rfl (lv_at hl 4 rfl) ?_
      obtain ⟨hq_331, h⟩ := ck_e h
      refine mw_iald cx w 1 4 14 (by decide) hq_331 dX9_test_164 ?_
      refine lv_iload hx hb dX9_test_165 (lv_at hl 0 rfl) ?_
      obtain ⟨r_333, S_332, hc_334, h⟩ := bd_e h
      refine mw_calli (As := [.int (S.2.1 4 (a2).toNatClampNeg), .int x5_306]) (rest := []) cx (cc_isUnder l D cs ad S S_332 (S.2.1 4 (a2).toNatClampNeg) x5_306 r_333 hc_334) (cwV 2 hts (uG uw_X9_isUnder ul_RX9_186 ui_X9_isUnder us_RX9_X9_isUnder un_RX9) rfl rfl rfl ud_X9_isUnder ⟨Nat.le_of_ble_eq_true rfl, Nat.le_of_ble_eq_true rfl⟩) w rfl hl.1 rfl (Nat.le_of_ble_eq_true rfl) dX9_test_167 (fun H locs w => ?_)
      refine lv_if_eq (tgt := 177) hx hb dX9_test_170 (by decide) (fun q => ?_) (fun q => ?_)
      · have h := br_p q h
        exact J177   S_332 h _ _ _ (lv_sub hl [] rfl) w
      · have h := br_n q h
        refine lv_iconst (v := (1 : Int32)) hx hb dX9_test_173 (by decide) ?_
        refine lv_goto (tgt := 178) hx hb dX9_test_174 (by decide) ?_
        exact mw_zret cx (Or.inr rfl) (rt_e h) w dX9_test_178
  have h := br_n q_330 h
  refine lv_tableH (tgt := 226) hx hb dX9_test_20 (by by_cases q_335 : (a1 / (1000 : Int32)) = (100 : Int32); exact Or.inr ⟨by rw [q_335]; decide, by rw [q_335]; decide, by rw [q_335]; rfl⟩; by_cases q_336 : (a1 / (1000 : Int32)) = (102 : Int32); exact Or.inr ⟨by rw [q_336]; decide, by rw [q_336]; decide, by rw [q_336]; rfl⟩; by_cases q_337 : (a1 / (1000 : Int32)) = (103 : Int32); exact Or.inr ⟨by rw [q_337]; decide, by rw [q_337]; decide, by rw [q_337]; rfl⟩; by_cases q_338 : (a1 / (1000 : Int32)) = (105 : Int32); exact Or.inr ⟨by rw [q_338]; decide, by rw [q_338]; decide, by rw [q_338]; rfl⟩; by_cases q_339 : (a1 / (1000 : Int32)) = (106 : Int32); exact Or.inr ⟨by rw [q_339]; decide, by rw [q_339]; decide, by rw [q_339]; rfl⟩; by_cases q_340 : (a1 / (1000 : Int32)) = (108 : Int32); exact Or.inr ⟨by rw [q_340]; decide, by rw [q_340]; decide, by rw [q_340]; rfl⟩; by_cases q_341 : (a1 / (1000 : Int32)) = (109 : Int32); exact Or.inr ⟨by rw [q_341]; decide, by rw [q_341]; decide, by rw [q_341]; rfl⟩; by_cases q_342 : (a1 / (1000 : Int32)) = (110 : Int32); exact Or.inr ⟨by rw [q_342]; decide, by rw [q_342]; decide, by rw [q_342]; rfl⟩; by_cases q_343 : (a1 / (1000 : Int32)) = (111 : Int32); exact Or.inr ⟨by rw [q_343]; decide, by rw [q_343]; decide, by rw [q_343]; rfl⟩; by_cases q_344 : (a1 / (1000 : Int32)) = (112 : Int32); exact Or.inr ⟨by rw [q_344]; decide, by rw [q_344]; decide, by rw [q_344]; rfl⟩; by_cases q_345 : (a1 / (1000 : Int32)) = (113 : Int32); exact Or.inr ⟨by rw [q_345]; decide, by rw [q_345]; decide, by rw [q_345]; rfl⟩; by_cases q_346 : (a1 / (1000 : Int32)) = (114 : Int32); exact Or.inr ⟨by rw [q_346]; decide, by rw [q_346]; decide, by rw [q_346]; rfl⟩; by_cases q_347 : (a1 / (1000 : Int32)) = (115 : Int32); exact Or.inr ⟨by rw [q_347]; decide, by rw [q_347]; decide, by rw [q_347]; rfl⟩; by_cases q_348 : (a1 / (1000 : Int32)) = (116 : Int32); exact Or.inr ⟨by rw [q_348]; decide, by rw [q_348]; decide, by rw [q_348]; rfl⟩; exact Or.inl (by have := lv_neT q_307 (a := 98) (by decide); have := lv_neT q_309 (a := 99) (by decide); have := lv_neT q_316 (a := 101) (by decide); have := lv_neT q_317 (a := 104) (by decide); have := lv_neT q_324 (a := 107) (by decide); have := lv_neT q_330 (a := 117) (by decide); have := lv_neT q_335 (a := 100) (by decide); have := lv_neT q_336 (a := 102) (by decide); have := lv_neT q_337 (a := 103) (by decide); have := lv_neT q_338 (a := 105) (by decide); have := lv_neT q_339 (a := 106) (by decide); have := lv_neT q_340 (a := 108) (by decide); have := lv_neT q_341 (a := 109) (by decide); have := lv_neT q_342 (a := 110) (by decide); have := lv_neT q_343 (a := 111) (by decide); have := lv_neT q_344 (a := 112) (by decide); have := lv_neT q_345 (a := 113) (by decide); have := lv_neT q_346 (a := 114) (by decide); have := lv_neT q_347 (a := 115) (by decide); have := lv_neT q_348 (a := 116) (by decide); omega)) (by decide) ?_
  exact J226  x5_306 S h _ _ _ (lv_sub hl [2, 0] rfl) w
def mm_holds_178 (k11 : Int32 → Int32 → Int32 → Int32 → Int32 → MS → Option (Int32 × MS)) (x1 : Int32) (x2 : Int32) (x3 : Int32) (x4 : Int32) (x5 : Int32) (S : MS) : Option (Int32 × MS) := lt_ (x5 + (1 : Int32)) (fun x5_101 => k11 x1 x2 x3 x4 x5_101 S)
def mm_holds_63 (k11 : Int32 → Int32 → Int32 → Int32 → Int32 → MS → Option (Int32 × MS)) (x1 : Int32) (x2 : Int32) (x3 : Int32) (x4 : Int32) (x5 : Int32) (t1 : Int32) (t2 : Int32) (S : MS) : Option (Int32 × MS) := ck (vin t1 100) (lt_ (mR S 28 (t1).toNatClampNeg (vp_nar .boolean t2)) (fun S_203 => mm_holds_178 k11 x1 x2 x3 x4 x5 S_203))
def mm_holds_156 (k11 : Int32 → Int32 → Int32 → Int32 → Int32 → MS → Option (Int32 × MS)) (x1 : Int32) (x2 : Int32) (x3 : Int32) (x4 : Int32) (x5 : Int32) (t1 : Int32) (t2 : Int32) (S : MS) : Option (Int32 × MS) := ck (vin t1 100) (lt_ (mR S 28 (t1).toNatClampNeg (vp_nar .boolean t2)) (fun S_305 => mm_holds_178 k11 x1 x2 x3 x4 x5 S_305))
def mm_holds_125 (k11 : Int32 → Int32 → Int32 → Int32 → Int32 → MS → Option (Int32 × MS)) (x1 : Int32) (x2 : Int32) (x3 : Int32) (x4 : Int32) (x5 : Int32) (t1 : Int32) (S : MS) : Option (Int32 × MS) := mm_holds_156 k11 x1 x2 x3 x4 x5 t1 (0 : Int32) S
def mm_holds_151 (k11 : Int32 → Int32 → Int32 → Int32 → Int32 → MS → Option (Int32 × MS)) (x1 : Int32) (x2 : Int32) (x3 : Int32) (x4 : Int32) (x5 : Int32) (t1 : Int32) (S : MS) : Option (Int32 × MS) := mm_holds_156 k11 x1 x2 x3 x4 x5 t1 (1 : Int32) S
def mm_holds_81 (k11 : Int32 → Int32 → Int32 → Int32 → Int32 → MS → Option (Int32 × MS)) (x1 : Int32) (x2 : Int32) (x3 : Int32) (x4 : Int32) (x5 : Int32) (x6 : Int32) (S : MS) : Option (Int32 × MS) := lt_ (x4 + (-1 : Int32)) (fun x4_606 => if x6 = (38 : Int32) then (ck (vin (x4_606 - (1 : Int32)) 100) (if (S.2.1 28 ((x4_606 - (1 : Int32))).toNatClampNeg) = (0 : Int32) then (mm_holds_125 k11 x1 x2 x3 x4_606 x5 (x4_606 - (1 : Int32)) S) else (ck (vin x4_606 100) (if (S.2.1 28 (x4_606).toNatClampNeg) = (0 : Int32) then (mm_holds_125 k11 x1 x2 x3 x4_606 x5 (x4_606 - (1 : Int32)) S) else (mm_holds_156 k11 x1 x2 x3 x4_606 x5 (x4_606 - (1 : Int32)) (1 : Int32) S))))) else (ck (vin (x4_606 - (1 : Int32)) 100) (if (S.2.1 28 ((x4_606 - (1 : Int32))).toNatClampNeg) = (0 : Int32) then (ck (vin x4_606 100) (if (S.2.1 28 (x4_606).toNatClampNeg) = (0 : Int32) then (mm_holds_156 k11 x1 x2 x3 x4_606 x5 (x4_606 - (1 : Int32)) (0 : Int32) S) else (mm_holds_151 k11 x1 x2 x3 x4_606 x5 (x4_606 - (1 : Int32)) S))) else (mm_holds_151 k11 x1 x2 x3 x4_606 x5 (x4_606 - (1 : Int32)) S))))
def mm_holds_11 (k11 : Int32 → Int32 → Int32 → Int32 → Int32 → MS → Option (Int32 × MS)) (x1 : Int32) (x2 : Int32) (x3 : Int32) (x4 : Int32) (x5 : Int32) (S : MS) : Option (Int32 × MS) := ck (vin x1 60) (if (S.2.1 18 (x1).toNatClampNeg) ≤ x5 then (ck (vin (0 : Int32) 100) (ck (z01 (S.2.1 28 ((0 : Int32)).toNatClampNeg)) (some ((S.2.1 28 ((0 : Int32)).toNatClampNeg), S)))) else (ck (vin x5 1000) (lt_ ((S.2.1 19 (x5).toNatClampNeg)) (fun x6_715 => if x6_715 = (33 : Int32) then (ck (vin (x4 - (1 : Int32)) 100) (if (S.2.1 28 ((x4 - (1 : Int32))).toNatClampNeg) = (0 : Int32) then (mm_holds_63 k11 x1 x2 x3 x4 x5 (x4 - (1 : Int32)) (1 : Int32) S) else (mm_holds_63 k11 x1 x2 x3 x4 x5 (x4 - (1 : Int32)) (0 : Int32) S))) else (if x6_715 = (38 : Int32) then (mm_holds_81 k11 x1 x2 x3 x4 x5 x6_715 S) else (if x6_715 = (124 : Int32) then (mm_holds_81 k11 x1 x2 x3 x4 x5 x6_715 S) else (bd (mm_test S x6_715 x2 x3) (fun r_717 S_716 => ck (vin x4 100) (lt_ (mR S_716 28 (x4).toNatClampNeg (vp_nar .boolean r_717)) (fun S_720 => lt_ (x4 + (1 : Int32)) (fun x4_721 => mm_holds_178 k11 x1 x2 x3 x4_721 x5 S_720)))))))))))
def mm_holds_11L : Nat → Int32 → Int32 → Int32 → Int32 → Int32 → MS → Option (Int32 × MS)
  | 0, _, _, _, _, _, _ => none
  | n + 1, x1, x2, x3, x4, x5, S => mm_holds_11  (mm_holds_11L  n) x1 x2 x3 x4 x5 S
def mm_holds (S : MS) (a1 : Int32) (a2 : Int32) (a3 : Int32) : Option (Int32 × MS) := lt_ ((0 : Int32)) (fun x4_823 => ck (vin a1 60) (lt_ ((S.2.1 17 (a1).toNatClampNeg)) (fun x5_825 => mm_holds_11L  4000 a1 a2 a3 x4_823 x5_825 S)))
abbrev wu_X9_holds : List Cond := .code yX9_holds cX9_holds 7 (some .boolean) :: wsL_law
theorem ud_X9_holds : yX9_holds.cls = RX9 ∧ yX9_holds.cls ≠ "java/lang/invoke/MethodHandle" ∧ yX9_holds.cls ≠ "java/lang/invoke/VarHandle" ∧ (parseMethodDescriptor yX9_holds.desc).map (fun d => d.parameters.length) = some 3 := by decide +kernel
abbrev rmX9_holds : Room := { frames := 2, cells := 0, slots := 0, locals := 48 }
set_option maxHeartbeats 4000000 in
set_option maxRecDepth 100000 in
theorem cc_holds (l : Launch) (D : va_G) (cs : Nat → ClassId) (ad : Nat → Nat) (S T : MS) (a1 : Int32) (a2 : Int32) (a3 : Int32) (r0 : Int32) (h : mm_holds S a1 a2 a3 = some (r0, T)) : MetI l yX9_holds wu_X9_holds rmX9_holds D cs ad [.int a1, .int a2, .int a3] S T r0 := by
  refine mo_I (ty := .boolean) (cc := cX9_holds) (maxL := 7) ⟨by decide, rfl⟩ rfl (Nat.le_of_ble_eq_true rfl) ?_
  intro p e s m args below meth c ls cx hl w
  have hx := cx.1
  have hb := cx.2.1
  have hts := cx.2.2.2.1
  have hown := cx.2.2.2.2.1
  have hin : ∀ w ∈ wsX90, w ∈ wu_X9_holds := fun _ hq => List.mem_cons_of_mem _ (inlX9 _ hq)
  have hl : lv_has ls 7 [(0, .ref (ad 100)), (1, .int a1), (2, .int a2), (3, .int a3)] := hl
  have J178 : ∀ (k11 : Int32 → Int32 → Int32 → Int32 → Int32 → MS → Option (Int32 × MS)) (hk11 : ∀ (x1 : Int32) (x2 : Int32) (x3 : Int32) (x4 : Int32) (x5 : Int32) (S : MS), k11 x1 x2 x3 x4 x5 S = some (r0, T) → mGo p l e rmX9_holds s m args below meth c 7 D cs ad (mQI below D cs ad args s r0 T) 11 [(0, .ref (ad 100)), (1, .int x1), (2, .int x2), (3, .int x3), (4, .int x4), (5, .int x5)] [] S) (x1 : Int32) (x2 : Int32) (x3 : Int32) (x4 : Int32) (x5 : Int32) (S : MS), mm_holds_178 k11 x1 x2 x3 x4 x5 S = some (r0, T) → mGo p l e rmX9_holds s m args below meth c 7 D cs ad (mQI below D cs ad args s r0 T) 178 [(0, .ref (ad 100)), (1, .int x1), (2, .int x2), (3, .int x3), (4, .int x4), (5, .int x5)] [] S := by
    intro k11 hk11 x1 x2 x3 x4 x5 S h H locs ls hl w
    unfold mm_holds_178 at h
    obtain ⟨x5_101, ex5_101, h⟩ := lt_e h
    refine lv_iinc (v := x5_101) (lv' := [(5, .int x5_101), (0, .ref (ad 100)), (1, .int x1), (2, .int x2), (3, .int x3), (4, .int x4)]) hx hb dX9_holds_178 hl (k := 5) rfl (by rw [ex5_101]; rfl) (by decide) rfl (fun ls hl => ?_)
    refine lv_goto (tgt := 11) hx hb dX9_holds_181 (by decide) ?_
    exact hk11 x1 x2 x3 x4 x5_101 S h _ _ _ (lv_sub hl [1, 2, 3, 4, 5, 0] rfl) w
  have J63 : ∀ (k11 : Int32 → Int32 → Int32 → Int32 → Int32 → MS → Option (Int32 × MS)) (hk11 : ∀ (x1 : Int32) (x2 : Int32) (x3 : Int32) (x4 : Int32) (x5 : Int32) (S : MS), k11 x1 x2 x3 x4 x5 S = some (r0, T) → mGo p l e rmX9_holds s m args below meth c 7 D cs ad (mQI below D cs ad args s r0 T) 11 [(0, .ref (ad 100)), (1, .int x1), (2, .int x2), (3, .int x3), (4, .int x4), (5, .int x5)] [] S) (x1 : Int32) (x2 : Int32) (x3 : Int32) (x4 : Int32) (x5 : Int32) (t1 : Int32) (t2 : Int32) (S : MS), mm_holds_63 k11 x1 x2 x3 x4 x5 t1 t2 S = some (r0, T) → mGo p l e rmX9_holds s m args below meth c 7 D cs ad (mQI below D cs ad args s r0 T) 63 [(0, .ref (ad 100)), (1, .int x1), (2, .int x2), (3, .int x3), (4, .int x4), (5, .int x5)] [.int t2, .int t1, .ref (ad 28)] S := by
    intro k11 hk11 x1 x2 x3 x4 x5 t1 t2 S h H locs ls hl w
    unfold mm_holds_63 at h
    obtain ⟨hq_202, h⟩ := ck_e h
    obtain ⟨S_203, eS_203, h⟩ := lt_e h
    refine mw_zast cx w 16 28 100 (by decide) hq_202 eS_203 dX9_holds_63 (fun H locs w => ?_)
    refine lv_goto (tgt := 178) hx hb dX9_holds_64 (by decide) ?_
    exact J178 k11 hk11 x1 x2 x3 x4 x5 S_203 h _ _ _ (lv_sub hl [0, 1, 2, 3, 4, 5] rfl) w
  have J156 : ∀ (k11 : Int32 → Int32 → Int32 → Int32 → Int32 → MS → Option (Int32 × MS)) (hk11 : ∀ (x1 : Int32) (x2 : Int32) (x3 : Int32) (x4 : Int32) (x5 : Int32) (S : MS), k11 x1 x2 x3 x4 x5 S = some (r0, T) → mGo p l e rmX9_holds s m args below meth c 7 D cs ad (mQI below D cs ad args s r0 T) 11 [(0, .ref (ad 100)), (1, .int x1), (2, .int x2), (3, .int x3), (4, .int x4), (5, .int x5)] [] S) (x1 : Int32) (x2 : Int32) (x3 : Int32) (x4 : Int32) (x5 : Int32) (t1 : Int32) (t2 : Int32) (S : MS), mm_holds_156 k11 x1 x2 x3 x4 x5 t1 t2 S = some (r0, T) → mGo p l e rmX9_holds s m args below meth c 7 D cs ad (mQI below D cs ad args s r0 T) 156 [(0, .ref (ad 100)), (1, .int x1), (2, .int x2), (3, .int x3), (4, .int x4), (5, .int x5)] [.int t2, .int t1, .ref (ad 28)] S := by
    intro k11 hk11 x1 x2 x3 x4 x5 t1 t2 S h H locs ls hl w
    unfold mm_holds_156 at h
    obtain ⟨hq_304, h⟩ := ck_e h
    obtain ⟨S_305, eS_305, h⟩ := lt_e h
    refine mw_zast cx w 16 28 100 (by decide) hq_304 eS_305 dX9_holds_156 (fun H locs w => ?_)
    refine lv_goto (tgt := 178) hx hb dX9_holds_157 (by decide) ?_
    exact J178 k11 hk11 x1 x2 x3 x4 x5 S_305 h _ _ _ (lv_sub hl [0, 1, 2, 3, 4, 5] rfl) w
  have J125 : ∀ (k11 : Int32 → Int32 → Int32 → Int32 → Int32 → MS → Option (Int32 × MS)) (hk11 : ∀ (x1 : Int32) (x2 : Int32) (x3 : Int32) (x4 : Int32) (x5 : Int32) (S : MS), k11 x1 x2 x3 x4 x5 S = some (r0, T) → mGo p l e rmX9_holds s m args below meth c 7 D cs ad (mQI below D cs ad args s r0 T) 11 [(0, .ref (ad 100)), (1, .int x1), (2, .int x2), (3, .int x3), (4, .int x4), (5, .int x5)] [] S) (x1 : Int32) (x2 : Int32) (x3 : Int32) (x4 : Int32) (x5 : Int32) (t1 : Int32) (S : MS), mm_holds_125 k11 x1 x2 x3 x4 x5 t1 S = some (r0, T) → mGo p l e rmX9_holds s m args below meth c 7 D cs ad (mQI below D cs ad args s r0 T) 125 [(0, .ref (ad 100)), (1, .int x1), (2, .int x2), (3, .int x3), (4, .int x4), (5, .int x5)] [.int t1, .ref (ad 28)] S := by
    intro k11 hk11 x1 x2 x3 x4 x5 t1 S h H locs ls hl w
    unfold mm_holds_125 at h
    refine lv_iconst (v := (0 : Int32)) hx hb dX9_holds_125 (by decide) ?_
    refine lv_goto (tgt := 156) hx hb dX9_holds_126 (by decide) ?_
    exact J156 k11 hk11 x1 x2 x3 x4 x5 t1 (0 : Int32) S h _ _ _ (lv_sub hl [0, 1, 2, 3, 4, 5] rfl) w
  have J151 : ∀ (k11 : Int32 → Int32 → Int32 → Int32 → Int32 → MS → Option (Int32 × MS)) (hk11 : ∀ (x1 : Int32) (x2 : Int32) (x3 : Int32) (x4 : Int32) (x5 : Int32) (S : MS), k11 x1 x2 x3 x4 x5 S = some (r0, T) → mGo p l e rmX9_holds s m args below meth c 7 D cs ad (mQI below D cs ad args s r0 T) 11 [(0, .ref (ad 100)), (1, .int x1), (2, .int x2), (3, .int x3), (4, .int x4), (5, .int x5)] [] S) (x1 : Int32) (x2 : Int32) (x3 : Int32) (x4 : Int32) (x5 : Int32) (t1 : Int32) (S : MS), mm_holds_151 k11 x1 x2 x3 x4 x5 t1 S = some (r0, T) → mGo p l e rmX9_holds s m args below meth c 7 D cs ad (mQI below D cs ad args s r0 T) 151 [(0, .ref (ad 100)), (1, .int x1), (2, .int x2), (3, .int x3), (4, .int x4), (5, .int x5)] [.int t1, .ref (ad 28)] S := by
    intro k11 hk11 x1 x2 x3 x4 x5 t1 S h H locs ls hl w
    unfold mm_holds_151 at h
    refine lv_iconst (v := (1 : Int32)) hx hb dX9_holds_151 (by decide) ?_
    refine lv_goto (tgt := 156) hx hb dX9_holds_152 (by decide) ?_
    exact J156 k11 hk11 x1 x2 x3 x4 x5 t1 (1 : Int32) S h _ _ _ (lv_sub hl [0, 1, 2, 3, 4, 5] rfl) w
  have J81 : ∀ (k11 : Int32 → Int32 → Int32 → Int32 → Int32 → MS → Option (Int32 × MS)) (hk11 : ∀ (x1 : Int32) (x2 : Int32) (x3 : Int32) (x4 : Int32) (x5 : Int32) (S : MS), k11 x1 x2 x3 x4 x5 S = some (r0, T) → mGo p l e rmX9_holds s m args below meth c 7 D cs ad (mQI below D cs ad args s r0 T) 11 [(0, .ref (ad 100)), (1, .int x1), (2, .int x2), (3, .int x3), (4, .int x4), (5, .int x5)] [] S) (x1 : Int32) (x2 : Int32) (x3 : Int32) (x4 : Int32) (x5 : Int32) (x6 : Int32) (S : MS), mm_holds_81 k11 x1 x2 x3 x4 x5 x6 S = some (r0, T) → mGo p l e rmX9_holds s m args below meth c 7 D cs ad (mQI below D cs ad args s r0 T) 81 [(0, .ref (ad 100)), (1, .int x1), (2, .int x2), (3, .int x3), (4, .int x4), (5, .int x5), (6, .int x6)] [] S := by
    intro k11 hk11 x1 x2 x3 x4 x5 x6 S h H locs ls hl w
    unfold mm_holds_81 at h
    obtain ⟨x4_606, ex4_606, h⟩ := lt_e h
    refine lv_iinc (v := x4_606) (lv' := [(4, .int x4_606), (0, .ref (ad 100)), (1, .int x1), (2, .int x2), (3, .int x3), (5, .int x5), (6, .int x6)]) hx hb dX9_holds_81 hl (k := 4) rfl (by rw [ex4_606]; rfl) (by decide) rfl (fun ls hl => ?_)
    refine lv_aload_n hx hb dX9_holds_84 rfl (lv_at hl 1 rfl) ?_
    refine mw_getR cx hin w 28 (by decide) (List.mem_cons_of_mem _ uf_RX9_95) dX9_holds_85 ?_
    refine lv_iload hx hb dX9_holds_88 (lv_at hl 0 rfl) ?_
    refine lv_iconst (v := (1 : Int32)) hx hb dX9_holds_90 (by decide) ?_
    refine lv_isub hx hb dX9_holds_91 ?_
    refine lv_iload hx hb dX9_holds_92 (lv_at hl 6 rfl) ?_
    refine lv_bipush (v := (38 : Int32)) hx hb dX9_holds_94 (by decide) ?_
    refine lv_icmp_ne (tgt := 129) hx hb dX9_holds_96 (by decide) (fun q => ?_) (fun q => ?_)
    · have h := br_n q h
      refine lv_aload_n hx hb dX9_holds_129 rfl (lv_at hl 1 rfl) ?_
      refine mw_getR cx hin w 28 (by decide) (List.mem_cons_of_mem _ uf_RX9_95) dX9_holds_130 ?_
      refine lv_iload hx hb dX9_holds_133 (lv_at hl 0 rfl) ?_
      refine lv_iconst (v := (1 : Int32)) hx hb dX9_holds_135 (by decide) ?_
      refine lv_isub hx hb dX9_holds_136 ?_
      obtain ⟨hq_607, h⟩ := ck_e h
      refine mw_zald cx w 16 28 100 (by decide) hq_607 dX9_holds_137 ?_
      refine lv_if_ne (tgt := 151) hx hb dX9_holds_138 (by decide) (fun q => ?_) (fun q => ?_)
      · have h := br_n q h
        exact J151 k11 hk11 x1 x2 x3 x4_606 x5 (x4_606 - (1 : Int32)) S h _ _ _ (lv_sub hl [1, 2, 3, 4, 0, 5] rfl) w
      · have h := br_p q h
        refine lv_aload_n hx hb dX9_holds_141 rfl (lv_at hl 1 rfl) ?_
        refine mw_getR cx hin w 28 (by decide) (List.mem_cons_of_mem _ uf_RX9_95) dX9_holds_142 ?_
        refine lv_iload hx hb dX9_holds_145 (lv_at hl 0 rfl) ?_
        obtain ⟨hq_608, h⟩ := ck_e h
        refine mw_zald cx w 16 28 100 (by decide) hq_608 dX9_holds_147 ?_
        refine lv_if_eq (tgt := 155) hx hb dX9_holds_148 (by decide) (fun q => ?_) (fun q => ?_)
        · have h := br_p q h
          refine lv_iconst (v := (0 : Int32)) hx hb dX9_holds_155 (by decide) ?_
          exact J156 k11 hk11 x1 x2 x3 x4_606 x5 (x4_606 - (1 : Int32)) (0 : Int32) S h _ _ _ (lv_sub hl [1, 2, 3, 4, 0, 5] rfl) w
        · have h := br_n q h
          exact J151 k11 hk11 x1 x2 x3 x4_606 x5 (x4_606 - (1 : Int32)) S h _ _ _ (lv_sub hl [1, 2, 3, 4, 0, 5] rfl) w
    · have h := br_p q h
      refine lv_aload_n hx hb dX9_holds_99 rfl (lv_at hl 1 rfl) ?_
      refine mw_getR cx hin w 28 (by decide) (List.mem_cons_of_mem _ uf_RX9_95) dX9_holds_100 ?_
      refine lv_iload hx hb dX9_holds_103 (lv_at hl 0 rfl) ?_
      refine lv_iconst (v := (1 : Int32)) hx hb dX9_holds_105 (by decide) ?_
      refine lv_isub hx hb dX9_holds_106 ?_
      obtain ⟨hq_609, h⟩ := ck_e h
      refine mw_zald cx w 16 28 100 (by decide) hq_609 dX9_holds_107 ?_
      refine lv_if_eq (tgt := 125) hx hb dX9_holds_108 (by decide) (fun q => ?_) (fun q => ?_)
      · have h := br_p q h
        exact J125 k11 hk11 x1 x2 x3 x4_606 x5 (x4_606 - (1 : Int32)) S h _ _ _ (lv_sub hl [1, 2, 3, 4, 0, 5] rfl) w
      · have h := br_n q h
        refine lv_aload_n hx hb dX9_holds_111 rfl (lv_at hl 1 rfl) ?_
        refine mw_getR cx hin w 28 (by decide) (List.mem_cons_of_mem _ uf_RX9_95) dX9_holds_112 ?_
        refine lv_iload hx hb dX9_holds_115 (lv_at hl 0 rfl) ?_
        obtain ⟨hq_610, h⟩ := ck_e h
        refine mw_zald cx w 16 28 100 (by decide) hq_610 dX9_holds_117 ?_
        refine lv_if_eq (tgt := 125) hx hb dX9_holds_118 (by decide) (fun q => ?_) (fun q => ?_)
        · have h := br_p q h
          exact J125 k11 hk11 x1 x2 x3 x4_606 x5 (x4_606 - (1 : Int32)) S h _ _ _ (lv_sub hl [1, 2, 3, 4, 0, 5] rfl) w
        · have h := br_n q h
          refine lv_iconst (v := (1 : Int32)) hx hb dX9_holds_121 (by decide) ?_
          refine lv_goto (tgt := 156) hx hb dX9_holds_122 (by decide) ?_
          exact J156 k11 hk11 x1 x2 x3 x4_606 x5 (x4_606 - (1 : Int32)) (1 : Int32) S h _ _ _ (lv_sub hl [1, 2, 3, 4, 0, 5] rfl) w
  have L11 : ∀ (n : Nat) (x1 : Int32) (x2 : Int32) (x3 : Int32) (x4 : Int32) (x5 : Int32) (S : MS), mm_holds_11L  n x1 x2 x3 x4 x5 S = some (r0, T) → mGo p l e rmX9_holds s m args below meth c 7 D cs ad (mQI below D cs ad args s r0 T) 11 [(0, .ref (ad 100)), (1, .int x1), (2, .int x2), (3, .int x3), (4, .int x4), (5, .int x5)] [] S := by
    intro n
    induction n with
    | zero =>
      intro x1 x2 x3 x4 x5 S h
      have h : none = some (r0, T) := h
      cases h
    | succ n hk11 =>
      intro x1 x2 x3 x4 x5 S h H locs ls hl w
      have h : mm_holds_11  (mm_holds_11L  n) x1 x2 x3 x4 x5 S = some (r0, T) := h
      generalize mm_holds_11L  n = k11 at h hk11
      unfold mm_holds_11 at h
      refine lv_iload hx hb dX9_holds_11 (lv_at hl 5 rfl) ?_
      refine lv_aload_n hx hb dX9_holds_13 rfl (lv_at hl 0 rfl) ?_
      refine mw_getR cx hin w 18 (by decide) (List.mem_cons_of_mem _ uf_RX9_65) dX9_holds_14 ?_
      refine lv_iload_n hx hb dX9_holds_17 rfl (lv_at hl 1 rfl) ?_
      obtain ⟨hq_711, h⟩ := ck_e h
      refine mw_iald cx w 12 18 60 (by decide) hq_711 dX9_holds_18 ?_
      refine lv_icmp_ge (tgt := 184) hx hb dX9_holds_19 (by decide) (fun q => ?_) (fun q => ?_)
      · have h := br_p q h
        refine lv_aload_n hx hb dX9_holds_184 rfl (lv_at hl 0 rfl) ?_
        refine mw_getR cx hin w 28 (by decide) (List.mem_cons_of_mem _ uf_RX9_95) dX9_holds_185 ?_
        refine lv_iconst (v := (0 : Int32)) hx hb dX9_holds_188 (by decide) ?_
        obtain ⟨hq_712, h⟩ := ck_e h
        refine mw_zald cx w 16 28 100 (by decide) hq_712 dX9_holds_189 ?_
        obtain ⟨hq_713, h⟩ := ck_e h
        exact mw_zret cx (z01_e hq_713) (rt_e h) w dX9_holds_190
      · have h := br_n q h
        refine lv_aload_n hx hb dX9_holds_22 rfl (lv_at hl 0 rfl) ?_
        refine mw_getR cx hin w 19 (by decide) (List.mem_cons_of_mem _ uf_RX9_68) dX9_holds_23 ?_
        refine lv_iload hx hb dX9_holds_26 (lv_at hl 5 rfl) ?_
        obtain ⟨hq_714, h⟩ := ck_e h
        refine mw_iald cx w 13 19 1000 (by decide) hq_714 dX9_holds_28 ?_
        obtain ⟨x6_715, ex6_715, h⟩ := lt_e h
        refine top_i ex6_715 ?_
        refine lv_istore (lv' := [(6, .int x6_715), (0, .ref (ad 100)), (1, .int x1), (2, .int x2), (3, .int x3), (4, .int x4), (5, .int x5)]) hx hb dX9_holds_29 hl (by decide) rfl (fun ls hl => ?_)
        refine lv_iload hx hb dX9_holds_31 (lv_at hl 0 rfl) ?_
        refine lv_bipush (v := (33 : Int32)) hx hb dX9_holds_33 (by decide) ?_
        refine lv_icmp_ne (tgt := 67) hx hb dX9_holds_35 (by decide) (fun q => ?_) (fun q => ?_)
        · have h := br_n q h
          refine lv_iload hx hb dX9_holds_67 (lv_at hl 0 rfl) ?_
          refine lv_bipush (v := (38 : Int32)) hx hb dX9_holds_69 (by decide) ?_
          refine lv_icmp_eq (tgt := 81) hx hb dX9_holds_71 (by decide) (fun q => ?_) (fun q => ?_)
          · have h := br_p q h
            exact J81 k11 hk11 x1 x2 x3 x4 x5 x6_715 S h _ _ _ (lv_sub hl [1, 2, 3, 4, 5, 6, 0] rfl) w
          · have h := br_n q h
            refine lv_iload hx hb dX9_holds_74 (lv_at hl 0 rfl) ?_
            refine lv_bipush (v := (124 : Int32)) hx hb dX9_holds_76 (by decide) ?_
            refine lv_icmp_ne (tgt := 160) hx hb dX9_holds_78 (by decide) (fun q => ?_) (fun q => ?_)
            · have h := br_n q h
              refine lv_aload_n hx hb dX9_holds_160 rfl (lv_at hl 1 rfl) ?_
              refine mw_getR cx hin w 28 (by decide) (List.mem_cons_of_mem _ uf_RX9_95) dX9_holds_161 ?_
              refine lv_iload hx hb dX9_holds_164 (lv_at hl 5 rfl) ?_
              refine lv_aload_n hx hb dX9_holds_166 rfl (lv_at hl 1 rfl) ?_
              refine lv_iload hx hb dX9_holds_167 (lv_at hl 0 rfl) ?_
              refine lv_iload_n hx hb dX9_holds_169 rfl (lv_at hl 3 rfl) ?_
              refine lv_iload_n hx hb dX9_holds_170 rfl (lv_at hl 4 rfl) ?_
              obtain ⟨r_717, S_716, hc_718, h⟩ := bd_e h
              refine mw_calli (As := [.int x6_715, .int x2, .int x3]) (rest := [.int x4, .ref (ad 28)]) cx (cc_test l D cs ad S S_716 x6_715 x2 x3 r_717 hc_718) (cwV 3 hts (uG uw_X9_test ul_RX9_192 ui_X9_test us_RX9_X9_test un_RX9) rfl rfl rfl ud_X9_test ⟨Nat.le_of_ble_eq_true rfl, Nat.le_of_ble_eq_true rfl⟩) w rfl hl.1 rfl (Nat.le_of_ble_eq_true rfl) dX9_holds_171 (fun H locs w => ?_)
              obtain ⟨hq_719, h⟩ := ck_e h
              obtain ⟨S_720, eS_720, h⟩ := lt_e h
              refine mw_zast cx w 16 28 100 (by decide) hq_719 eS_720 dX9_holds_174 (fun H locs w => ?_)
              obtain ⟨x4_721, ex4_721, h⟩ := lt_e h
              refine lv_iinc (v := x4_721) (lv' := [(4, .int x4_721), (6, .int x6_715), (0, .ref (ad 100)), (1, .int x1), (2, .int x2), (3, .int x3), (5, .int x5)]) hx hb dX9_holds_175 hl (k := 5) rfl (by rw [ex4_721]; rfl) (by decide) rfl (fun ls hl => ?_)
              exact J178 k11 hk11 x1 x2 x3 x4_721 x5 S_720 h _ _ _ (lv_sub hl [2, 3, 4, 5, 0, 6] rfl) w
            · have h := br_p q h
              exact J81 k11 hk11 x1 x2 x3 x4 x5 x6_715 S h _ _ _ (lv_sub hl [1, 2, 3, 4, 5, 6, 0] rfl) w
        · have h := br_p q h
          refine lv_aload_n hx hb dX9_holds_38 rfl (lv_at hl 1 rfl) ?_
          refine mw_getR cx hin w 28 (by decide) (List.mem_cons_of_mem _ uf_RX9_95) dX9_holds_39 ?_
          refine lv_iload hx hb dX9_holds_42 (lv_at hl 5 rfl) ?_
          refine lv_iconst (v := (1 : Int32)) hx hb dX9_holds_44 (by decide) ?_
          refine lv_isub hx hb dX9_holds_45 ?_
          refine lv_aload_n hx hb dX9_holds_46 rfl (lv_at hl 1 rfl) ?_
          refine mw_getR cx hin w 28 (by decide) (List.mem_cons_of_mem _ uf_RX9_95) dX9_holds_47 ?_
          refine lv_iload hx hb dX9_holds_50 (lv_at hl 5 rfl) ?_
          refine lv_iconst (v := (1 : Int32)) hx hb dX9_holds_52 (by decide) ?_
          refine lv_isub hx hb dX9_holds_53 ?_
          obtain ⟨hq_722, h⟩ := ck_e h
          refine mw_zald cx w 16 28 100 (by decide) hq_722 dX9_holds_54 ?_
          refine lv_if_ne (tgt := 62) hx hb dX9_holds_55 (by decide) (fun q => ?_) (fun q => ?_)
          · have h := br_n q h
            refine lv_iconst (v := (0 : Int32)) hx hb dX9_holds_62 (by decide) ?_
            exact J63 k11 hk11 x1 x2 x3 x4 x5 (x4 - (1 : Int32)) (0 : Int32) S h _ _ _ (lv_sub hl [1, 2, 3, 4, 5, 6] rfl) w
          · have h := br_p q h
            refine lv_iconst (v := (1 : Int32)) hx hb dX9_holds_58 (by decide) ?_
            refine lv_goto (tgt := 63) hx hb dX9_holds_59 (by decide) ?_
            exact J63 k11 hk11 x1 x2 x3 x4 x5 (x4 - (1 : Int32)) (1 : Int32) S h _ _ _ (lv_sub hl [1, 2, 3, 4, 5, 6] rfl) w
  unfold mm_holds at h
  refine lv_iconst (v := (0 : Int32)) hx hb dX9_holds_0 (by decide) ?_
  obtain ⟨x4_823, ex4_823, h⟩ := lt_e h
  refine top_i ex4_823 ?_
  refine lv_istore (lv' := [(4, .int x4_823), (0, .ref (ad 100)), (1, .int a1), (2, .int a2), (3, .int a3)]) hx hb dX9_holds_1 hl (by decide) rfl (fun ls hl => ?_)
  refine lv_aload_n hx hb dX9_holds_3 rfl (lv_at hl 1 rfl) ?_
  refine mw_getR cx hin w 17 (by decide) (List.mem_cons_of_mem _ uf_RX9_62) dX9_holds_4 ?_
  refine lv_iload_n hx hb dX9_holds_7 rfl (lv_at hl 2 rfl) ?_
  obtain ⟨hq_824, h⟩ := ck_e h
  refine mw_iald cx w 11 17 60 (by decide) hq_824 dX9_holds_8 ?_
  obtain ⟨x5_825, ex5_825, h⟩ := lt_e h
  refine top_i ex5_825 ?_
  refine lv_istore (lv' := [(5, .int x5_825), (4, .int x4_823), (0, .ref (ad 100)), (1, .int a1), (2, .int a2), (3, .int a3)]) hx hb dX9_holds_9 hl (by decide) rfl (fun ls hl => ?_)
  exact L11  4000 a1 a2 a3 x4_823 x5_825 S h _ _ _ (lv_sub hl [2, 3, 4, 5, 1, 0] rfl) w
def mm_firstOf_50 (k3 : Int32 → Int32 → Int32 → Int32 → Int32 → MS → Option (Int32 × MS)) (x1 : Int32) (x2 : Int32) (x3 : Int32) (x4 : Int32) (x5 : Int32) (S : MS) : Option (Int32 × MS) := lt_ (x5 + (1 : Int32)) (fun x5_101 => k3 x1 x2 x3 x4 x5_101 S)
def mm_firstOf_3 (k3 : Int32 → Int32 → Int32 → Int32 → Int32 → MS → Option (Int32 × MS)) (x1 : Int32) (x2 : Int32) (x3 : Int32) (x4 : Int32) (x5 : Int32) (S : MS) : Option (Int32 × MS) := ck (vin x1 10) (if (S.2.1 14 (x1).toNatClampNeg) ≤ x5 then (some ((-1 : Int32), S)) else (ck (vin (((6 : Int32) * x1) + x5) 60) (if (S.2.1 15 ((((6 : Int32) * x1) + x5)).toNatClampNeg) = x2 then (bd (mm_holds S (((6 : Int32) * x1) + x5) x3 x4) (fun r_205 S_204 => if r_205 = (0 : Int32) then (mm_firstOf_50 k3 x1 x2 x3 x4 x5 S_204) else (some (x5, S_204)))) else (mm_firstOf_50 k3 x1 x2 x3 x4 x5 S))))
def mm_firstOf_3L : Nat → Int32 → Int32 → Int32 → Int32 → Int32 → MS → Option (Int32 × MS)
  | 0, _, _, _, _, _, _ => none
  | n + 1, x1, x2, x3, x4, x5, S => mm_firstOf_3  (mm_firstOf_3L  n) x1 x2 x3 x4 x5 S
def mm_firstOf (S : MS) (a1 : Int32) (a2 : Int32) (a3 : Int32) (a4 : Int32) : Option (Int32 × MS) := lt_ ((0 : Int32)) (fun x5_307 => mm_firstOf_3L  4000 a1 a2 a3 a4 x5_307 S)
abbrev wu_X9_firstOf : List Cond := .code yX9_firstOf cX9_firstOf 6 (some .int) :: wsL_law
theorem ud_X9_firstOf : yX9_firstOf.cls = RX9 ∧ yX9_firstOf.cls ≠ "java/lang/invoke/MethodHandle" ∧ yX9_firstOf.cls ≠ "java/lang/invoke/VarHandle" ∧ (parseMethodDescriptor yX9_firstOf.desc).map (fun d => d.parameters.length) = some 4 := by decide +kernel
abbrev rmX9_firstOf : Room := { frames := 3, cells := 0, slots := 0, locals := 74 }
set_option maxHeartbeats 4000000 in
set_option maxRecDepth 100000 in
theorem cc_firstOf (l : Launch) (D : va_G) (cs : Nat → ClassId) (ad : Nat → Nat) (S T : MS) (a1 : Int32) (a2 : Int32) (a3 : Int32) (a4 : Int32) (r0 : Int32) (h : mm_firstOf S a1 a2 a3 a4 = some (r0, T)) : MetI l yX9_firstOf wu_X9_firstOf rmX9_firstOf D cs ad [.int a1, .int a2, .int a3, .int a4] S T r0 := by
  refine mo_I (ty := .int) (cc := cX9_firstOf) (maxL := 6) ⟨by decide, rfl⟩ rfl (Nat.le_of_ble_eq_true rfl) ?_
  intro p e s m args below meth c ls cx hl w
  have hx := cx.1
  have hb := cx.2.1
  have hts := cx.2.2.2.1
  have hown := cx.2.2.2.2.1
  have hin : ∀ w ∈ wsX90, w ∈ wu_X9_firstOf := fun _ hq => List.mem_cons_of_mem _ (inlX9 _ hq)
  have hl : lv_has ls 6 [(0, .ref (ad 100)), (1, .int a1), (2, .int a2), (3, .int a3), (4, .int a4)] := hl
  have J50 : ∀ (k3 : Int32 → Int32 → Int32 → Int32 → Int32 → MS → Option (Int32 × MS)) (hk3 : ∀ (x1 : Int32) (x2 : Int32) (x3 : Int32) (x4 : Int32) (x5 : Int32) (S : MS), k3 x1 x2 x3 x4 x5 S = some (r0, T) → mGo p l e rmX9_firstOf s m args below meth c 6 D cs ad (mQI below D cs ad args s r0 T) 3 [(0, .ref (ad 100)), (1, .int x1), (2, .int x2), (3, .int x3), (4, .int x4), (5, .int x5)] [] S) (x1 : Int32) (x2 : Int32) (x3 : Int32) (x4 : Int32) (x5 : Int32) (S : MS), mm_firstOf_50 k3 x1 x2 x3 x4 x5 S = some (r0, T) → mGo p l e rmX9_firstOf s m args below meth c 6 D cs ad (mQI below D cs ad args s r0 T) 50 [(0, .ref (ad 100)), (1, .int x1), (2, .int x2), (3, .int x3), (4, .int x4), (5, .int x5)] [] S := by
    intro k3 hk3 x1 x2 x3 x4 x5 S h H locs ls hl w
    unfold mm_firstOf_50 at h
    obtain ⟨x5_101, ex5_101, h⟩ := lt_e h
    refine lv_iinc (v := x5_101) (lv' := [(5, .int x5_101), (0, .ref (ad 100)), (1, .int x1), (2, .int x2), (3, .int x3), (4, .int x4)]) hx hb dX9_firstOf_50 hl (k := 5) rfl (by rw [ex5_101]; rfl) (by decide) rfl (fun ls hl => ?_)
    refine lv_goto (tgt := 3) hx hb dX9_firstOf_53 (by decide) ?_
    exact hk3 x1 x2 x3 x4 x5_101 S h _ _ _ (lv_sub hl [1, 2, 3, 4, 5, 0] rfl) w
  have L3 : ∀ (n : Nat) (x1 : Int32) (x2 : Int32) (x3 : Int32) (x4 : Int32) (x5 : Int32) (S : MS), mm_firstOf_3L  n x1 x2 x3 x4 x5 S = some (r0, T) → mGo p l e rmX9_firstOf s m args below meth c 6 D cs ad (mQI below D cs ad args s r0 T) 3 [(0, .ref (ad 100)), (1, .int x1), (2, .int x2), (3, .int x3), (4, .int x4), (5, .int x5)] [] S := by
    intro n
    induction n with
    | zero =>
      intro x1 x2 x3 x4 x5 S h
      have h : none = some (r0, T) := h
      cases h
    | succ n hk3 =>
      intro x1 x2 x3 x4 x5 S h H locs ls hl w
      have h : mm_firstOf_3  (mm_firstOf_3L  n) x1 x2 x3 x4 x5 S = some (r0, T) := h
      generalize mm_firstOf_3L  n = k3 at h hk3
      unfold mm_firstOf_3 at h
      refine lv_iload hx hb dX9_firstOf_3 (lv_at hl 5 rfl) ?_
      refine lv_aload_n hx hb dX9_firstOf_5 rfl (lv_at hl 0 rfl) ?_
      refine mw_getR cx hin w 14 (by decide) (List.mem_cons_of_mem _ uf_RX9_53) dX9_firstOf_6 ?_
      refine lv_iload_n hx hb dX9_firstOf_9 rfl (lv_at hl 1 rfl) ?_
      obtain ⟨hq_202, h⟩ := ck_e h
      refine mw_iald cx w 8 14 10 (by decide) hq_202 dX9_firstOf_10 ?_
      refine lv_icmp_ge (tgt := 56) hx hb dX9_firstOf_11 (by decide) (fun q => ?_) (fun q => ?_)
      · have h := br_p q h
        refine lv_iconst (v := (-1 : Int32)) hx hb dX9_firstOf_56 (by decide) ?_
        exact mw_iret cx (rt_e h) w dX9_firstOf_57
      · have h := br_n q h
        refine lv_aload_n hx hb dX9_firstOf_14 rfl (lv_at hl 0 rfl) ?_
        refine mw_getR cx hin w 15 (by decide) (List.mem_cons_of_mem _ uf_RX9_56) dX9_firstOf_15 ?_
        refine lv_bipush (v := (6 : Int32)) hx hb dX9_firstOf_18 (by decide) ?_
        refine lv_iload_n hx hb dX9_firstOf_20 rfl (lv_at hl 1 rfl) ?_
        refine lv_imul hx hb dX9_firstOf_21 ?_
        refine lv_iload hx hb dX9_firstOf_22 (lv_at hl 5 rfl) ?_
        refine lv_iadd hx hb dX9_firstOf_24 ?_
        obtain ⟨hq_203, h⟩ := ck_e h
        refine mw_iald cx w 9 15 60 (by decide) hq_203 dX9_firstOf_25 ?_
        refine lv_iload_n hx hb dX9_firstOf_26 rfl (lv_at hl 2 rfl) ?_
        refine lv_icmp_ne (tgt := 50) hx hb dX9_firstOf_27 (by decide) (fun q => ?_) (fun q => ?_)
        · have h := br_n q h
          exact J50 k3 hk3 x1 x2 x3 x4 x5 S h _ _ _ (lv_sub hl [0, 1, 2, 3, 4, 5] rfl) w
        · have h := br_p q h
          refine lv_aload_n hx hb dX9_firstOf_30 rfl (lv_at hl 0 rfl) ?_
          refine lv_bipush (v := (6 : Int32)) hx hb dX9_firstOf_31 (by decide) ?_
          refine lv_iload_n hx hb dX9_firstOf_33 rfl (lv_at hl 1 rfl) ?_
          refine lv_imul hx hb dX9_firstOf_34 ?_
          refine lv_iload hx hb dX9_firstOf_35 (lv_at hl 5 rfl) ?_
          refine lv_iadd hx hb dX9_firstOf_37 ?_
          refine lv_iload_n hx hb dX9_firstOf_38 rfl (lv_at hl 3 rfl) ?_
          refine lv_iload hx hb dX9_firstOf_39 (lv_at hl 4 rfl) ?_
          obtain ⟨r_205, S_204, hc_206, h⟩ := bd_e h
          refine mw_calli (As := [.int (((6 : Int32) * x1) + x5), .int x3, .int x4]) (rest := []) cx (cc_holds l D cs ad S S_204 (((6 : Int32) * x1) + x5) x3 x4 r_205 hc_206) (cwV 3 hts (uG uw_X9_holds ul_RX9_195 ui_X9_holds us_RX9_X9_holds un_RX9) rfl rfl rfl ud_X9_holds ⟨Nat.le_of_ble_eq_true rfl, Nat.le_of_ble_eq_true rfl⟩) w rfl hl.1 rfl (Nat.le_of_ble_eq_true rfl) dX9_firstOf_41 (fun H locs w => ?_)
          refine lv_if_eq (tgt := 50) hx hb dX9_firstOf_44 (by decide) (fun q => ?_) (fun q => ?_)
          · have h := br_p q h
            exact J50 k3 hk3 x1 x2 x3 x4 x5 S_204 h _ _ _ (lv_sub hl [0, 1, 2, 3, 4, 5] rfl) w
          · have h := br_n q h
            refine lv_iload hx hb dX9_firstOf_47 (lv_at hl 5 rfl) ?_
            exact mw_iret cx (rt_e h) w dX9_firstOf_49
  unfold mm_firstOf at h
  refine lv_iconst (v := (0 : Int32)) hx hb dX9_firstOf_0 (by decide) ?_
  obtain ⟨x5_307, ex5_307, h⟩ := lt_e h
  refine top_i ex5_307 ?_
  refine lv_istore (lv' := [(5, .int x5_307), (0, .ref (ad 100)), (1, .int a1), (2, .int a2), (3, .int a3), (4, .int a4)]) hx hb dX9_firstOf_1 hl (by decide) rfl (fun ls hl => ?_)
  exact L3  4000 a1 a2 a3 a4 x5_307 S h _ _ _ (lv_sub hl [1, 2, 3, 4, 5, 0] rfl) w
def mm_lacks_71 (k3 : Int32 → Int32 → Int32 → Int32 → MS → Option (Int32 × MS)) (x1 : Int32) (x2 : Int32) (x3 : Int32) (x4 : Int32) (S : MS) : Option (Int32 × MS) := lt_ (x4 + (1 : Int32)) (fun x4_101 => k3 x1 x2 x3 x4_101 S)
def mm_lacks_3 (k3 : Int32 → Int32 → Int32 → Int32 → MS → Option (Int32 × MS)) (x1 : Int32) (x2 : Int32) (x3 : Int32) (x4 : Int32) (S : MS) : Option (Int32 × MS) := ck (vin x1 10) (if (S.2.1 14 (x1).toNatClampNeg) ≤ x4 then (some ((0 : Int32), S)) else (ck (vin (((6 : Int32) * x1) + x4) 60) (if (S.2.1 15 ((((6 : Int32) * x1) + x4)).toNatClampNeg) = (2 : Int32) then (ck (vin (((6 : Int32) * x1) + x4) 60) (bd (mm_has S (S.1 24) (S.2.1 16 ((((6 : Int32) * x1) + x4)).toNatClampNeg)) (fun r_206 S_205 => if r_206 = (0 : Int32) then (bd (mm_holds S_205 (((6 : Int32) * x1) + x4) x2 x3) (fun r_209 S_208 => if r_209 = (0 : Int32) then (mm_lacks_71 k3 x1 x2 x3 x4 S_208) else (some ((1 : Int32), S_208)))) else (mm_lacks_71 k3 x1 x2 x3 x4 S_205)))) else (mm_lacks_71 k3 x1 x2 x3 x4 S))))
def mm_lacks_3L : Nat → Int32 → Int32 → Int32 → Int32 → MS → Option (Int32 × MS)
  | 0, _, _, _, _, _ => none
  | n + 1, x1, x2, x3, x4, S => mm_lacks_3  (mm_lacks_3L  n) x1 x2 x3 x4 S
def mm_lacks (S : MS) (a1 : Int32) (a2 : Int32) (a3 : Int32) : Option (Int32 × MS) := lt_ ((0 : Int32)) (fun x4_311 => mm_lacks_3L  4000 a1 a2 a3 x4_311 S)
abbrev wu_X9_lacks : List Cond := .code yX9_lacks cX9_lacks 5 (some .boolean) :: wsL_law
theorem ud_X9_lacks : yX9_lacks.cls = RX9 ∧ yX9_lacks.cls ≠ "java/lang/invoke/MethodHandle" ∧ yX9_lacks.cls ≠ "java/lang/invoke/VarHandle" ∧ (parseMethodDescriptor yX9_lacks.desc).map (fun d => d.parameters.length) = some 3 := by decide +kernel
abbrev rmX9_lacks : Room := { frames := 3, cells := 0, slots := 0, locals := 74 }
set_option maxHeartbeats 4000000 in
set_option maxRecDepth 100000 in
theorem cc_lacks (l : Launch) (D : va_G) (cs : Nat → ClassId) (ad : Nat → Nat) (S T : MS) (a1 : Int32) (a2 : Int32) (a3 : Int32) (r0 : Int32) (h : mm_lacks S a1 a2 a3 = some (r0, T)) : MetI l yX9_lacks wu_X9_lacks rmX9_lacks D cs ad [.int a1, .int a2, .int a3] S T r0 := by
  refine mo_I (ty := .boolean) (cc := cX9_lacks) (maxL := 5) ⟨by decide, rfl⟩ rfl (Nat.le_of_ble_eq_true rfl) ?_
  intro p e s m args below meth c ls cx hl w
  have hx := cx.1
  have hb := cx.2.1
  have hts := cx.2.2.2.1
  have hown := cx.2.2.2.2.1
  have hin : ∀ w ∈ wsX90, w ∈ wu_X9_lacks := fun _ hq => List.mem_cons_of_mem _ (inlX9 _ hq)
  have hl : lv_has ls 5 [(0, .ref (ad 100)), (1, .int a1), (2, .int a2), (3, .int a3)] := hl
  have J71 : ∀ (k3 : Int32 → Int32 → Int32 → Int32 → MS → Option (Int32 × MS)) (hk3 : ∀ (x1 : Int32) (x2 : Int32) (x3 : Int32) (x4 : Int32) (S : MS), k3 x1 x2 x3 x4 S = some (r0, T) → mGo p l e rmX9_lacks s m args below meth c 5 D cs ad (mQI below D cs ad args s r0 T) 3 [(0, .ref (ad 100)), (1, .int x1), (2, .int x2), (3, .int x3), (4, .int x4)] [] S) (x1 : Int32) (x2 : Int32) (x3 : Int32) (x4 : Int32) (S : MS), mm_lacks_71 k3 x1 x2 x3 x4 S = some (r0, T) → mGo p l e rmX9_lacks s m args below meth c 5 D cs ad (mQI below D cs ad args s r0 T) 71 [(0, .ref (ad 100)), (1, .int x1), (2, .int x2), (3, .int x3), (4, .int x4)] [] S := by
    intro k3 hk3 x1 x2 x3 x4 S h H locs ls hl w
    unfold mm_lacks_71 at h
    obtain ⟨x4_101, ex4_101, h⟩ := lt_e h
    refine lv_iinc (v := x4_101) (lv' := [(4, .int x4_101), (0, .ref (ad 100)), (1, .int x1), (2, .int x2), (3, .int x3)]) hx hb dX9_lacks_71 hl (k := 4) rfl (by rw [ex4_101]; rfl) (by decide) rfl (fun ls hl => ?_)
    refine lv_goto (tgt := 3) hx hb dX9_lacks_74 (by decide) ?_
    exact hk3 x1 x2 x3 x4_101 S h _ _ _ (lv_sub hl [1, 2, 3, 4, 0] rfl) w
  have L3 : ∀ (n : Nat) (x1 : Int32) (x2 : Int32) (x3 : Int32) (x4 : Int32) (S : MS), mm_lacks_3L  n x1 x2 x3 x4 S = some (r0, T) → mGo p l e rmX9_lacks s m args below meth c 5 D cs ad (mQI below D cs ad args s r0 T) 3 [(0, .ref (ad 100)), (1, .int x1), (2, .int x2), (3, .int x3), (4, .int x4)] [] S := by
    intro n
    induction n with
    | zero =>
      intro x1 x2 x3 x4 S h
      have h : none = some (r0, T) := h
      cases h
    | succ n hk3 =>
      intro x1 x2 x3 x4 S h H locs ls hl w
      have h : mm_lacks_3  (mm_lacks_3L  n) x1 x2 x3 x4 S = some (r0, T) := h
      generalize mm_lacks_3L  n = k3 at h hk3
      unfold mm_lacks_3 at h
      refine lv_iload hx hb dX9_lacks_3 (lv_at hl 4 rfl) ?_
      refine lv_aload_n hx hb dX9_lacks_5 rfl (lv_at hl 0 rfl) ?_
      refine mw_getR cx hin w 14 (by decide) (List.mem_cons_of_mem _ uf_RX9_53) dX9_lacks_6 ?_
      refine lv_iload_n hx hb dX9_lacks_9 rfl (lv_at hl 1 rfl) ?_
      obtain ⟨hq_202, h⟩ := ck_e h
      refine mw_iald cx w 8 14 10 (by decide) hq_202 dX9_lacks_10 ?_
      refine lv_icmp_ge (tgt := 77) hx hb dX9_lacks_11 (by decide) (fun q => ?_) (fun q => ?_)
      · have h := br_p q h
        refine lv_iconst (v := (0 : Int32)) hx hb dX9_lacks_77 (by decide) ?_
        exact mw_zret cx (Or.inl rfl) (rt_e h) w dX9_lacks_78
      · have h := br_n q h
        refine lv_aload_n hx hb dX9_lacks_14 rfl (lv_at hl 0 rfl) ?_
        refine mw_getR cx hin w 15 (by decide) (List.mem_cons_of_mem _ uf_RX9_56) dX9_lacks_15 ?_
        refine lv_bipush (v := (6 : Int32)) hx hb dX9_lacks_18 (by decide) ?_
        refine lv_iload_n hx hb dX9_lacks_20 rfl (lv_at hl 1 rfl) ?_
        refine lv_imul hx hb dX9_lacks_21 ?_
        refine lv_iload hx hb dX9_lacks_22 (lv_at hl 4 rfl) ?_
        refine lv_iadd hx hb dX9_lacks_24 ?_
        obtain ⟨hq_203, h⟩ := ck_e h
        refine mw_iald cx w 9 15 60 (by decide) hq_203 dX9_lacks_25 ?_
        refine lv_iconst (v := (2 : Int32)) hx hb dX9_lacks_26 (by decide) ?_
        refine lv_icmp_ne (tgt := 71) hx hb dX9_lacks_27 (by decide) (fun q => ?_) (fun q => ?_)
        · have h := br_n q h
          exact J71 k3 hk3 x1 x2 x3 x4 S h _ _ _ (lv_sub hl [0, 1, 2, 3, 4] rfl) w
        · have h := br_p q h
          refine lv_aload_n hx hb dX9_lacks_30 rfl (lv_at hl 0 rfl) ?_
          refine lv_aload_n hx hb dX9_lacks_31 rfl (lv_at hl 0 rfl) ?_
          refine mw_getI cx hin w 24 (by decide) (List.mem_cons_of_mem _ uf_RX9_83) dX9_lacks_32 ?_
          refine lv_aload_n hx hb dX9_lacks_35 rfl (lv_at hl 0 rfl) ?_
          refine mw_getR cx hin w 16 (by decide) (List.mem_cons_of_mem _ uf_RX9_59) dX9_lacks_36 ?_
          refine lv_bipush (v := (6 : Int32)) hx hb dX9_lacks_39 (by decide) ?_
          refine lv_iload_n hx hb dX9_lacks_41 rfl (lv_at hl 1 rfl) ?_
          refine lv_imul hx hb dX9_lacks_42 ?_
          refine lv_iload hx hb dX9_lacks_43 (lv_at hl 4 rfl) ?_
          refine lv_iadd hx hb dX9_lacks_45 ?_
          obtain ⟨hq_204, h⟩ := ck_e h
          refine mw_iald cx w 10 16 60 (by decide) hq_204 dX9_lacks_46 ?_
          obtain ⟨r_206, S_205, hc_207, h⟩ := bd_e h
          refine mw_calli (As := [.int (S.1 24), .int (S.2.1 16 ((((6 : Int32) * x1) + x4)).toNatClampNeg)]) (rest := []) cx (cc_has l D cs ad S S_205 (S.1 24) (S.2.1 16 ((((6 : Int32) * x1) + x4)).toNatClampNeg) r_206 hc_207) (cwV 2 hts (uG uw_X9_has ul_RX9_189 ui_X9_has us_RX9_X9_has un_RX9) rfl rfl rfl ud_X9_has ⟨Nat.le_of_ble_eq_true rfl, Nat.le_of_ble_eq_true rfl⟩) w rfl hl.1 rfl (Nat.le_of_ble_eq_true rfl) dX9_lacks_47 (fun H locs w => ?_)
          refine lv_if_ne (tgt := 71) hx hb dX9_lacks_50 (by decide) (fun q => ?_) (fun q => ?_)
          · have h := br_n q h
            exact J71 k3 hk3 x1 x2 x3 x4 S_205 h _ _ _ (lv_sub hl [0, 1, 2, 3, 4] rfl) w
          · have h := br_p q h
            refine lv_aload_n hx hb dX9_lacks_53 rfl (lv_at hl 0 rfl) ?_
            refine lv_bipush (v := (6 : Int32)) hx hb dX9_lacks_54 (by decide) ?_
            refine lv_iload_n hx hb dX9_lacks_56 rfl (lv_at hl 1 rfl) ?_
            refine lv_imul hx hb dX9_lacks_57 ?_
            refine lv_iload hx hb dX9_lacks_58 (lv_at hl 4 rfl) ?_
            refine lv_iadd hx hb dX9_lacks_60 ?_
            refine lv_iload_n hx hb dX9_lacks_61 rfl (lv_at hl 2 rfl) ?_
            refine lv_iload_n hx hb dX9_lacks_62 rfl (lv_at hl 3 rfl) ?_
            obtain ⟨r_209, S_208, hc_210, h⟩ := bd_e h
            refine mw_calli (As := [.int (((6 : Int32) * x1) + x4), .int x2, .int x3]) (rest := []) cx (cc_holds l D cs ad S_205 S_208 (((6 : Int32) * x1) + x4) x2 x3 r_209 hc_210) (cwV 3 hts (uG uw_X9_holds ul_RX9_195 ui_X9_holds us_RX9_X9_holds un_RX9) rfl rfl rfl ud_X9_holds ⟨Nat.le_of_ble_eq_true rfl, Nat.le_of_ble_eq_true rfl⟩) w rfl hl.1 rfl (Nat.le_of_ble_eq_true rfl) dX9_lacks_63 (fun H locs w => ?_)
            refine lv_if_eq (tgt := 71) hx hb dX9_lacks_66 (by decide) (fun q => ?_) (fun q => ?_)
            · have h := br_p q h
              exact J71 k3 hk3 x1 x2 x3 x4 S_208 h _ _ _ (lv_sub hl [0, 1, 2, 3, 4] rfl) w
            · have h := br_n q h
              refine lv_iconst (v := (1 : Int32)) hx hb dX9_lacks_69 (by decide) ?_
              exact mw_zret cx (Or.inr rfl) (rt_e h) w dX9_lacks_70
  unfold mm_lacks at h
  refine lv_iconst (v := (0 : Int32)) hx hb dX9_lacks_0 (by decide) ?_
  obtain ⟨x4_311, ex4_311, h⟩ := lt_e h
  refine top_i ex4_311 ?_
  refine lv_istore (lv' := [(4, .int x4_311), (0, .ref (ad 100)), (1, .int a1), (2, .int a2), (3, .int a3)]) hx hb dX9_lacks_1 hl (by decide) rfl (fun ls hl => ?_)
  exact L3  4000 a1 a2 a3 x4_311 S h _ _ _ (lv_sub hl [1, 2, 3, 4, 0] rfl) w
def mm_keepsOut_63  (S : MS) : Option (Int32 × MS) := some ((0 : Int32), S)
def mm_keepsOut_24 (x1 : Int32) (x2 : Int32) (x3 : Int32) (S : MS) : Option (Int32 × MS) := bd (mm_lacks S x1 x2 x3) (fun r_202 S_201 => if r_202 = (0 : Int32) then (bd (mm_has S_201 (S_201.1 25) x1) (fun r_205 S_204 => if r_205 = (0 : Int32) then (bd (mm_firstOf S_204 x1 (3 : Int32) x2 x3) (fun r_208 S_207 => if r_208 < (0 : Int32) then (mm_keepsOut_63   S_207) else (some ((1 : Int32), S_207)))) else (mm_keepsOut_63   S_204))) else (some ((1 : Int32), S_201)))
def mm_keepsOut (S : MS) (a1 : Int32) (a2 : Int32) (a3 : Int32) : Option (Int32 × MS) := bd (mm_firstOf S a1 (0 : Int32) a2 a3) (fun r_311 S_310 => if r_311 < (0 : Int32) then (mm_keepsOut_24  a1 a2 a3 S_310) else (bd (mm_firstOf S_310 a1 (1 : Int32) a2 a3) (fun r_314 S_313 => if (0 : Int32) ≤ r_314 then (mm_keepsOut_24  a1 a2 a3 S_313) else (some ((1 : Int32), S_313)))))
abbrev wu_X9_keepsOut : List Cond := .code yX9_keepsOut cX9_keepsOut 4 (some .boolean) :: wsL_law
theorem ud_X9_keepsOut : yX9_keepsOut.cls = RX9 ∧ yX9_keepsOut.cls ≠ "java/lang/invoke/MethodHandle" ∧ yX9_keepsOut.cls ≠ "java/lang/invoke/VarHandle" ∧ (parseMethodDescriptor yX9_keepsOut.desc).map (fun d => d.parameters.length) = some 3 := by decide +kernel
abbrev rmX9_keepsOut : Room := { frames := 4, cells := 0, slots := 0, locals := 99 }
set_option maxHeartbeats 4000000 in
set_option maxRecDepth 100000 in
theorem cc_keepsOut (l : Launch) (D : va_G) (cs : Nat → ClassId) (ad : Nat → Nat) (S T : MS) (a1 : Int32) (a2 : Int32) (a3 : Int32) (r0 : Int32) (h : mm_keepsOut S a1 a2 a3 = some (r0, T)) : MetI l yX9_keepsOut wu_X9_keepsOut rmX9_keepsOut D cs ad [.int a1, .int a2, .int a3] S T r0 := by
  refine mo_I (ty := .boolean) (cc := cX9_keepsOut) (maxL := 4) ⟨by decide, rfl⟩ rfl (Nat.le_of_ble_eq_true rfl) ?_
  intro p e s m args below meth c ls cx hl w
  have hx := cx.1
  have hb := cx.2.1
  have hts := cx.2.2.2.1
  have hown := cx.2.2.2.2.1
  have hin : ∀ w ∈ wsX90, w ∈ wu_X9_keepsOut := fun _ hq => List.mem_cons_of_mem _ (inlX9 _ hq)
  have hl : lv_has ls 4 [(0, .ref (ad 100)), (1, .int a1), (2, .int a2), (3, .int a3)] := hl
  have J63 : ∀  (S : MS), mm_keepsOut_63   S = some (r0, T) → mGo p l e rmX9_keepsOut s m args below meth c 4 D cs ad (mQI below D cs ad args s r0 T) 63 [] [] S := by
    intro  S h H locs ls hl w
    unfold mm_keepsOut_63 at h
    refine lv_iconst (v := (0 : Int32)) hx hb dX9_keepsOut_63 (by decide) ?_
    exact mw_zret cx (Or.inl rfl) (rt_e h) w dX9_keepsOut_64
  have J24 : ∀ (x1 : Int32) (x2 : Int32) (x3 : Int32) (S : MS), mm_keepsOut_24  x1 x2 x3 S = some (r0, T) → mGo p l e rmX9_keepsOut s m args below meth c 4 D cs ad (mQI below D cs ad args s r0 T) 24 [(0, .ref (ad 100)), (1, .int x1), (2, .int x2), (3, .int x3)] [] S := by
    intro x1 x2 x3 S h H locs ls hl w
    unfold mm_keepsOut_24 at h
    refine lv_aload_n hx hb dX9_keepsOut_24 rfl (lv_at hl 0 rfl) ?_
    refine lv_iload_n hx hb dX9_keepsOut_25 rfl (lv_at hl 1 rfl) ?_
    refine lv_iload_n hx hb dX9_keepsOut_26 rfl (lv_at hl 2 rfl) ?_
    refine lv_iload_n hx hb dX9_keepsOut_27 rfl (lv_at hl 3 rfl) ?_
    obtain ⟨r_202, S_201, hc_203, h⟩ := bd_e h
    refine mw_calli (As := [.int x1, .int x2, .int x3]) (rest := []) cx (cc_lacks l D cs ad S S_201 x1 x2 x3 r_202 hc_203) (cwV 3 hts (uG uw_X9_lacks ul_RX9_202 ui_X9_lacks us_RX9_X9_lacks un_RX9) rfl rfl rfl ud_X9_lacks ⟨Nat.le_of_ble_eq_true rfl, Nat.le_of_ble_eq_true rfl⟩) w rfl hl.1 rfl (Nat.le_of_ble_eq_true rfl) dX9_keepsOut_28 (fun H locs w => ?_)
    refine lv_if_eq (tgt := 36) hx hb dX9_keepsOut_31 (by decide) (fun q => ?_) (fun q => ?_)
    · have h := br_p q h
      refine lv_aload_n hx hb dX9_keepsOut_36 rfl (lv_at hl 0 rfl) ?_
      refine lv_aload_n hx hb dX9_keepsOut_37 rfl (lv_at hl 0 rfl) ?_
      refine mw_getI cx hin w 25 (by decide) (List.mem_cons_of_mem _ uf_RX9_86) dX9_keepsOut_38 ?_
      refine lv_iload_n hx hb dX9_keepsOut_41 rfl (lv_at hl 1 rfl) ?_
      obtain ⟨r_205, S_204, hc_206, h⟩ := bd_e h
      refine mw_calli (As := [.int (S_201.1 25), .int x1]) (rest := []) cx (cc_has l D cs ad S_201 S_204 (S_201.1 25) x1 r_205 hc_206) (cwV 2 hts (uG uw_X9_has ul_RX9_189 ui_X9_has us_RX9_X9_has un_RX9) rfl rfl rfl ud_X9_has ⟨Nat.le_of_ble_eq_true rfl, Nat.le_of_ble_eq_true rfl⟩) w rfl hl.1 rfl (Nat.le_of_ble_eq_true rfl) dX9_keepsOut_42 (fun H locs w => ?_)
      refine lv_if_ne (tgt := 63) hx hb dX9_keepsOut_45 (by decide) (fun q => ?_) (fun q => ?_)
      · have h := br_n q h
        exact J63   S_204 h _ _ _ (lv_sub hl [] rfl) w
      · have h := br_p q h
        refine lv_aload_n hx hb dX9_keepsOut_48 rfl (lv_at hl 0 rfl) ?_
        refine lv_iload_n hx hb dX9_keepsOut_49 rfl (lv_at hl 1 rfl) ?_
        refine lv_iconst (v := (3 : Int32)) hx hb dX9_keepsOut_50 (by decide) ?_
        refine lv_iload_n hx hb dX9_keepsOut_51 rfl (lv_at hl 2 rfl) ?_
        refine lv_iload_n hx hb dX9_keepsOut_52 rfl (lv_at hl 3 rfl) ?_
        obtain ⟨r_208, S_207, hc_209, h⟩ := bd_e h
        refine mw_calli (As := [.int x1, .int (3 : Int32), .int x2, .int x3]) (rest := []) cx (cc_firstOf l D cs ad S_204 S_207 x1 (3 : Int32) x2 x3 r_208 hc_209) (cwV 4 hts (uG uw_X9_firstOf ul_RX9_198 ui_X9_firstOf us_RX9_X9_firstOf un_RX9) rfl rfl rfl ud_X9_firstOf ⟨Nat.le_of_ble_eq_true rfl, Nat.le_of_ble_eq_true rfl⟩) w rfl hl.1 rfl (Nat.le_of_ble_eq_true rfl) dX9_keepsOut_53 (fun H locs w => ?_)
        refine lv_if_lt (tgt := 63) hx hb dX9_keepsOut_56 (by decide) (fun q => ?_) (fun q => ?_)
        · have h := br_p q h
          exact J63   S_207 h _ _ _ (lv_sub hl [] rfl) w
        · have h := br_n q h
          refine lv_iconst (v := (1 : Int32)) hx hb dX9_keepsOut_59 (by decide) ?_
          refine lv_goto (tgt := 64) hx hb dX9_keepsOut_60 (by decide) ?_
          exact mw_zret cx (Or.inr rfl) (rt_e h) w dX9_keepsOut_64
    · have h := br_n q h
      refine lv_iconst (v := (1 : Int32)) hx hb dX9_keepsOut_34 (by decide) ?_
      exact mw_zret cx (Or.inr rfl) (rt_e h) w dX9_keepsOut_35
  unfold mm_keepsOut at h
  refine lv_aload_n hx hb dX9_keepsOut_0 rfl (lv_at hl 0 rfl) ?_
  refine lv_iload_n hx hb dX9_keepsOut_1 rfl (lv_at hl 1 rfl) ?_
  refine lv_iconst (v := (0 : Int32)) hx hb dX9_keepsOut_2 (by decide) ?_
  refine lv_iload_n hx hb dX9_keepsOut_3 rfl (lv_at hl 2 rfl) ?_
  refine lv_iload_n hx hb dX9_keepsOut_4 rfl (lv_at hl 3 rfl) ?_
  obtain ⟨r_311, S_310, hc_312, h⟩ := bd_e h
  refine mw_calli (As := [.int a1, .int (0 : Int32), .int a2, .int a3]) (rest := []) cx (cc_firstOf l D cs ad S S_310 a1 (0 : Int32) a2 a3 r_311 hc_312) (cwV 4 hts (uG uw_X9_firstOf ul_RX9_198 ui_X9_firstOf us_RX9_X9_firstOf un_RX9) rfl rfl rfl ud_X9_firstOf ⟨Nat.le_of_ble_eq_true rfl, Nat.le_of_ble_eq_true rfl⟩) w rfl hl.1 rfl (Nat.le_of_ble_eq_true rfl) dX9_keepsOut_5 (fun H locs w => ?_)
  refine lv_if_lt (tgt := 24) hx hb dX9_keepsOut_8 (by decide) (fun q => ?_) (fun q => ?_)
  · have h := br_p q h
    exact J24  a1 a2 a3 S_310 h _ _ _ (lv_sub hl [0, 1, 2, 3] rfl) w
  · have h := br_n q h
    refine lv_aload_n hx hb dX9_keepsOut_11 rfl (lv_at hl 0 rfl) ?_
    refine lv_iload_n hx hb dX9_keepsOut_12 rfl (lv_at hl 1 rfl) ?_
    refine lv_iconst (v := (1 : Int32)) hx hb dX9_keepsOut_13 (by decide) ?_
    refine lv_iload_n hx hb dX9_keepsOut_14 rfl (lv_at hl 2 rfl) ?_
    refine lv_iload_n hx hb dX9_keepsOut_15 rfl (lv_at hl 3 rfl) ?_
    obtain ⟨r_314, S_313, hc_315, h⟩ := bd_e h
    refine mw_calli (As := [.int a1, .int (1 : Int32), .int a2, .int a3]) (rest := []) cx (cc_firstOf l D cs ad S_310 S_313 a1 (1 : Int32) a2 a3 r_314 hc_315) (cwV 4 hts (uG uw_X9_firstOf ul_RX9_198 ui_X9_firstOf us_RX9_X9_firstOf un_RX9) rfl rfl rfl ud_X9_firstOf ⟨Nat.le_of_ble_eq_true rfl, Nat.le_of_ble_eq_true rfl⟩) w rfl hl.1 rfl (Nat.le_of_ble_eq_true rfl) dX9_keepsOut_16 (fun H locs w => ?_)
    refine lv_if_ge (tgt := 24) hx hb dX9_keepsOut_19 (by decide) (fun q => ?_) (fun q => ?_)
    · have h := br_p q h
      exact J24  a1 a2 a3 S_313 h _ _ _ (lv_sub hl [0, 1, 2, 3] rfl) w
    · have h := br_n q h
      refine lv_iconst (v := (1 : Int32)) hx hb dX9_keepsOut_22 (by decide) ?_
      exact mw_zret cx (Or.inr rfl) (rt_e h) w dX9_keepsOut_23
def mm_wayOf (S : MS) (a1 : Int32) (a2 : Int32) (a3 : Int32) : Option (Int32 × MS) := bd (mm_firstOf S a1 (0 : Int32) a2 a3) (fun r_102 S_101 => if (0 : Int32) ≤ r_102 then (bd (mm_firstOf S_101 a1 (1 : Int32) a2 a3) (fun r_105 S_104 => some (r_105, S_104))) else (some ((-1 : Int32), S_101)))
abbrev wu_X9_wayOf : List Cond := .code yX9_wayOf cX9_wayOf 4 (some .int) :: wsL_law
theorem ud_X9_wayOf : yX9_wayOf.cls = RX9 ∧ yX9_wayOf.cls ≠ "java/lang/invoke/MethodHandle" ∧ yX9_wayOf.cls ≠ "java/lang/invoke/VarHandle" ∧ (parseMethodDescriptor yX9_wayOf.desc).map (fun d => d.parameters.length) = some 3 := by decide +kernel
abbrev rmX9_wayOf : Room := { frames := 4, cells := 0, slots := 0, locals := 99 }
set_option maxHeartbeats 4000000 in
set_option maxRecDepth 100000 in
theorem cc_wayOf (l : Launch) (D : va_G) (cs : Nat → ClassId) (ad : Nat → Nat) (S T : MS) (a1 : Int32) (a2 : Int32) (a3 : Int32) (r0 : Int32) (h : mm_wayOf S a1 a2 a3 = some (r0, T)) : MetI l yX9_wayOf wu_X9_wayOf rmX9_wayOf D cs ad [.int a1, .int a2, .int a3] S T r0 := by
  refine mo_I (ty := .int) (cc := cX9_wayOf) (maxL := 4) ⟨by decide, rfl⟩ rfl (Nat.le_of_ble_eq_true rfl) ?_
  intro p e s m args below meth c ls cx hl w
  have hx := cx.1
  have hb := cx.2.1
  have hts := cx.2.2.2.1
  have hown := cx.2.2.2.2.1
  have hl : lv_has ls 4 [(0, .ref (ad 100)), (1, .int a1), (2, .int a2), (3, .int a3)] := hl
  unfold mm_wayOf at h
  refine lv_aload_n hx hb dX9_wayOf_0 rfl (lv_at hl 0 rfl) ?_
  refine lv_iload_n hx hb dX9_wayOf_1 rfl (lv_at hl 1 rfl) ?_
  refine lv_iconst (v := (0 : Int32)) hx hb dX9_wayOf_2 (by decide) ?_
  refine lv_iload_n hx hb dX9_wayOf_3 rfl (lv_at hl 2 rfl) ?_
  refine lv_iload_n hx hb dX9_wayOf_4 rfl (lv_at hl 3 rfl) ?_
  obtain ⟨r_102, S_101, hc_103, h⟩ := bd_e h
  refine mw_calli (As := [.int a1, .int (0 : Int32), .int a2, .int a3]) (rest := []) cx (cc_firstOf l D cs ad S S_101 a1 (0 : Int32) a2 a3 r_102 hc_103) (cwV 4 hts (uG uw_X9_firstOf ul_RX9_198 ui_X9_firstOf us_RX9_X9_firstOf un_RX9) rfl rfl rfl ud_X9_firstOf ⟨Nat.le_of_ble_eq_true rfl, Nat.le_of_ble_eq_true rfl⟩) w rfl hl.1 rfl (Nat.le_of_ble_eq_true rfl) dX9_wayOf_5 (fun H locs w => ?_)
  refine lv_if_ge (tgt := 15) hx hb dX9_wayOf_8 (by decide) (fun q => ?_) (fun q => ?_)
  · have h := br_p q h
    refine lv_aload_n hx hb dX9_wayOf_15 rfl (lv_at hl 0 rfl) ?_
    refine lv_iload_n hx hb dX9_wayOf_16 rfl (lv_at hl 1 rfl) ?_
    refine lv_iconst (v := (1 : Int32)) hx hb dX9_wayOf_17 (by decide) ?_
    refine lv_iload_n hx hb dX9_wayOf_18 rfl (lv_at hl 2 rfl) ?_
    refine lv_iload_n hx hb dX9_wayOf_19 rfl (lv_at hl 3 rfl) ?_
    obtain ⟨r_105, S_104, hc_106, h⟩ := bd_e h
    refine mw_calli (As := [.int a1, .int (1 : Int32), .int a2, .int a3]) (rest := []) cx (cc_firstOf l D cs ad S_101 S_104 a1 (1 : Int32) a2 a3 r_105 hc_106) (cwV 4 hts (uG uw_X9_firstOf ul_RX9_198 ui_X9_firstOf us_RX9_X9_firstOf un_RX9) rfl rfl rfl ud_X9_firstOf ⟨Nat.le_of_ble_eq_true rfl, Nat.le_of_ble_eq_true rfl⟩) w rfl hl.1 rfl (Nat.le_of_ble_eq_true rfl) dX9_wayOf_20 (fun H locs w => ?_)
    exact mw_iret cx (rt_e h) w dX9_wayOf_23
  · have h := br_n q h
    refine lv_iconst (v := (-1 : Int32)) hx hb dX9_wayOf_11 (by decide) ?_
    refine lv_goto (tgt := 23) hx hb dX9_wayOf_12 (by decide) ?_
    exact mw_iret cx (rt_e h) w dX9_wayOf_23
def mm_meetsIt_3 (k3 : Int32 → Int32 → Int32 → Int32 → MS → Option (Int32 × MS)) (x1 : Int32) (x2 : Int32) (x3 : Int32) (x4 : Int32) (S : MS) : Option (Int32 × MS) := ck (vin x1 10) (if (S.2.1 14 (x1).toNatClampNeg) ≤ x4 then (some ((0 : Int32), S)) else (bd (mm_holds S (((6 : Int32) * x1) + x4) x2 x3) (fun r_103 S_102 => if r_103 = (0 : Int32) then (lt_ (x4 + (1 : Int32)) (fun x4_105 => k3 x1 x2 x3 x4_105 S_102)) else (some ((1 : Int32), S_102)))))
def mm_meetsIt_3L : Nat → Int32 → Int32 → Int32 → Int32 → MS → Option (Int32 × MS)
  | 0, _, _, _, _, _ => none
  | n + 1, x1, x2, x3, x4, S => mm_meetsIt_3  (mm_meetsIt_3L  n) x1 x2 x3 x4 S
def mm_meetsIt (S : MS) (a1 : Int32) (a2 : Int32) (a3 : Int32) : Option (Int32 × MS) := lt_ ((0 : Int32)) (fun x4_206 => mm_meetsIt_3L  4000 a1 a2 a3 x4_206 S)
abbrev wu_X9_meetsIt : List Cond := .code yX9_meetsIt cX9_meetsIt 5 (some .boolean) :: wsL_law
theorem ud_X9_meetsIt : yX9_meetsIt.cls = RX9 ∧ yX9_meetsIt.cls ≠ "java/lang/invoke/MethodHandle" ∧ yX9_meetsIt.cls ≠ "java/lang/invoke/VarHandle" ∧ (parseMethodDescriptor yX9_meetsIt.desc).map (fun d => d.parameters.length) = some 3 := by decide +kernel
abbrev rmX9_meetsIt : Room := { frames := 3, cells := 0, slots := 0, locals := 74 }
set_option maxHeartbeats 4000000 in
set_option maxRecDepth 100000 in
theorem cc_meetsIt (l : Launch) (D : va_G) (cs : Nat → ClassId) (ad : Nat → Nat) (S T : MS) (a1 : Int32) (a2 : Int32) (a3 : Int32) (r0 : Int32) (h : mm_meetsIt S a1 a2 a3 = some (r0, T)) : MetI l yX9_meetsIt wu_X9_meetsIt rmX9_meetsIt D cs ad [.int a1, .int a2, .int a3] S T r0 := by
  refine mo_I (ty := .boolean) (cc := cX9_meetsIt) (maxL := 5) ⟨by decide, rfl⟩ rfl (Nat.le_of_ble_eq_true rfl) ?_
  intro p e s m args below meth c ls cx hl w
  have hx := cx.1
  have hb := cx.2.1
  have hts := cx.2.2.2.1
  have hown := cx.2.2.2.2.1
  have hin : ∀ w ∈ wsX90, w ∈ wu_X9_meetsIt := fun _ hq => List.mem_cons_of_mem _ (inlX9 _ hq)
  have hl : lv_has ls 5 [(0, .ref (ad 100)), (1, .int a1), (2, .int a2), (3, .int a3)] := hl
  have L3 : ∀ (n : Nat) (x1 : Int32) (x2 : Int32) (x3 : Int32) (x4 : Int32) (S : MS), mm_meetsIt_3L  n x1 x2 x3 x4 S = some (r0, T) → mGo p l e rmX9_meetsIt s m args below meth c 5 D cs ad (mQI below D cs ad args s r0 T) 3 [(0, .ref (ad 100)), (1, .int x1), (2, .int x2), (3, .int x3), (4, .int x4)] [] S := by
    intro n
    induction n with
    | zero =>
      intro x1 x2 x3 x4 S h
      have h : none = some (r0, T) := h
      cases h
    | succ n hk3 =>
      intro x1 x2 x3 x4 S h H locs ls hl w
      have h : mm_meetsIt_3  (mm_meetsIt_3L  n) x1 x2 x3 x4 S = some (r0, T) := h
      generalize mm_meetsIt_3L  n = k3 at h hk3
      unfold mm_meetsIt_3 at h
      refine lv_iload hx hb dX9_meetsIt_3 (lv_at hl 4 rfl) ?_
      refine lv_aload_n hx hb dX9_meetsIt_5 rfl (lv_at hl 0 rfl) ?_
      refine mw_getR cx hin w 14 (by decide) (List.mem_cons_of_mem _ uf_RX9_53) dX9_meetsIt_6 ?_
      refine lv_iload_n hx hb dX9_meetsIt_9 rfl (lv_at hl 1 rfl) ?_
      obtain ⟨hq_101, h⟩ := ck_e h
      refine mw_iald cx w 8 14 10 (by decide) hq_101 dX9_meetsIt_10 ?_
      refine lv_icmp_ge (tgt := 38) hx hb dX9_meetsIt_11 (by decide) (fun q => ?_) (fun q => ?_)
      · have h := br_p q h
        refine lv_iconst (v := (0 : Int32)) hx hb dX9_meetsIt_38 (by decide) ?_
        exact mw_zret cx (Or.inl rfl) (rt_e h) w dX9_meetsIt_39
      · have h := br_n q h
        refine lv_aload_n hx hb dX9_meetsIt_14 rfl (lv_at hl 0 rfl) ?_
        refine lv_bipush (v := (6 : Int32)) hx hb dX9_meetsIt_15 (by decide) ?_
        refine lv_iload_n hx hb dX9_meetsIt_17 rfl (lv_at hl 1 rfl) ?_
        refine lv_imul hx hb dX9_meetsIt_18 ?_
        refine lv_iload hx hb dX9_meetsIt_19 (lv_at hl 4 rfl) ?_
        refine lv_iadd hx hb dX9_meetsIt_21 ?_
        refine lv_iload_n hx hb dX9_meetsIt_22 rfl (lv_at hl 2 rfl) ?_
        refine lv_iload_n hx hb dX9_meetsIt_23 rfl (lv_at hl 3 rfl) ?_
        obtain ⟨r_103, S_102, hc_104, h⟩ := bd_e h
        refine mw_calli (As := [.int (((6 : Int32) * x1) + x4), .int x2, .int x3]) (rest := []) cx (cc_holds l D cs ad S S_102 (((6 : Int32) * x1) + x4) x2 x3 r_103 hc_104) (cwV 3 hts (uG uw_X9_holds ul_RX9_195 ui_X9_holds us_RX9_X9_holds un_RX9) rfl rfl rfl ud_X9_holds ⟨Nat.le_of_ble_eq_true rfl, Nat.le_of_ble_eq_true rfl⟩) w rfl hl.1 rfl (Nat.le_of_ble_eq_true rfl) dX9_meetsIt_24 (fun H locs w => ?_)
        refine lv_if_eq (tgt := 32) hx hb dX9_meetsIt_27 (by decide) (fun q => ?_) (fun q => ?_)
        · have h := br_p q h
          obtain ⟨x4_105, ex4_105, h⟩ := lt_e h
          refine lv_iinc (v := x4_105) (lv' := [(4, .int x4_105), (0, .ref (ad 100)), (1, .int x1), (2, .int x2), (3, .int x3)]) hx hb dX9_meetsIt_32 hl (k := 4) rfl (by rw [ex4_105]; rfl) (by decide) rfl (fun ls hl => ?_)
          refine lv_goto (tgt := 3) hx hb dX9_meetsIt_35 (by decide) ?_
          exact hk3 x1 x2 x3 x4_105 S_102 h _ _ _ (lv_sub hl [1, 2, 3, 4, 0] rfl) w
        · have h := br_n q h
          refine lv_iconst (v := (1 : Int32)) hx hb dX9_meetsIt_30 (by decide) ?_
          exact mw_zret cx (Or.inr rfl) (rt_e h) w dX9_meetsIt_31
  unfold mm_meetsIt at h
  refine lv_iconst (v := (0 : Int32)) hx hb dX9_meetsIt_0 (by decide) ?_
  obtain ⟨x4_206, ex4_206, h⟩ := lt_e h
  refine top_i ex4_206 ?_
  refine lv_istore (lv' := [(4, .int x4_206), (0, .ref (ad 100)), (1, .int a1), (2, .int a2), (3, .int a3)]) hx hb dX9_meetsIt_1 hl (by decide) rfl (fun ls hl => ?_)
  exact L3  4000 a1 a2 a3 x4_206 S h _ _ _ (lv_sub hl [1, 2, 3, 4, 0] rfl) w
def mm_meets_35  (S : MS) : Option (Int32 × MS) := some ((-1 : Int32), S)
def mm_meets (S : MS) (a1 : Int32) (a2 : Int32) (a3 : Int32) (a4 : Int32) : Option (Int32 × MS) := bd (mm_isRule S a1) (fun r_202 S_201 => if r_202 = (0 : Int32) then (mm_meets_35   S_201) else (bd (mm_isWord S_201 a2) (fun r_205 S_204 => if r_205 = (0 : Int32) then (mm_meets_35   S_204) else (bd (mm_isEnd S_204 a3) (fun r_208 S_207 => if r_208 = (0 : Int32) then (mm_meets_35   S_207) else (bd (mm_in S_207 a4 (0 : Int32) (2 : Int32)) (fun r_211 S_210 => if r_211 = (0 : Int32) then (mm_meets_35   S_210) else (bd (mm_asItIs S_210 ) (fun _ S_213 => if a4 = (0 : Int32) then (bd (mm_meetsIt S_213 a1 a2 a3) (fun r_226 S_225 => if r_226 = (0 : Int32) then (some ((0 : Int32), S_225)) else (some ((1 : Int32), S_225)))) else (if a4 = (1 : Int32) then (bd (mm_keepsOut S_213 a1 a2 a3) (fun r_223 S_222 => if r_223 = (0 : Int32) then (some ((0 : Int32), S_222)) else (some ((1 : Int32), S_222)))) else (bd (mm_wayOf S_213 a1 a2 a3) (fun r_217 S_216 => if (0 : Int32) ≤ r_217 then (bd (mm_wayOf S_216 a1 a2 a3) (fun r_220 S_219 => some (r_220, S_219))) else (some ((-5 : Int32), S_216))))))))))))))
abbrev wu_X9_meets : List Cond := .code yX9_meets cX9_meets 5 (some .int) :: wsL_law
theorem ud_X9_meets : yX9_meets.cls = RX9 ∧ yX9_meets.cls ≠ "java/lang/invoke/MethodHandle" ∧ yX9_meets.cls ≠ "java/lang/invoke/VarHandle" ∧ (parseMethodDescriptor yX9_meets.desc).map (fun d => d.parameters.length) = some 4 := by decide +kernel
abbrev rmX9_meets : Room := { frames := 5, cells := 0, slots := 0, locals := 122 }
set_option maxHeartbeats 4000000 in
set_option maxRecDepth 100000 in
theorem cc_meets (l : Launch) (D : va_G) (cs : Nat → ClassId) (ad : Nat → Nat) (S T : MS) (a1 : Int32) (a2 : Int32) (a3 : Int32) (a4 : Int32) (r0 : Int32) (h : mm_meets S a1 a2 a3 a4 = some (r0, T)) : MetI l yX9_meets wu_X9_meets rmX9_meets D cs ad [.int a1, .int a2, .int a3, .int a4] S T r0 := by
  refine mo_I (ty := .int) (cc := cX9_meets) (maxL := 5) ⟨by decide, rfl⟩ rfl (Nat.le_of_ble_eq_true rfl) ?_
  intro p e s m args below meth c ls cx hl w
  have hx := cx.1
  have hb := cx.2.1
  have hts := cx.2.2.2.1
  have hown := cx.2.2.2.2.1
  have hl : lv_has ls 5 [(0, .ref (ad 100)), (1, .int a1), (2, .int a2), (3, .int a3), (4, .int a4)] := hl
  have J35 : ∀  (S : MS), mm_meets_35   S = some (r0, T) → mGo p l e rmX9_meets s m args below meth c 5 D cs ad (mQI below D cs ad args s r0 T) 35 [] [] S := by
    intro  S h H locs ls hl w
    unfold mm_meets_35 at h
    refine lv_iconst (v := (-1 : Int32)) hx hb dX9_meets_35 (by decide) ?_
    exact mw_iret cx (rt_e h) w dX9_meets_36
  unfold mm_meets at h
  refine lv_aload_n hx hb dX9_meets_0 rfl (lv_at hl 0 rfl) ?_
  refine lv_iload_n hx hb dX9_meets_1 rfl (lv_at hl 1 rfl) ?_
  obtain ⟨r_202, S_201, hc_203, h⟩ := bd_e h
  refine mw_calli (As := [.int a1]) (rest := []) cx (cc_isRule l D cs ad S S_201 a1 r_202 hc_203) (cwV 1 hts (uG uw_X9_isRule ul_RX9_205 ui_X9_isRule us_RX9_X9_isRule un_RX9) rfl rfl rfl ud_X9_isRule ⟨Nat.le_of_ble_eq_true rfl, Nat.le_of_ble_eq_true rfl⟩) w rfl hl.1 rfl (Nat.le_of_ble_eq_true rfl) dX9_meets_2 (fun H locs w => ?_)
  refine lv_if_eq (tgt := 35) hx hb dX9_meets_5 (by decide) (fun q => ?_) (fun q => ?_)
  · have h := br_p q h
    exact J35   S_201 h _ _ _ (lv_sub hl [] rfl) w
  · have h := br_n q h
    refine lv_aload_n hx hb dX9_meets_8 rfl (lv_at hl 0 rfl) ?_
    refine lv_iload_n hx hb dX9_meets_9 rfl (lv_at hl 2 rfl) ?_
    obtain ⟨r_205, S_204, hc_206, h⟩ := bd_e h
    refine mw_calli (As := [.int a2]) (rest := []) cx (cc_isWord l D cs ad S_201 S_204 a2 r_205 hc_206) (cwV 1 hts (uG uw_X9_isWord ul_RX9_137 ui_X9_isWord us_RX9_X9_isWord un_RX9) rfl rfl rfl ud_X9_isWord ⟨Nat.le_of_ble_eq_true rfl, Nat.le_of_ble_eq_true rfl⟩) w rfl hl.1 rfl (Nat.le_of_ble_eq_true rfl) dX9_meets_10 (fun H locs w => ?_)
    refine lv_if_eq (tgt := 35) hx hb dX9_meets_13 (by decide) (fun q => ?_) (fun q => ?_)
    · have h := br_p q h
      exact J35   S_204 h _ _ _ (lv_sub hl [] rfl) w
    · have h := br_n q h
      refine lv_aload_n hx hb dX9_meets_16 rfl (lv_at hl 0 rfl) ?_
      refine lv_iload_n hx hb dX9_meets_17 rfl (lv_at hl 3 rfl) ?_
      obtain ⟨r_208, S_207, hc_209, h⟩ := bd_e h
      refine mw_calli (As := [.int a3]) (rest := []) cx (cc_isEnd l D cs ad S_204 S_207 a3 r_208 hc_209) (cwV 1 hts (uG uw_X9_isEnd ul_RX9_208 ui_X9_isEnd us_RX9_X9_isEnd un_RX9) rfl rfl rfl ud_X9_isEnd ⟨Nat.le_of_ble_eq_true rfl, Nat.le_of_ble_eq_true rfl⟩) w rfl hl.1 rfl (Nat.le_of_ble_eq_true rfl) dX9_meets_18 (fun H locs w => ?_)
      refine lv_if_eq (tgt := 35) hx hb dX9_meets_21 (by decide) (fun q => ?_) (fun q => ?_)
      · have h := br_p q h
        exact J35   S_207 h _ _ _ (lv_sub hl [] rfl) w
      · have h := br_n q h
        refine lv_aload_n hx hb dX9_meets_24 rfl (lv_at hl 0 rfl) ?_
        refine lv_iload hx hb dX9_meets_25 (lv_at hl 4 rfl) ?_
        refine lv_iconst (v := (0 : Int32)) hx hb dX9_meets_27 (by decide) ?_
        refine lv_iconst (v := (2 : Int32)) hx hb dX9_meets_28 (by decide) ?_
        obtain ⟨r_211, S_210, hc_212, h⟩ := bd_e h
        refine mw_calli (As := [.int a4, .int (0 : Int32), .int (2 : Int32)]) (rest := []) cx (cc_in l D cs ad S_207 S_210 a4 (0 : Int32) (2 : Int32) r_211 hc_212) (cwV 3 hts (uG uw_X9_in ul_RX9_133 ui_X9_in us_RX9_X9_in un_RX9) rfl rfl rfl ud_X9_in ⟨Nat.le_of_ble_eq_true rfl, Nat.le_of_ble_eq_true rfl⟩) w rfl hl.1 rfl (Nat.le_of_ble_eq_true rfl) dX9_meets_29 (fun H locs w => ?_)
        refine lv_if_ne (tgt := 37) hx hb dX9_meets_32 (by decide) (fun q => ?_) (fun q => ?_)
        · have h := br_n q h
          refine lv_aload_n hx hb dX9_meets_37 rfl (lv_at hl 0 rfl) ?_
          obtain ⟨r_214, S_213, hc_215, h⟩ := bd_e h
          refine mw_callv (As := []) (rest := []) cx (cc_asItIs l D cs ad S_210 S_213  r_214 hc_215) (cwV 0 hts (uG uw_X9_asItIs ul_RX9_211 ui_X9_asItIs us_RX9_X9_asItIs un_RX9) rfl rfl rfl ud_X9_asItIs ⟨Nat.le_of_ble_eq_true rfl, Nat.le_of_ble_eq_true rfl⟩) w rfl hl.1 rfl (Nat.le_of_ble_eq_true rfl) dX9_meets_38 (fun H locs w => ?_)
          refine lv_iload hx hb dX9_meets_41 (lv_at hl 4 rfl) ?_
          refine lv_if_ne (tgt := 62) hx hb dX9_meets_43 (by decide) (fun q => ?_) (fun q => ?_)
          · have h := br_n q h
            refine lv_iload hx hb dX9_meets_62 (lv_at hl 4 rfl) ?_
            refine lv_iconst (v := (1 : Int32)) hx hb dX9_meets_64 (by decide) ?_
            refine lv_icmp_ne (tgt := 84) hx hb dX9_meets_65 (by decide) (fun q => ?_) (fun q => ?_)
            · have h := br_n q h
              refine lv_aload_n hx hb dX9_meets_84 rfl (lv_at hl 0 rfl) ?_
              refine lv_iload_n hx hb dX9_meets_85 rfl (lv_at hl 1 rfl) ?_
              refine lv_iload_n hx hb dX9_meets_86 rfl (lv_at hl 2 rfl) ?_
              refine lv_iload_n hx hb dX9_meets_87 rfl (lv_at hl 3 rfl) ?_
              obtain ⟨r_217, S_216, hc_218, h⟩ := bd_e h
              refine mw_calli (As := [.int a1, .int a2, .int a3]) (rest := []) cx (cc_wayOf l D cs ad S_213 S_216 a1 a2 a3 r_217 hc_218) (cwV 3 hts (uG uw_X9_wayOf ul_RX9_220 ui_X9_wayOf us_RX9_X9_wayOf un_RX9) rfl rfl rfl ud_X9_wayOf ⟨Nat.le_of_ble_eq_true rfl, Nat.le_of_ble_eq_true rfl⟩) w rfl hl.1 rfl (Nat.le_of_ble_eq_true rfl) dX9_meets_88 (fun H locs w => ?_)
              refine lv_if_ge (tgt := 99) hx hb dX9_meets_91 (by decide) (fun q => ?_) (fun q => ?_)
              · have h := br_p q h
                refine lv_aload_n hx hb dX9_meets_99 rfl (lv_at hl 0 rfl) ?_
                refine lv_iload_n hx hb dX9_meets_100 rfl (lv_at hl 1 rfl) ?_
                refine lv_iload_n hx hb dX9_meets_101 rfl (lv_at hl 2 rfl) ?_
                refine lv_iload_n hx hb dX9_meets_102 rfl (lv_at hl 3 rfl) ?_
                obtain ⟨r_220, S_219, hc_221, h⟩ := bd_e h
                refine mw_calli (As := [.int a1, .int a2, .int a3]) (rest := []) cx (cc_wayOf l D cs ad S_216 S_219 a1 a2 a3 r_220 hc_221) (cwV 3 hts (uG uw_X9_wayOf ul_RX9_220 ui_X9_wayOf us_RX9_X9_wayOf un_RX9) rfl rfl rfl ud_X9_wayOf ⟨Nat.le_of_ble_eq_true rfl, Nat.le_of_ble_eq_true rfl⟩) w rfl hl.1 rfl (Nat.le_of_ble_eq_true rfl) dX9_meets_103 (fun H locs w => ?_)
                exact mw_iret cx (rt_e h) w dX9_meets_106
              · have h := br_n q h
                refine lv_bipush (v := (-5 : Int32)) hx hb dX9_meets_94 (by decide) ?_
                refine lv_goto (tgt := 106) hx hb dX9_meets_96 (by decide) ?_
                exact mw_iret cx (rt_e h) w dX9_meets_106
            · have h := br_p q h
              refine lv_aload_n hx hb dX9_meets_68 rfl (lv_at hl 0 rfl) ?_
              refine lv_iload_n hx hb dX9_meets_69 rfl (lv_at hl 1 rfl) ?_
              refine lv_iload_n hx hb dX9_meets_70 rfl (lv_at hl 2 rfl) ?_
              refine lv_iload_n hx hb dX9_meets_71 rfl (lv_at hl 3 rfl) ?_
              obtain ⟨r_223, S_222, hc_224, h⟩ := bd_e h
              refine mw_calli (As := [.int a1, .int a2, .int a3]) (rest := []) cx (cc_keepsOut l D cs ad S_213 S_222 a1 a2 a3 r_223 hc_224) (cwV 3 hts (uG uw_X9_keepsOut ul_RX9_217 ui_X9_keepsOut us_RX9_X9_keepsOut un_RX9) rfl rfl rfl ud_X9_keepsOut ⟨Nat.le_of_ble_eq_true rfl, Nat.le_of_ble_eq_true rfl⟩) w rfl hl.1 rfl (Nat.le_of_ble_eq_true rfl) dX9_meets_72 (fun H locs w => ?_)
              refine lv_if_eq (tgt := 82) hx hb dX9_meets_75 (by decide) (fun q => ?_) (fun q => ?_)
              · have h := br_p q h
                refine lv_iconst (v := (0 : Int32)) hx hb dX9_meets_82 (by decide) ?_
                exact mw_iret cx (rt_e h) w dX9_meets_83
              · have h := br_n q h
                refine lv_iconst (v := (1 : Int32)) hx hb dX9_meets_78 (by decide) ?_
                refine lv_goto (tgt := 83) hx hb dX9_meets_79 (by decide) ?_
                exact mw_iret cx (rt_e h) w dX9_meets_83
          · have h := br_p q h
            refine lv_aload_n hx hb dX9_meets_46 rfl (lv_at hl 0 rfl) ?_
            refine lv_iload_n hx hb dX9_meets_47 rfl (lv_at hl 1 rfl) ?_
            refine lv_iload_n hx hb dX9_meets_48 rfl (lv_at hl 2 rfl) ?_
            refine lv_iload_n hx hb dX9_meets_49 rfl (lv_at hl 3 rfl) ?_
            obtain ⟨r_226, S_225, hc_227, h⟩ := bd_e h
            refine mw_calli (As := [.int a1, .int a2, .int a3]) (rest := []) cx (cc_meetsIt l D cs ad S_213 S_225 a1 a2 a3 r_226 hc_227) (cwV 3 hts (uG uw_X9_meetsIt ul_RX9_214 ui_X9_meetsIt us_RX9_X9_meetsIt un_RX9) rfl rfl rfl ud_X9_meetsIt ⟨Nat.le_of_ble_eq_true rfl, Nat.le_of_ble_eq_true rfl⟩) w rfl hl.1 rfl (Nat.le_of_ble_eq_true rfl) dX9_meets_50 (fun H locs w => ?_)
            refine lv_if_eq (tgt := 60) hx hb dX9_meets_53 (by decide) (fun q => ?_) (fun q => ?_)
            · have h := br_p q h
              refine lv_iconst (v := (0 : Int32)) hx hb dX9_meets_60 (by decide) ?_
              exact mw_iret cx (rt_e h) w dX9_meets_61
            · have h := br_n q h
              refine lv_iconst (v := (1 : Int32)) hx hb dX9_meets_56 (by decide) ?_
              refine lv_goto (tgt := 61) hx hb dX9_meets_57 (by decide) ?_
              exact mw_iret cx (rt_e h) w dX9_meets_61
        · have h := br_p q h
          exact J35   S_210 h _ _ _ (lv_sub hl [] rfl) w
def mm_keeper_37 (k3 : Int32 → Int32 → Int32 → Int32 → MS → Option (Int32 × MS)) (x1 : Int32) (x2 : Int32) (x3 : Int32) (x4 : Int32) (S : MS) : Option (Int32 × MS) := lt_ (x4 + (1 : Int32)) (fun x4_101 => k3 x1 x2 x3 x4_101 S)
def mm_keeper_3 (k3 : Int32 → Int32 → Int32 → Int32 → MS → Option (Int32 × MS)) (x1 : Int32) (x2 : Int32) (x3 : Int32) (x4 : Int32) (S : MS) : Option (Int32 × MS) := if (S.1 9) ≤ x4 then (some ((-1 : Int32), S)) else (ck (vin x4 10) (if (S.2.1 13 (x4).toNatClampNeg) = x3 then (bd (mm_keepsOut S x4 x1 x2) (fun r_204 S_203 => if r_204 = (0 : Int32) then (mm_keeper_37 k3 x1 x2 x3 x4 S_203) else (some (x4, S_203)))) else (mm_keeper_37 k3 x1 x2 x3 x4 S)))
def mm_keeper_3L : Nat → Int32 → Int32 → Int32 → Int32 → MS → Option (Int32 × MS)
  | 0, _, _, _, _, _ => none
  | n + 1, x1, x2, x3, x4, S => mm_keeper_3  (mm_keeper_3L  n) x1 x2 x3 x4 S
def mm_keeper (S : MS) (a1 : Int32) (a2 : Int32) (a3 : Int32) : Option (Int32 × MS) := lt_ ((0 : Int32)) (fun x4_306 => mm_keeper_3L  4000 a1 a2 a3 x4_306 S)
abbrev wu_X9_keeper : List Cond := .code yX9_keeper cX9_keeper 5 (some .int) :: wsL_law
theorem ud_X9_keeper : yX9_keeper.cls = RX9 ∧ yX9_keeper.cls ≠ "java/lang/invoke/MethodHandle" ∧ yX9_keeper.cls ≠ "java/lang/invoke/VarHandle" ∧ (parseMethodDescriptor yX9_keeper.desc).map (fun d => d.parameters.length) = some 3 := by decide +kernel
abbrev rmX9_keeper : Room := { frames := 5, cells := 0, slots := 0, locals := 122 }
set_option maxHeartbeats 4000000 in
set_option maxRecDepth 100000 in
theorem cc_keeper (l : Launch) (D : va_G) (cs : Nat → ClassId) (ad : Nat → Nat) (S T : MS) (a1 : Int32) (a2 : Int32) (a3 : Int32) (r0 : Int32) (h : mm_keeper S a1 a2 a3 = some (r0, T)) : MetI l yX9_keeper wu_X9_keeper rmX9_keeper D cs ad [.int a1, .int a2, .int a3] S T r0 := by
  refine mo_I (ty := .int) (cc := cX9_keeper) (maxL := 5) ⟨by decide, rfl⟩ rfl (Nat.le_of_ble_eq_true rfl) ?_
  intro p e s m args below meth c ls cx hl w
  have hx := cx.1
  have hb := cx.2.1
  have hts := cx.2.2.2.1
  have hown := cx.2.2.2.2.1
  have hin : ∀ w ∈ wsX90, w ∈ wu_X9_keeper := fun _ hq => List.mem_cons_of_mem _ (inlX9 _ hq)
  have hl : lv_has ls 5 [(0, .ref (ad 100)), (1, .int a1), (2, .int a2), (3, .int a3)] := hl
  have J37 : ∀ (k3 : Int32 → Int32 → Int32 → Int32 → MS → Option (Int32 × MS)) (hk3 : ∀ (x1 : Int32) (x2 : Int32) (x3 : Int32) (x4 : Int32) (S : MS), k3 x1 x2 x3 x4 S = some (r0, T) → mGo p l e rmX9_keeper s m args below meth c 5 D cs ad (mQI below D cs ad args s r0 T) 3 [(0, .ref (ad 100)), (1, .int x1), (2, .int x2), (3, .int x3), (4, .int x4)] [] S) (x1 : Int32) (x2 : Int32) (x3 : Int32) (x4 : Int32) (S : MS), mm_keeper_37 k3 x1 x2 x3 x4 S = some (r0, T) → mGo p l e rmX9_keeper s m args below meth c 5 D cs ad (mQI below D cs ad args s r0 T) 37 [(0, .ref (ad 100)), (1, .int x1), (2, .int x2), (3, .int x3), (4, .int x4)] [] S := by
    intro k3 hk3 x1 x2 x3 x4 S h H locs ls hl w
    unfold mm_keeper_37 at h
    obtain ⟨x4_101, ex4_101, h⟩ := lt_e h
    refine lv_iinc (v := x4_101) (lv' := [(4, .int x4_101), (0, .ref (ad 100)), (1, .int x1), (2, .int x2), (3, .int x3)]) hx hb dX9_keeper_37 hl (k := 4) rfl (by rw [ex4_101]; rfl) (by decide) rfl (fun ls hl => ?_)
    refine lv_goto (tgt := 3) hx hb dX9_keeper_40 (by decide) ?_
    exact hk3 x1 x2 x3 x4_101 S h _ _ _ (lv_sub hl [1, 2, 3, 4, 0] rfl) w
  have L3 : ∀ (n : Nat) (x1 : Int32) (x2 : Int32) (x3 : Int32) (x4 : Int32) (S : MS), mm_keeper_3L  n x1 x2 x3 x4 S = some (r0, T) → mGo p l e rmX9_keeper s m args below meth c 5 D cs ad (mQI below D cs ad args s r0 T) 3 [(0, .ref (ad 100)), (1, .int x1), (2, .int x2), (3, .int x3), (4, .int x4)] [] S := by
    intro n
    induction n with
    | zero =>
      intro x1 x2 x3 x4 S h
      have h : none = some (r0, T) := h
      cases h
    | succ n hk3 =>
      intro x1 x2 x3 x4 S h H locs ls hl w
      have h : mm_keeper_3  (mm_keeper_3L  n) x1 x2 x3 x4 S = some (r0, T) := h
      generalize mm_keeper_3L  n = k3 at h hk3
      unfold mm_keeper_3 at h
      refine lv_iload hx hb dX9_keeper_3 (lv_at hl 4 rfl) ?_
      refine lv_aload_n hx hb dX9_keeper_5 rfl (lv_at hl 0 rfl) ?_
      refine mw_getI cx hin w 9 (by decide) (List.mem_cons_of_mem _ uf_RX9_38) dX9_keeper_6 ?_
      refine lv_icmp_ge (tgt := 43) hx hb dX9_keeper_9 (by decide) (fun q => ?_) (fun q => ?_)
      · have h := br_p q h
        refine lv_iconst (v := (-1 : Int32)) hx hb dX9_keeper_43 (by decide) ?_
        exact mw_iret cx (rt_e h) w dX9_keeper_44
      · have h := br_n q h
        refine lv_aload_n hx hb dX9_keeper_12 rfl (lv_at hl 0 rfl) ?_
        refine mw_getR cx hin w 13 (by decide) (List.mem_cons_of_mem _ uf_RX9_50) dX9_keeper_13 ?_
        refine lv_iload hx hb dX9_keeper_16 (lv_at hl 4 rfl) ?_
        obtain ⟨hq_202, h⟩ := ck_e h
        refine mw_iald cx w 7 13 10 (by decide) hq_202 dX9_keeper_18 ?_
        refine lv_iload_n hx hb dX9_keeper_19 rfl (lv_at hl 3 rfl) ?_
        refine lv_icmp_ne (tgt := 37) hx hb dX9_keeper_20 (by decide) (fun q => ?_) (fun q => ?_)
        · have h := br_n q h
          exact J37 k3 hk3 x1 x2 x3 x4 S h _ _ _ (lv_sub hl [0, 1, 2, 3, 4] rfl) w
        · have h := br_p q h
          refine lv_aload_n hx hb dX9_keeper_23 rfl (lv_at hl 0 rfl) ?_
          refine lv_iload hx hb dX9_keeper_24 (lv_at hl 4 rfl) ?_
          refine lv_iload_n hx hb dX9_keeper_26 rfl (lv_at hl 1 rfl) ?_
          refine lv_iload_n hx hb dX9_keeper_27 rfl (lv_at hl 2 rfl) ?_
          obtain ⟨r_204, S_203, hc_205, h⟩ := bd_e h
          refine mw_calli (As := [.int x4, .int x1, .int x2]) (rest := []) cx (cc_keepsOut l D cs ad S S_203 x4 x1 x2 r_204 hc_205) (cwV 3 hts (uG uw_X9_keepsOut ul_RX9_217 ui_X9_keepsOut us_RX9_X9_keepsOut un_RX9) rfl rfl rfl ud_X9_keepsOut ⟨Nat.le_of_ble_eq_true rfl, Nat.le_of_ble_eq_true rfl⟩) w rfl hl.1 rfl (Nat.le_of_ble_eq_true rfl) dX9_keeper_28 (fun H locs w => ?_)
          refine lv_if_eq (tgt := 37) hx hb dX9_keeper_31 (by decide) (fun q => ?_) (fun q => ?_)
          · have h := br_p q h
            exact J37 k3 hk3 x1 x2 x3 x4 S_203 h _ _ _ (lv_sub hl [0, 1, 2, 3, 4] rfl) w
          · have h := br_n q h
            refine lv_iload hx hb dX9_keeper_34 (lv_at hl 4 rfl) ?_
            exact mw_iret cx (rt_e h) w dX9_keeper_36
  unfold mm_keeper at h
  refine lv_iconst (v := (0 : Int32)) hx hb dX9_keeper_0 (by decide) ?_
  obtain ⟨x4_306, ex4_306, h⟩ := lt_e h
  refine top_i ex4_306 ?_
  refine lv_istore (lv' := [(4, .int x4_306), (0, .ref (ad 100)), (1, .int a1), (2, .int a2), (3, .int a3)]) hx hb dX9_keeper_1 hl (by decide) rfl (fun ls hl => ?_)
  exact L3  4000 a1 a2 a3 x4_306 S h _ _ _ (lv_sub hl [1, 2, 3, 4, 0] rfl) w
def mm_arePartsHeard_41 (k2 : Int32 → Int32 → Int32 → MS → Option (Int32 × MS)) (x1 : Int32) (x2 : Int32) (x3 : Int32) (S : MS) : Option (Int32 × MS) := lt_ (x3 + (1 : Int32)) (fun x3_101 => k2 x1 x2 x3_101 S)
def mm_arePartsHeard_2 (k2 : Int32 → Int32 → Int32 → MS → Option (Int32 × MS)) (x1 : Int32) (x2 : Int32) (x3 : Int32) (S : MS) : Option (Int32 × MS) := ck (vin x1 14) (if (S.2.1 7 (x1).toNatClampNeg) ≤ x3 then (some ((1 : Int32), S)) else (bd (mm_has S x2 x3) (fun r_204 S_203 => if r_204 = (0 : Int32) then (ck (vin (((4 : Int32) * x1) + x3) 56) (ck (vin (S_203.2.1 8 ((((4 : Int32) * x1) + x3)).toNatClampNeg) 14) (if (S_203.2.1 29 ((S_203.2.1 8 ((((4 : Int32) * x1) + x3)).toNatClampNeg)).toNatClampNeg) = (0 : Int32) then (some ((0 : Int32), S_203)) else (mm_arePartsHeard_41 k2 x1 x2 x3 S_203)))) else (mm_arePartsHeard_41 k2 x1 x2 x3 S_203))))
def mm_arePartsHeard_2L : Nat → Int32 → Int32 → Int32 → MS → Option (Int32 × MS)
  | 0, _, _, _, _ => none
  | n + 1, x1, x2, x3, S => mm_arePartsHeard_2  (mm_arePartsHeard_2L  n) x1 x2 x3 S
def mm_arePartsHeard (S : MS) (a1 : Int32) (a2 : Int32) : Option (Int32 × MS) := lt_ ((0 : Int32)) (fun x3_308 => mm_arePartsHeard_2L  4000 a1 a2 x3_308 S)
abbrev wu_X9_arePartsHeard : List Cond := .code yX9_arePartsHeard cX9_arePartsHeard 4 (some .boolean) :: wsL_law
theorem ud_X9_arePartsHeard : yX9_arePartsHeard.cls = RX9 ∧ yX9_arePartsHeard.cls ≠ "java/lang/invoke/MethodHandle" ∧ yX9_arePartsHeard.cls ≠ "java/lang/invoke/VarHandle" ∧ (parseMethodDescriptor yX9_arePartsHeard.desc).map (fun d => d.parameters.length) = some 2 := by decide +kernel
abbrev rmX9_arePartsHeard : Room := { frames := 1, cells := 0, slots := 0, locals := 22 }
set_option maxHeartbeats 4000000 in
set_option maxRecDepth 100000 in
theorem cc_arePartsHeard (l : Launch) (D : va_G) (cs : Nat → ClassId) (ad : Nat → Nat) (S T : MS) (a1 : Int32) (a2 : Int32) (r0 : Int32) (h : mm_arePartsHeard S a1 a2 = some (r0, T)) : MetI l yX9_arePartsHeard wu_X9_arePartsHeard rmX9_arePartsHeard D cs ad [.int a1, .int a2] S T r0 := by
  refine mo_I (ty := .boolean) (cc := cX9_arePartsHeard) (maxL := 4) ⟨by decide, rfl⟩ rfl (Nat.le_of_ble_eq_true rfl) ?_
  intro p e s m args below meth c ls cx hl w
  have hx := cx.1
  have hb := cx.2.1
  have hts := cx.2.2.2.1
  have hown := cx.2.2.2.2.1
  have hin : ∀ w ∈ wsX90, w ∈ wu_X9_arePartsHeard := fun _ hq => List.mem_cons_of_mem _ (inlX9 _ hq)
  have hl : lv_has ls 4 [(0, .ref (ad 100)), (1, .int a1), (2, .int a2)] := hl
  have J41 : ∀ (k2 : Int32 → Int32 → Int32 → MS → Option (Int32 × MS)) (hk2 : ∀ (x1 : Int32) (x2 : Int32) (x3 : Int32) (S : MS), k2 x1 x2 x3 S = some (r0, T) → mGo p l e rmX9_arePartsHeard s m args below meth c 4 D cs ad (mQI below D cs ad args s r0 T) 2 [(0, .ref (ad 100)), (1, .int x1), (2, .int x2), (3, .int x3)] [] S) (x1 : Int32) (x2 : Int32) (x3 : Int32) (S : MS), mm_arePartsHeard_41 k2 x1 x2 x3 S = some (r0, T) → mGo p l e rmX9_arePartsHeard s m args below meth c 4 D cs ad (mQI below D cs ad args s r0 T) 41 [(0, .ref (ad 100)), (1, .int x1), (2, .int x2), (3, .int x3)] [] S := by
    intro k2 hk2 x1 x2 x3 S h H locs ls hl w
    unfold mm_arePartsHeard_41 at h
    obtain ⟨x3_101, ex3_101, h⟩ := lt_e h
    refine lv_iinc (v := x3_101) (lv' := [(3, .int x3_101), (0, .ref (ad 100)), (1, .int x1), (2, .int x2)]) hx hb dX9_arePartsHeard_41 hl (k := 3) rfl (by rw [ex3_101]; rfl) (by decide) rfl (fun ls hl => ?_)
    refine lv_goto (tgt := 2) hx hb dX9_arePartsHeard_44 (by decide) ?_
    exact hk2 x1 x2 x3_101 S h _ _ _ (lv_sub hl [1, 2, 3, 0] rfl) w
  have L2 : ∀ (n : Nat) (x1 : Int32) (x2 : Int32) (x3 : Int32) (S : MS), mm_arePartsHeard_2L  n x1 x2 x3 S = some (r0, T) → mGo p l e rmX9_arePartsHeard s m args below meth c 4 D cs ad (mQI below D cs ad args s r0 T) 2 [(0, .ref (ad 100)), (1, .int x1), (2, .int x2), (3, .int x3)] [] S := by
    intro n
    induction n with
    | zero =>
      intro x1 x2 x3 S h
      have h : none = some (r0, T) := h
      cases h
    | succ n hk2 =>
      intro x1 x2 x3 S h H locs ls hl w
      have h : mm_arePartsHeard_2  (mm_arePartsHeard_2L  n) x1 x2 x3 S = some (r0, T) := h
      generalize mm_arePartsHeard_2L  n = k2 at h hk2
      unfold mm_arePartsHeard_2 at h
      refine lv_iload_n hx hb dX9_arePartsHeard_2 rfl (lv_at hl 3 rfl) ?_
      refine lv_aload_n hx hb dX9_arePartsHeard_3 rfl (lv_at hl 0 rfl) ?_
      refine mw_getR cx hin w 7 (by decide) (List.mem_cons_of_mem _ uf_RX9_32) dX9_arePartsHeard_4 ?_
      refine lv_iload_n hx hb dX9_arePartsHeard_7 rfl (lv_at hl 1 rfl) ?_
      obtain ⟨hq_202, h⟩ := ck_e h
      refine mw_iald cx w 4 7 14 (by decide) hq_202 dX9_arePartsHeard_8 ?_
      refine lv_icmp_ge (tgt := 47) hx hb dX9_arePartsHeard_9 (by decide) (fun q => ?_) (fun q => ?_)
      · have h := br_p q h
        refine lv_iconst (v := (1 : Int32)) hx hb dX9_arePartsHeard_47 (by decide) ?_
        exact mw_zret cx (Or.inr rfl) (rt_e h) w dX9_arePartsHeard_48
      · have h := br_n q h
        refine lv_aload_n hx hb dX9_arePartsHeard_12 rfl (lv_at hl 0 rfl) ?_
        refine lv_iload_n hx hb dX9_arePartsHeard_13 rfl (lv_at hl 2 rfl) ?_
        refine lv_iload_n hx hb dX9_arePartsHeard_14 rfl (lv_at hl 3 rfl) ?_
        obtain ⟨r_204, S_203, hc_205, h⟩ := bd_e h
        refine mw_calli (As := [.int x2, .int x3]) (rest := []) cx (cc_has l D cs ad S S_203 x2 x3 r_204 hc_205) (cwV 2 hts (uG uw_X9_has ul_RX9_189 ui_X9_has us_RX9_X9_has un_RX9) rfl rfl rfl ud_X9_has ⟨Nat.le_of_ble_eq_true rfl, Nat.le_of_ble_eq_true rfl⟩) w rfl hl.1 rfl (Nat.le_of_ble_eq_true rfl) dX9_arePartsHeard_15 (fun H locs w => ?_)
        refine lv_if_ne (tgt := 41) hx hb dX9_arePartsHeard_18 (by decide) (fun q => ?_) (fun q => ?_)
        · have h := br_n q h
          exact J41 k2 hk2 x1 x2 x3 S_203 h _ _ _ (lv_sub hl [0, 1, 2, 3] rfl) w
        · have h := br_p q h
          refine lv_aload_n hx hb dX9_arePartsHeard_21 rfl (lv_at hl 0 rfl) ?_
          refine mw_getR cx hin w 29 (by decide) (List.mem_cons_of_mem _ uf_RX9_99) dX9_arePartsHeard_22 ?_
          refine lv_aload_n hx hb dX9_arePartsHeard_25 rfl (lv_at hl 0 rfl) ?_
          refine mw_getR cx hin w 8 (by decide) (List.mem_cons_of_mem _ uf_RX9_35) dX9_arePartsHeard_26 ?_
          refine lv_iconst (v := (4 : Int32)) hx hb dX9_arePartsHeard_29 (by decide) ?_
          refine lv_iload_n hx hb dX9_arePartsHeard_30 rfl (lv_at hl 1 rfl) ?_
          refine lv_imul hx hb dX9_arePartsHeard_31 ?_
          refine lv_iload_n hx hb dX9_arePartsHeard_32 rfl (lv_at hl 3 rfl) ?_
          refine lv_iadd hx hb dX9_arePartsHeard_33 ?_
          obtain ⟨hq_206, h⟩ := ck_e h
          refine mw_iald cx w 5 8 56 (by decide) hq_206 dX9_arePartsHeard_34 ?_
          obtain ⟨hq_207, h⟩ := ck_e h
          refine mw_zald cx w 17 29 14 (by decide) hq_207 dX9_arePartsHeard_35 ?_
          refine lv_if_ne (tgt := 41) hx hb dX9_arePartsHeard_36 (by decide) (fun q => ?_) (fun q => ?_)
          · have h := br_n q h
            exact J41 k2 hk2 x1 x2 x3 S_203 h _ _ _ (lv_sub hl [0, 1, 2, 3] rfl) w
          · have h := br_p q h
            refine lv_iconst (v := (0 : Int32)) hx hb dX9_arePartsHeard_39 (by decide) ?_
            exact mw_zret cx (Or.inl rfl) (rt_e h) w dX9_arePartsHeard_40
  unfold mm_arePartsHeard at h
  refine lv_iconst (v := (0 : Int32)) hx hb dX9_arePartsHeard_0 (by decide) ?_
  obtain ⟨x3_308, ex3_308, h⟩ := lt_e h
  refine top_i ex3_308 ?_
  refine lv_istore_n (lv' := [(3, .int x3_308), (0, .ref (ad 100)), (1, .int a1), (2, .int a2)]) hx hb dX9_arePartsHeard_1 rfl hl (by decide) rfl (fun ls hl => ?_)
  exact L2  4000 a1 a2 x3_308 S h _ _ _ (lv_sub hl [1, 2, 3, 0] rfl) w
def mm_findHeard_44 (k2 : Int32 → Int32 → Int32 → MS → Option (Int32 × MS)) (x1 : Int32) (x2 : Int32) (x3 : Int32) (t1 : Int32) (t2 : Int32) (S : MS) : Option (Int32 × MS) := ck (vin t1 14) (lt_ (mR S 29 (t1).toNatClampNeg (vp_nar .boolean t2)) (fun S_102 => lt_ (x3 + (1 : Int32)) (fun x3_103 => k2 x1 x2 x3_103 S_102)))
def mm_findHeard_43 (k2 : Int32 → Int32 → Int32 → MS → Option (Int32 × MS)) (x1 : Int32) (x2 : Int32) (x3 : Int32) (t1 : Int32) (S : MS) : Option (Int32 × MS) := mm_findHeard_44 k2 x1 x2 x3 t1 (0 : Int32) S
def mm_findHeard_2 (k2 : Int32 → Int32 → Int32 → MS → Option (Int32 × MS)) (x1 : Int32) (x2 : Int32) (x3 : Int32) (S : MS) : Option (Int32 × MS) := if x1 ≤ x3 then (some ((0 : Int32), S)) else (if x3 = (S.1 26) then (mm_findHeard_43 k2 x1 x2 x3 x3 S) else (bd (mm_arePartsHeard S x3 (0 : Int32)) (fun r_305 S_304 => if r_305 = (0 : Int32) then (mm_findHeard_43 k2 x1 x2 x3 x3 S_304) else (bd (mm_keeper S_304 x3 (0 : Int32) x2) (fun r_308 S_307 => if (0 : Int32) ≤ r_308 then (mm_findHeard_43 k2 x1 x2 x3 x3 S_307) else (mm_findHeard_44 k2 x1 x2 x3 x3 (1 : Int32) S_307))))))
def mm_findHeard_2L : Nat → Int32 → Int32 → Int32 → MS → Option (Int32 × MS)
  | 0, _, _, _, _ => none
  | n + 1, x1, x2, x3, S => mm_findHeard_2  (mm_findHeard_2L  n) x1 x2 x3 S
def mm_findHeard (S : MS) (a1 : Int32) (a2 : Int32) : Option (Int32 × MS) := lt_ ((0 : Int32)) (fun x3_410 => mm_findHeard_2L  4000 a1 a2 x3_410 S)
abbrev wu_X9_findHeard : List Cond := .code yX9_findHeard cX9_findHeard 4 none :: wsL_law
theorem ud_X9_findHeard : yX9_findHeard.cls = RX9 ∧ yX9_findHeard.cls ≠ "java/lang/invoke/MethodHandle" ∧ yX9_findHeard.cls ≠ "java/lang/invoke/VarHandle" ∧ (parseMethodDescriptor yX9_findHeard.desc).map (fun d => d.parameters.length) = some 2 := by decide +kernel
abbrev rmX9_findHeard : Room := { frames := 6, cells := 0, slots := 0, locals := 146 }
set_option maxHeartbeats 4000000 in
set_option maxRecDepth 100000 in
theorem cc_findHeard (l : Launch) (D : va_G) (cs : Nat → ClassId) (ad : Nat → Nat) (S T : MS) (a1 : Int32) (a2 : Int32) (r0 : Int32) (h : mm_findHeard S a1 a2 = some (r0, T)) : MetV l yX9_findHeard wu_X9_findHeard rmX9_findHeard D cs ad [.int a1, .int a2] S T r0 := by
  refine mo_V (cc := cX9_findHeard) (maxL := 4) ⟨by decide, rfl⟩ rfl (Nat.le_of_ble_eq_true rfl) ?_
  intro p e s m args below meth c ls cx hl w
  have hx := cx.1
  have hb := cx.2.1
  have hts := cx.2.2.2.1
  have hown := cx.2.2.2.2.1
  have hin : ∀ w ∈ wsX90, w ∈ wu_X9_findHeard := fun _ hq => List.mem_cons_of_mem _ (inlX9 _ hq)
  have hl : lv_has ls 4 [(0, .ref (ad 100)), (1, .int a1), (2, .int a2)] := hl
  have J44 : ∀ (k2 : Int32 → Int32 → Int32 → MS → Option (Int32 × MS)) (hk2 : ∀ (x1 : Int32) (x2 : Int32) (x3 : Int32) (S : MS), k2 x1 x2 x3 S = some (r0, T) → mGo p l e rmX9_findHeard s m args below meth c 4 D cs ad (mQV below D cs ad args s r0 T) 2 [(0, .ref (ad 100)), (1, .int x1), (2, .int x2), (3, .int x3)] [] S) (x1 : Int32) (x2 : Int32) (x3 : Int32) (t1 : Int32) (t2 : Int32) (S : MS), mm_findHeard_44 k2 x1 x2 x3 t1 t2 S = some (r0, T) → mGo p l e rmX9_findHeard s m args below meth c 4 D cs ad (mQV below D cs ad args s r0 T) 44 [(0, .ref (ad 100)), (1, .int x1), (2, .int x2), (3, .int x3)] [.int t2, .int t1, .ref (ad 29)] S := by
    intro k2 hk2 x1 x2 x3 t1 t2 S h H locs ls hl w
    unfold mm_findHeard_44 at h
    obtain ⟨hq_101, h⟩ := ck_e h
    obtain ⟨S_102, eS_102, h⟩ := lt_e h
    refine mw_zast cx w 17 29 14 (by decide) hq_101 eS_102 dX9_findHeard_44 (fun H locs w => ?_)
    obtain ⟨x3_103, ex3_103, h⟩ := lt_e h
    refine lv_iinc (v := x3_103) (lv' := [(3, .int x3_103), (0, .ref (ad 100)), (1, .int x1), (2, .int x2)]) hx hb dX9_findHeard_45 hl (k := 3) rfl (by rw [ex3_103]; rfl) (by decide) rfl (fun ls hl => ?_)
    refine lv_goto (tgt := 2) hx hb dX9_findHeard_48 (by decide) ?_
    exact hk2 x1 x2 x3_103 S_102 h _ _ _ (lv_sub hl [1, 2, 3, 0] rfl) w
  have J43 : ∀ (k2 : Int32 → Int32 → Int32 → MS → Option (Int32 × MS)) (hk2 : ∀ (x1 : Int32) (x2 : Int32) (x3 : Int32) (S : MS), k2 x1 x2 x3 S = some (r0, T) → mGo p l e rmX9_findHeard s m args below meth c 4 D cs ad (mQV below D cs ad args s r0 T) 2 [(0, .ref (ad 100)), (1, .int x1), (2, .int x2), (3, .int x3)] [] S) (x1 : Int32) (x2 : Int32) (x3 : Int32) (t1 : Int32) (S : MS), mm_findHeard_43 k2 x1 x2 x3 t1 S = some (r0, T) → mGo p l e rmX9_findHeard s m args below meth c 4 D cs ad (mQV below D cs ad args s r0 T) 43 [(0, .ref (ad 100)), (1, .int x1), (2, .int x2), (3, .int x3)] [.int t1, .ref (ad 29)] S := by
    intro k2 hk2 x1 x2 x3 t1 S h H locs ls hl w
    unfold mm_findHeard_43 at h
    refine lv_iconst (v := (0 : Int32)) hx hb dX9_findHeard_43 (by decide) ?_
    exact J44 k2 hk2 x1 x2 x3 t1 (0 : Int32) S h _ _ _ (lv_sub hl [0, 1, 2, 3] rfl) w
  have L2 : ∀ (n : Nat) (x1 : Int32) (x2 : Int32) (x3 : Int32) (S : MS), mm_findHeard_2L  n x1 x2 x3 S = some (r0, T) → mGo p l e rmX9_findHeard s m args below meth c 4 D cs ad (mQV below D cs ad args s r0 T) 2 [(0, .ref (ad 100)), (1, .int x1), (2, .int x2), (3, .int x3)] [] S := by
    intro n
    induction n with
    | zero =>
      intro x1 x2 x3 S h
      have h : none = some (r0, T) := h
      cases h
    | succ n hk2 =>
      intro x1 x2 x3 S h H locs ls hl w
      have h : mm_findHeard_2  (mm_findHeard_2L  n) x1 x2 x3 S = some (r0, T) := h
      generalize mm_findHeard_2L  n = k2 at h hk2
      unfold mm_findHeard_2 at h
      refine lv_iload_n hx hb dX9_findHeard_2 rfl (lv_at hl 3 rfl) ?_
      refine lv_iload_n hx hb dX9_findHeard_3 rfl (lv_at hl 1 rfl) ?_
      refine lv_icmp_ge (tgt := 51) hx hb dX9_findHeard_4 (by decide) (fun q => ?_) (fun q => ?_)
      · have h := br_p q h
        exact mw_vret cx (rt_e h) w dX9_findHeard_51
      · have h := br_n q h
        refine lv_aload_n hx hb dX9_findHeard_7 rfl (lv_at hl 0 rfl) ?_
        refine mw_getR cx hin w 29 (by decide) (List.mem_cons_of_mem _ uf_RX9_99) dX9_findHeard_8 ?_
        refine lv_iload_n hx hb dX9_findHeard_11 rfl (lv_at hl 3 rfl) ?_
        refine lv_iload_n hx hb dX9_findHeard_12 rfl (lv_at hl 3 rfl) ?_
        refine lv_aload_n hx hb dX9_findHeard_13 rfl (lv_at hl 0 rfl) ?_
        refine mw_getI cx hin w 26 (by decide) (List.mem_cons_of_mem _ uf_RX9_89) dX9_findHeard_14 ?_
        refine lv_icmp_eq (tgt := 43) hx hb dX9_findHeard_17 (by decide) (fun q => ?_) (fun q => ?_)
        · have h := br_p q h
          exact J43 k2 hk2 x1 x2 x3 x3 S h _ _ _ (lv_sub hl [0, 1, 2, 3] rfl) w
        · have h := br_n q h
          refine lv_aload_n hx hb dX9_findHeard_20 rfl (lv_at hl 0 rfl) ?_
          refine lv_iload_n hx hb dX9_findHeard_21 rfl (lv_at hl 3 rfl) ?_
          refine lv_iconst (v := (0 : Int32)) hx hb dX9_findHeard_22 (by decide) ?_
          obtain ⟨r_305, S_304, hc_306, h⟩ := bd_e h
          refine mw_calli (As := [.int x3, .int (0 : Int32)]) (rest := [.int x3, .ref (ad 29)]) cx (cc_arePartsHeard l D cs ad S S_304 x3 (0 : Int32) r_305 hc_306) (cwV 2 hts (uG uw_X9_arePartsHeard ul_RX9_224 ui_X9_arePartsHeard us_RX9_X9_arePartsHeard un_RX9) rfl rfl rfl ud_X9_arePartsHeard ⟨Nat.le_of_ble_eq_true rfl, Nat.le_of_ble_eq_true rfl⟩) w rfl hl.1 rfl (Nat.le_of_ble_eq_true rfl) dX9_findHeard_23 (fun H locs w => ?_)
          refine lv_if_eq (tgt := 43) hx hb dX9_findHeard_26 (by decide) (fun q => ?_) (fun q => ?_)
          · have h := br_p q h
            exact J43 k2 hk2 x1 x2 x3 x3 S_304 h _ _ _ (lv_sub hl [0, 1, 2, 3] rfl) w
          · have h := br_n q h
            refine lv_aload_n hx hb dX9_findHeard_29 rfl (lv_at hl 0 rfl) ?_
            refine lv_iload_n hx hb dX9_findHeard_30 rfl (lv_at hl 3 rfl) ?_
            refine lv_iconst (v := (0 : Int32)) hx hb dX9_findHeard_31 (by decide) ?_
            refine lv_iload_n hx hb dX9_findHeard_32 rfl (lv_at hl 2 rfl) ?_
            obtain ⟨r_308, S_307, hc_309, h⟩ := bd_e h
            refine mw_calli (As := [.int x3, .int (0 : Int32), .int x2]) (rest := [.int x3, .ref (ad 29)]) cx (cc_keeper l D cs ad S_304 S_307 x3 (0 : Int32) x2 r_308 hc_309) (cwV 3 hts (uG uw_X9_keeper ul_RX9_227 ui_X9_keeper us_RX9_X9_keeper un_RX9) rfl rfl rfl ud_X9_keeper ⟨Nat.le_of_ble_eq_true rfl, Nat.le_of_ble_eq_true rfl⟩) w rfl hl.1 rfl (Nat.le_of_ble_eq_true rfl) dX9_findHeard_33 (fun H locs w => ?_)
            refine lv_if_ge (tgt := 43) hx hb dX9_findHeard_36 (by decide) (fun q => ?_) (fun q => ?_)
            · have h := br_p q h
              exact J43 k2 hk2 x1 x2 x3 x3 S_307 h _ _ _ (lv_sub hl [0, 1, 2, 3] rfl) w
            · have h := br_n q h
              refine lv_iconst (v := (1 : Int32)) hx hb dX9_findHeard_39 (by decide) ?_
              refine lv_goto (tgt := 44) hx hb dX9_findHeard_40 (by decide) ?_
              exact J44 k2 hk2 x1 x2 x3 x3 (1 : Int32) S_307 h _ _ _ (lv_sub hl [0, 1, 2, 3] rfl) w
  unfold mm_findHeard at h
  refine lv_iconst (v := (0 : Int32)) hx hb dX9_findHeard_0 (by decide) ?_
  obtain ⟨x3_410, ex3_410, h⟩ := lt_e h
  refine top_i ex3_410 ?_
  refine lv_istore_n (lv' := [(3, .int x3_410), (0, .ref (ad 100)), (1, .int a1), (2, .int a2)]) hx hb dX9_findHeard_1 rfl hl (by decide) rfl (fun ls hl => ?_)
  exact L2  4000 a1 a2 x3_410 S h _ _ _ (lv_sub hl [1, 2, 3, 0] rfl) w
def mm_isHeard (S : MS) (a1 : Int32) (a2 : Int32) (a3 : Int32) : Option (Int32 × MS) := bd (mm_keeper S a1 a2 a3) (fun r_102 S_101 => if r_102 < (0 : Int32) then (if a2 = (1 : Int32) then (some ((1 : Int32), S_101)) else (bd (mm_findHeard S_101 a1 a3) (fun _ S_104 => bd (mm_arePartsHeard S_104 a1 (0 : Int32)) (fun r_108 S_107 => ck (z01 r_108) (some (r_108, S_107)))))) else (some ((0 : Int32), S_101)))
abbrev wu_X9_isHeard : List Cond := .code yX9_isHeard cX9_isHeard 4 (some .boolean) :: wsL_law
theorem ud_X9_isHeard : yX9_isHeard.cls = RX9 ∧ yX9_isHeard.cls ≠ "java/lang/invoke/MethodHandle" ∧ yX9_isHeard.cls ≠ "java/lang/invoke/VarHandle" ∧ (parseMethodDescriptor yX9_isHeard.desc).map (fun d => d.parameters.length) = some 3 := by decide +kernel
abbrev rmX9_isHeard : Room := { frames := 7, cells := 0, slots := 0, locals := 169 }
set_option maxHeartbeats 4000000 in
set_option maxRecDepth 100000 in
theorem cc_isHeard (l : Launch) (D : va_G) (cs : Nat → ClassId) (ad : Nat → Nat) (S T : MS) (a1 : Int32) (a2 : Int32) (a3 : Int32) (r0 : Int32) (h : mm_isHeard S a1 a2 a3 = some (r0, T)) : MetI l yX9_isHeard wu_X9_isHeard rmX9_isHeard D cs ad [.int a1, .int a2, .int a3] S T r0 := by
  refine mo_I (ty := .boolean) (cc := cX9_isHeard) (maxL := 4) ⟨by decide, rfl⟩ rfl (Nat.le_of_ble_eq_true rfl) ?_
  intro p e s m args below meth c ls cx hl w
  have hx := cx.1
  have hb := cx.2.1
  have hts := cx.2.2.2.1
  have hown := cx.2.2.2.2.1
  have hl : lv_has ls 4 [(0, .ref (ad 100)), (1, .int a1), (2, .int a2), (3, .int a3)] := hl
  unfold mm_isHeard at h
  refine lv_aload_n hx hb dX9_isHeard_0 rfl (lv_at hl 0 rfl) ?_
  refine lv_iload_n hx hb dX9_isHeard_1 rfl (lv_at hl 1 rfl) ?_
  refine lv_iload_n hx hb dX9_isHeard_2 rfl (lv_at hl 2 rfl) ?_
  refine lv_iload_n hx hb dX9_isHeard_3 rfl (lv_at hl 3 rfl) ?_
  obtain ⟨r_102, S_101, hc_103, h⟩ := bd_e h
  refine mw_calli (As := [.int a1, .int a2, .int a3]) (rest := []) cx (cc_keeper l D cs ad S S_101 a1 a2 a3 r_102 hc_103) (cwV 3 hts (uG uw_X9_keeper ul_RX9_227 ui_X9_keeper us_RX9_X9_keeper un_RX9) rfl rfl rfl ud_X9_keeper ⟨Nat.le_of_ble_eq_true rfl, Nat.le_of_ble_eq_true rfl⟩) w rfl hl.1 rfl (Nat.le_of_ble_eq_true rfl) dX9_isHeard_4 (fun H locs w => ?_)
  refine lv_if_lt (tgt := 12) hx hb dX9_isHeard_7 (by decide) (fun q => ?_) (fun q => ?_)
  · have h := br_p q h
    refine lv_iload_n hx hb dX9_isHeard_12 rfl (lv_at hl 2 rfl) ?_
    refine lv_iconst (v := (1 : Int32)) hx hb dX9_isHeard_13 (by decide) ?_
    refine lv_icmp_ne (tgt := 19) hx hb dX9_isHeard_14 (by decide) (fun q => ?_) (fun q => ?_)
    · have h := br_n q h
      refine lv_aload_n hx hb dX9_isHeard_19 rfl (lv_at hl 0 rfl) ?_
      refine lv_iload_n hx hb dX9_isHeard_20 rfl (lv_at hl 1 rfl) ?_
      refine lv_iload_n hx hb dX9_isHeard_21 rfl (lv_at hl 3 rfl) ?_
      obtain ⟨r_105, S_104, hc_106, h⟩ := bd_e h
      refine mw_callv (As := [.int a1, .int a3]) (rest := []) cx (cc_findHeard l D cs ad S_101 S_104 a1 a3 r_105 hc_106) (cwV 2 hts (uG uw_X9_findHeard ul_RX9_230 ui_X9_findHeard us_RX9_X9_findHeard un_RX9) rfl rfl rfl ud_X9_findHeard ⟨Nat.le_of_ble_eq_true rfl, Nat.le_of_ble_eq_true rfl⟩) w rfl hl.1 rfl (Nat.le_of_ble_eq_true rfl) dX9_isHeard_22 (fun H locs w => ?_)
      refine lv_aload_n hx hb dX9_isHeard_25 rfl (lv_at hl 0 rfl) ?_
      refine lv_iload_n hx hb dX9_isHeard_26 rfl (lv_at hl 1 rfl) ?_
      refine lv_iconst (v := (0 : Int32)) hx hb dX9_isHeard_27 (by decide) ?_
      obtain ⟨r_108, S_107, hc_109, h⟩ := bd_e h
      refine mw_calli (As := [.int a1, .int (0 : Int32)]) (rest := []) cx (cc_arePartsHeard l D cs ad S_104 S_107 a1 (0 : Int32) r_108 hc_109) (cwV 2 hts (uG uw_X9_arePartsHeard ul_RX9_224 ui_X9_arePartsHeard us_RX9_X9_arePartsHeard un_RX9) rfl rfl rfl ud_X9_arePartsHeard ⟨Nat.le_of_ble_eq_true rfl, Nat.le_of_ble_eq_true rfl⟩) w rfl hl.1 rfl (Nat.le_of_ble_eq_true rfl) dX9_isHeard_28 (fun H locs w => ?_)
      obtain ⟨hq_110, h⟩ := ck_e h
      exact mw_zret cx (z01_e hq_110) (rt_e h) w dX9_isHeard_31
    · have h := br_p q h
      refine lv_iconst (v := (1 : Int32)) hx hb dX9_isHeard_17 (by decide) ?_
      exact mw_zret cx (Or.inr rfl) (rt_e h) w dX9_isHeard_18
  · have h := br_n q h
    refine lv_iconst (v := (0 : Int32)) hx hb dX9_isHeard_10 (by decide) ?_
    exact mw_zret cx (Or.inl rfl) (rt_e h) w dX9_isHeard_11
def mm_isLayer_28  (S : MS) : Option (Int32 × MS) := some ((0 : Int32), S)
def mm_isLayer (S : MS) (a1 : Int32) (a2 : Int32) (a3 : Int32) : Option (Int32 × MS) := bd (mm_isWord S a1) (fun r_202 S_201 => if r_202 = (0 : Int32) then (mm_isLayer_28   S_201) else (bd (mm_isEnd S_201 a2) (fun r_205 S_204 => if r_205 = (0 : Int32) then (mm_isLayer_28   S_204) else (bd (mm_isLand S_204 a3) (fun r_208 S_207 => if r_208 = (0 : Int32) then (mm_isLayer_28   S_207) else (some ((1 : Int32), S_207)))))))
abbrev wu_X9_isLayer : List Cond := .code yX9_isLayer cX9_isLayer 4 (some .boolean) :: wsL_law
theorem ud_X9_isLayer : yX9_isLayer.cls = RX9 ∧ yX9_isLayer.cls ≠ "java/lang/invoke/MethodHandle" ∧ yX9_isLayer.cls ≠ "java/lang/invoke/VarHandle" ∧ (parseMethodDescriptor yX9_isLayer.desc).map (fun d => d.parameters.length) = some 3 := by decide +kernel
abbrev rmX9_isLayer : Room := { frames := 2, cells := 0, slots := 0, locals := 44 }
set_option maxHeartbeats 4000000 in
set_option maxRecDepth 100000 in
theorem cc_isLayer (l : Launch) (D : va_G) (cs : Nat → ClassId) (ad : Nat → Nat) (S T : MS) (a1 : Int32) (a2 : Int32) (a3 : Int32) (r0 : Int32) (h : mm_isLayer S a1 a2 a3 = some (r0, T)) : MetI l yX9_isLayer wu_X9_isLayer rmX9_isLayer D cs ad [.int a1, .int a2, .int a3] S T r0 := by
  refine mo_I (ty := .boolean) (cc := cX9_isLayer) (maxL := 4) ⟨by decide, rfl⟩ rfl (Nat.le_of_ble_eq_true rfl) ?_
  intro p e s m args below meth c ls cx hl w
  have hx := cx.1
  have hb := cx.2.1
  have hts := cx.2.2.2.1
  have hown := cx.2.2.2.2.1
  have hl : lv_has ls 4 [(0, .ref (ad 100)), (1, .int a1), (2, .int a2), (3, .int a3)] := hl
  have J28 : ∀  (S : MS), mm_isLayer_28   S = some (r0, T) → mGo p l e rmX9_isLayer s m args below meth c 4 D cs ad (mQI below D cs ad args s r0 T) 28 [] [] S := by
    intro  S h H locs ls hl w
    unfold mm_isLayer_28 at h
    refine lv_iconst (v := (0 : Int32)) hx hb dX9_isLayer_28 (by decide) ?_
    exact mw_zret cx (Or.inl rfl) (rt_e h) w dX9_isLayer_29
  unfold mm_isLayer at h
  refine lv_aload_n hx hb dX9_isLayer_0 rfl (lv_at hl 0 rfl) ?_
  refine lv_iload_n hx hb dX9_isLayer_1 rfl (lv_at hl 1 rfl) ?_
  obtain ⟨r_202, S_201, hc_203, h⟩ := bd_e h
  refine mw_calli (As := [.int a1]) (rest := []) cx (cc_isWord l D cs ad S S_201 a1 r_202 hc_203) (cwV 1 hts (uG uw_X9_isWord ul_RX9_137 ui_X9_isWord us_RX9_X9_isWord un_RX9) rfl rfl rfl ud_X9_isWord ⟨Nat.le_of_ble_eq_true rfl, Nat.le_of_ble_eq_true rfl⟩) w rfl hl.1 rfl (Nat.le_of_ble_eq_true rfl) dX9_isLayer_2 (fun H locs w => ?_)
  refine lv_if_eq (tgt := 28) hx hb dX9_isLayer_5 (by decide) (fun q => ?_) (fun q => ?_)
  · have h := br_p q h
    exact J28   S_201 h _ _ _ (lv_sub hl [] rfl) w
  · have h := br_n q h
    refine lv_aload_n hx hb dX9_isLayer_8 rfl (lv_at hl 0 rfl) ?_
    refine lv_iload_n hx hb dX9_isLayer_9 rfl (lv_at hl 2 rfl) ?_
    obtain ⟨r_205, S_204, hc_206, h⟩ := bd_e h
    refine mw_calli (As := [.int a2]) (rest := []) cx (cc_isEnd l D cs ad S_201 S_204 a2 r_205 hc_206) (cwV 1 hts (uG uw_X9_isEnd ul_RX9_208 ui_X9_isEnd us_RX9_X9_isEnd un_RX9) rfl rfl rfl ud_X9_isEnd ⟨Nat.le_of_ble_eq_true rfl, Nat.le_of_ble_eq_true rfl⟩) w rfl hl.1 rfl (Nat.le_of_ble_eq_true rfl) dX9_isLayer_10 (fun H locs w => ?_)
    refine lv_if_eq (tgt := 28) hx hb dX9_isLayer_13 (by decide) (fun q => ?_) (fun q => ?_)
    · have h := br_p q h
      exact J28   S_204 h _ _ _ (lv_sub hl [] rfl) w
    · have h := br_n q h
      refine lv_aload_n hx hb dX9_isLayer_16 rfl (lv_at hl 0 rfl) ?_
      refine lv_iload_n hx hb dX9_isLayer_17 rfl (lv_at hl 3 rfl) ?_
      obtain ⟨r_208, S_207, hc_209, h⟩ := bd_e h
      refine mw_calli (As := [.int a3]) (rest := []) cx (cc_isLand l D cs ad S_204 S_207 a3 r_208 hc_209) (cwV 1 hts (uG uw_X9_isLand ul_RX9_177 ui_X9_isLand us_RX9_X9_isLand un_RX9) rfl rfl rfl ud_X9_isLand ⟨Nat.le_of_ble_eq_true rfl, Nat.le_of_ble_eq_true rfl⟩) w rfl hl.1 rfl (Nat.le_of_ble_eq_true rfl) dX9_isLayer_18 (fun H locs w => ?_)
      refine lv_if_eq (tgt := 28) hx hb dX9_isLayer_21 (by decide) (fun q => ?_) (fun q => ?_)
      · have h := br_p q h
        exact J28   S_207 h _ _ _ (lv_sub hl [] rfl) w
      · have h := br_n q h
        refine lv_iconst (v := (1 : Int32)) hx hb dX9_isLayer_24 (by decide) ?_
        refine lv_goto (tgt := 29) hx hb dX9_isLayer_25 (by decide) ?_
        exact mw_zret cx (Or.inr rfl) (rt_e h) w dX9_isLayer_29
def mm_heard (S : MS) (a1 : Int32) (a2 : Int32) (a3 : Int32) : Option (Int32 × MS) := bd (mm_isLayer S a1 a2 a3) (fun r_102 S_101 => if r_102 = (0 : Int32) then (some ((-1 : Int32), S_101)) else (bd (mm_asItIs S_101 ) (fun _ S_104 => bd (mm_isHeard S_104 a1 a2 a3) (fun r_108 S_107 => if r_108 = (0 : Int32) then (some ((0 : Int32), S_107)) else (some ((1 : Int32), S_107))))))
abbrev wu_X9_heard : List Cond := .code yX9_heard cX9_heard 4 (some .int) :: wsL_law
theorem ud_X9_heard : yX9_heard.cls = RX9 ∧ yX9_heard.cls ≠ "java/lang/invoke/MethodHandle" ∧ yX9_heard.cls ≠ "java/lang/invoke/VarHandle" ∧ (parseMethodDescriptor yX9_heard.desc).map (fun d => d.parameters.length) = some 3 := by decide +kernel
abbrev rmX9_heard : Room := { frames := 8, cells := 0, slots := 0, locals := 192 }
set_option maxHeartbeats 4000000 in
set_option maxRecDepth 100000 in
theorem cc_heard (l : Launch) (D : va_G) (cs : Nat → ClassId) (ad : Nat → Nat) (S T : MS) (a1 : Int32) (a2 : Int32) (a3 : Int32) (r0 : Int32) (h : mm_heard S a1 a2 a3 = some (r0, T)) : MetI l yX9_heard wu_X9_heard rmX9_heard D cs ad [.int a1, .int a2, .int a3] S T r0 := by
  refine mo_I (ty := .int) (cc := cX9_heard) (maxL := 4) ⟨by decide, rfl⟩ rfl (Nat.le_of_ble_eq_true rfl) ?_
  intro p e s m args below meth c ls cx hl w
  have hx := cx.1
  have hb := cx.2.1
  have hts := cx.2.2.2.1
  have hown := cx.2.2.2.2.1
  have hl : lv_has ls 4 [(0, .ref (ad 100)), (1, .int a1), (2, .int a2), (3, .int a3)] := hl
  unfold mm_heard at h
  refine lv_aload_n hx hb dX9_heard_0 rfl (lv_at hl 0 rfl) ?_
  refine lv_iload_n hx hb dX9_heard_1 rfl (lv_at hl 1 rfl) ?_
  refine lv_iload_n hx hb dX9_heard_2 rfl (lv_at hl 2 rfl) ?_
  refine lv_iload_n hx hb dX9_heard_3 rfl (lv_at hl 3 rfl) ?_
  obtain ⟨r_102, S_101, hc_103, h⟩ := bd_e h
  refine mw_calli (As := [.int a1, .int a2, .int a3]) (rest := []) cx (cc_isLayer l D cs ad S S_101 a1 a2 a3 r_102 hc_103) (cwV 3 hts (uG uw_X9_isLayer ul_RX9_234 ui_X9_isLayer us_RX9_X9_isLayer un_RX9) rfl rfl rfl ud_X9_isLayer ⟨Nat.le_of_ble_eq_true rfl, Nat.le_of_ble_eq_true rfl⟩) w rfl hl.1 rfl (Nat.le_of_ble_eq_true rfl) dX9_heard_4 (fun H locs w => ?_)
  refine lv_if_ne (tgt := 12) hx hb dX9_heard_7 (by decide) (fun q => ?_) (fun q => ?_)
  · have h := br_n q h
    refine lv_aload_n hx hb dX9_heard_12 rfl (lv_at hl 0 rfl) ?_
    obtain ⟨r_105, S_104, hc_106, h⟩ := bd_e h
    refine mw_callv (As := []) (rest := []) cx (cc_asItIs l D cs ad S_101 S_104  r_105 hc_106) (cwV 0 hts (uG uw_X9_asItIs ul_RX9_211 ui_X9_asItIs us_RX9_X9_asItIs un_RX9) rfl rfl rfl ud_X9_asItIs ⟨Nat.le_of_ble_eq_true rfl, Nat.le_of_ble_eq_true rfl⟩) w rfl hl.1 rfl (Nat.le_of_ble_eq_true rfl) dX9_heard_13 (fun H locs w => ?_)
    refine lv_aload_n hx hb dX9_heard_16 rfl (lv_at hl 0 rfl) ?_
    refine lv_iload_n hx hb dX9_heard_17 rfl (lv_at hl 1 rfl) ?_
    refine lv_iload_n hx hb dX9_heard_18 rfl (lv_at hl 2 rfl) ?_
    refine lv_iload_n hx hb dX9_heard_19 rfl (lv_at hl 3 rfl) ?_
    obtain ⟨r_108, S_107, hc_109, h⟩ := bd_e h
    refine mw_calli (As := [.int a1, .int a2, .int a3]) (rest := []) cx (cc_isHeard l D cs ad S_104 S_107 a1 a2 a3 r_108 hc_109) (cwV 3 hts (uG uw_X9_isHeard ul_RX9_237 ui_X9_isHeard us_RX9_X9_isHeard un_RX9) rfl rfl rfl ud_X9_isHeard ⟨Nat.le_of_ble_eq_true rfl, Nat.le_of_ble_eq_true rfl⟩) w rfl hl.1 rfl (Nat.le_of_ble_eq_true rfl) dX9_heard_20 (fun H locs w => ?_)
    refine lv_if_eq (tgt := 30) hx hb dX9_heard_23 (by decide) (fun q => ?_) (fun q => ?_)
    · have h := br_p q h
      refine lv_iconst (v := (0 : Int32)) hx hb dX9_heard_30 (by decide) ?_
      exact mw_iret cx (rt_e h) w dX9_heard_31
    · have h := br_n q h
      refine lv_iconst (v := (1 : Int32)) hx hb dX9_heard_26 (by decide) ?_
      refine lv_goto (tgt := 31) hx hb dX9_heard_27 (by decide) ?_
      exact mw_iret cx (rt_e h) w dX9_heard_31
  · have h := br_p q h
    refine lv_iconst (v := (-1 : Int32)) hx hb dX9_heard_10 (by decide) ?_
    exact mw_iret cx (rt_e h) w dX9_heard_11
def mm_why_97 (k31 : Int32 → Int32 → Int32 → MS → Option (Int32 × MS)) (k59 : Int32 → Int32 → Int32 → Int32 → MS → Option (Int32 × MS)) (x3 : Int32) (x4 : Int32) (x5 : Int32) (x7 : Int32) (S : MS) : Option (Int32 × MS) := lt_ (x7 + (1 : Int32)) (fun x7_101 => k59 x3 x4 x5 x7_101 S)
def mm_why_103 (k31 : Int32 → Int32 → Int32 → MS → Option (Int32 × MS)) (x3 : Int32) (x4 : Int32) (x7 : Int32) (S : MS) : Option (Int32 × MS) := ck (vin x4 14) (if x7 = (S.2.1 7 (x4).toNatClampNeg) then (some ((-5 : Int32), S)) else (ck (vin (((4 : Int32) * x4) + x7) 56) (lt_ ((S.2.1 8 ((((4 : Int32) * x4) + x7)).toNatClampNeg)) (fun x4_204 => lt_ ((0 : Int32)) (fun x5_205 => k31 x3 x4_204 x5_205 S)))))
def mm_why_59 (k31 : Int32 → Int32 → Int32 → MS → Option (Int32 × MS)) (k59 : Int32 → Int32 → Int32 → Int32 → MS → Option (Int32 × MS)) (x3 : Int32) (x4 : Int32) (x5 : Int32) (x7 : Int32) (S : MS) : Option (Int32 × MS) := ck (vin x4 14) (if (S.2.1 7 (x4).toNatClampNeg) ≤ x7 then (mm_why_103 k31 x3 x4 x7 S) else (if x5 = (1 : Int32) then (mm_why_97 k31 k59 x3 x4 x5 x7 S) else (ck (vin (((4 : Int32) * x4) + x7) 56) (ck (vin (S.2.1 8 ((((4 : Int32) * x4) + x7)).toNatClampNeg) 14) (if (S.2.1 29 ((S.2.1 8 ((((4 : Int32) * x4) + x7)).toNatClampNeg)).toNatClampNeg) = (0 : Int32) then (mm_why_103 k31 x3 x4 x7 S) else (mm_why_97 k31 k59 x3 x4 x5 x7 S))))))
def mm_why_59L (k31 : Int32 → Int32 → Int32 → MS → Option (Int32 × MS)) : Nat → Int32 → Int32 → Int32 → Int32 → MS → Option (Int32 × MS)
  | 0, _, _, _, _, _ => none
  | n + 1, x3, x4, x5, x7, S => mm_why_59 k31 (mm_why_59L k31 n) x3 x4 x5 x7 S
def mm_why_31 (k31 : Int32 → Int32 → Int32 → MS → Option (Int32 × MS)) (x3 : Int32) (x4 : Int32) (x5 : Int32) (S : MS) : Option (Int32 × MS) := bd (mm_keeper S x4 x5 x3) (fun r_410 S_409 => if r_410 < (0 : Int32) then (lt_ ((0 : Int32)) (fun x7_412 => mm_why_59L k31 4000 x3 x4 x5 x7_412 S_409)) else (some ((((100 : Int32) * x4) + r_410), S_409)))
def mm_why_31L : Nat → Int32 → Int32 → Int32 → MS → Option (Int32 × MS)
  | 0, _, _, _, _ => none
  | n + 1, x3, x4, x5, S => mm_why_31  (mm_why_31L  n) x3 x4 x5 S
def mm_why (S : MS) (a1 : Int32) (a2 : Int32) (a3 : Int32) : Option (Int32 × MS) := bd (mm_isLayer S a1 a2 a3) (fun r_514 S_513 => if r_514 = (0 : Int32) then (some ((-1 : Int32), S_513)) else (bd (mm_asItIs S_513 ) (fun _ S_516 => bd (mm_findHeard S_516 (S_516.1 0) a3) (fun _ S_519 => mm_why_31L  4000 a3 a1 a2 S_519))))
abbrev wu_X9_why : List Cond := .code yX9_why cX9_why 8 (some .int) :: wsL_law
theorem ud_X9_why : yX9_why.cls = RX9 ∧ yX9_why.cls ≠ "java/lang/invoke/MethodHandle" ∧ yX9_why.cls ≠ "java/lang/invoke/VarHandle" ∧ (parseMethodDescriptor yX9_why.desc).map (fun d => d.parameters.length) = some 3 := by decide +kernel
abbrev rmX9_why : Room := { frames := 7, cells := 0, slots := 0, locals := 169 }
set_option maxHeartbeats 4000000 in
set_option maxRecDepth 100000 in
theorem cc_why (l : Launch) (D : va_G) (cs : Nat → ClassId) (ad : Nat → Nat) (S T : MS) (a1 : Int32) (a2 : Int32) (a3 : Int32) (r0 : Int32) (h : mm_why S a1 a2 a3 = some (r0, T)) : MetI l yX9_why wu_X9_why rmX9_why D cs ad [.int a1, .int a2, .int a3] S T r0 := by
  refine mo_I (ty := .int) (cc := cX9_why) (maxL := 8) ⟨by decide, rfl⟩ rfl (Nat.le_of_ble_eq_true rfl) ?_
  intro p e s m args below meth c ls cx hl w
  have hx := cx.1
  have hb := cx.2.1
  have hts := cx.2.2.2.1
  have hown := cx.2.2.2.2.1
  have hin : ∀ w ∈ wsX90, w ∈ wu_X9_why := fun _ hq => List.mem_cons_of_mem _ (inlX9 _ hq)
  have hl : lv_has ls 8 [(0, .ref (ad 100)), (1, .int a1), (2, .int a2), (3, .int a3)] := hl
  have J97 : ∀ (k31 : Int32 → Int32 → Int32 → MS → Option (Int32 × MS)) (hk31 : ∀ (x3 : Int32) (x4 : Int32) (x5 : Int32) (S : MS), k31 x3 x4 x5 S = some (r0, T) → mGo p l e rmX9_why s m args below meth c 8 D cs ad (mQI below D cs ad args s r0 T) 31 [(0, .ref (ad 100)), (3, .int x3), (4, .int x4), (5, .int x5)] [] S) (k59 : Int32 → Int32 → Int32 → Int32 → MS → Option (Int32 × MS)) (hk59 : ∀ (x3 : Int32) (x4 : Int32) (x5 : Int32) (x7 : Int32) (S : MS), k59 x3 x4 x5 x7 S = some (r0, T) → mGo p l e rmX9_why s m args below meth c 8 D cs ad (mQI below D cs ad args s r0 T) 59 [(0, .ref (ad 100)), (3, .int x3), (4, .int x4), (5, .int x5), (7, .int x7)] [] S) (x3 : Int32) (x4 : Int32) (x5 : Int32) (x7 : Int32) (S : MS), mm_why_97 k31 k59 x3 x4 x5 x7 S = some (r0, T) → mGo p l e rmX9_why s m args below meth c 8 D cs ad (mQI below D cs ad args s r0 T) 97 [(0, .ref (ad 100)), (3, .int x3), (4, .int x4), (5, .int x5), (7, .int x7)] [] S := by
    intro k31 hk31 k59 hk59 x3 x4 x5 x7 S h H locs ls hl w
    unfold mm_why_97 at h
    obtain ⟨x7_101, ex7_101, h⟩ := lt_e h
    refine lv_iinc (v := x7_101) (lv' := [(7, .int x7_101), (0, .ref (ad 100)), (3, .int x3), (4, .int x4), (5, .int x5)]) hx hb dX9_why_97 hl (k := 4) rfl (by rw [ex7_101]; rfl) (by decide) rfl (fun ls hl => ?_)
    refine lv_goto (tgt := 59) hx hb dX9_why_100 (by decide) ?_
    exact hk59 x3 x4 x5 x7_101 S h _ _ _ (lv_sub hl [1, 2, 3, 4, 0] rfl) w
  have J103 : ∀ (k31 : Int32 → Int32 → Int32 → MS → Option (Int32 × MS)) (hk31 : ∀ (x3 : Int32) (x4 : Int32) (x5 : Int32) (S : MS), k31 x3 x4 x5 S = some (r0, T) → mGo p l e rmX9_why s m args below meth c 8 D cs ad (mQI below D cs ad args s r0 T) 31 [(0, .ref (ad 100)), (3, .int x3), (4, .int x4), (5, .int x5)] [] S) (x3 : Int32) (x4 : Int32) (x7 : Int32) (S : MS), mm_why_103 k31 x3 x4 x7 S = some (r0, T) → mGo p l e rmX9_why s m args below meth c 8 D cs ad (mQI below D cs ad args s r0 T) 103 [(0, .ref (ad 100)), (3, .int x3), (4, .int x4), (7, .int x7)] [] S := by
    intro k31 hk31 x3 x4 x7 S h H locs ls hl w
    unfold mm_why_103 at h
    refine lv_iload hx hb dX9_why_103 (lv_at hl 3 rfl) ?_
    refine lv_aload_n hx hb dX9_why_105 rfl (lv_at hl 0 rfl) ?_
    refine mw_getR cx hin w 7 (by decide) (List.mem_cons_of_mem _ uf_RX9_32) dX9_why_106 ?_
    refine lv_iload hx hb dX9_why_109 (lv_at hl 2 rfl) ?_
    obtain ⟨hq_202, h⟩ := ck_e h
    refine mw_iald cx w 4 7 14 (by decide) hq_202 dX9_why_111 ?_
    refine lv_icmp_ne (tgt := 118) hx hb dX9_why_112 (by decide) (fun q => ?_) (fun q => ?_)
    · have h := br_n q h
      refine lv_aload_n hx hb dX9_why_118 rfl (lv_at hl 0 rfl) ?_
      refine mw_getR cx hin w 8 (by decide) (List.mem_cons_of_mem _ uf_RX9_35) dX9_why_119 ?_
      refine lv_iconst (v := (4 : Int32)) hx hb dX9_why_122 (by decide) ?_
      refine lv_iload hx hb dX9_why_123 (lv_at hl 2 rfl) ?_
      refine lv_imul hx hb dX9_why_125 ?_
      refine lv_iload hx hb dX9_why_126 (lv_at hl 3 rfl) ?_
      refine lv_iadd hx hb dX9_why_128 ?_
      obtain ⟨hq_203, h⟩ := ck_e h
      refine mw_iald cx w 5 8 56 (by decide) hq_203 dX9_why_129 ?_
      obtain ⟨x4_204, ex4_204, h⟩ := lt_e h
      refine top_i ex4_204 ?_
      refine lv_istore (lv' := [(4, .int x4_204), (0, .ref (ad 100)), (3, .int x3), (7, .int x7)]) hx hb dX9_why_130 hl (by decide) rfl (fun ls hl => ?_)
      refine lv_iconst (v := (0 : Int32)) hx hb dX9_why_132 (by decide) ?_
      obtain ⟨x5_205, ex5_205, h⟩ := lt_e h
      refine top_i ex5_205 ?_
      refine lv_istore (lv' := [(5, .int x5_205), (4, .int x4_204), (0, .ref (ad 100)), (3, .int x3), (7, .int x7)]) hx hb dX9_why_133 hl (by decide) rfl (fun ls hl => ?_)
      refine lv_goto (tgt := 31) hx hb dX9_why_135 (by decide) ?_
      exact hk31 x3 x4_204 x5_205 S h _ _ _ (lv_sub hl [2, 3, 1, 0] rfl) w
    · have h := br_p q h
      refine lv_bipush (v := (-5 : Int32)) hx hb dX9_why_115 (by decide) ?_
      exact mw_iret cx (rt_e h) w dX9_why_117
  have L59 : ∀ (k31 : Int32 → Int32 → Int32 → MS → Option (Int32 × MS)) (hk31 : ∀ (x3 : Int32) (x4 : Int32) (x5 : Int32) (S : MS), k31 x3 x4 x5 S = some (r0, T) → mGo p l e rmX9_why s m args below meth c 8 D cs ad (mQI below D cs ad args s r0 T) 31 [(0, .ref (ad 100)), (3, .int x3), (4, .int x4), (5, .int x5)] [] S) (n : Nat) (x3 : Int32) (x4 : Int32) (x5 : Int32) (x7 : Int32) (S : MS), mm_why_59L k31 n x3 x4 x5 x7 S = some (r0, T) → mGo p l e rmX9_why s m args below meth c 8 D cs ad (mQI below D cs ad args s r0 T) 59 [(0, .ref (ad 100)), (3, .int x3), (4, .int x4), (5, .int x5), (7, .int x7)] [] S := by
    intro k31 hk31 n
    induction n with
    | zero =>
      intro x3 x4 x5 x7 S h
      have h : none = some (r0, T) := h
      cases h
    | succ n hk59 =>
      intro x3 x4 x5 x7 S h H locs ls hl w
      have h : mm_why_59 k31 (mm_why_59L k31 n) x3 x4 x5 x7 S = some (r0, T) := h
      generalize mm_why_59L k31 n = k59 at h hk59
      unfold mm_why_59 at h
      refine lv_iload hx hb dX9_why_59 (lv_at hl 4 rfl) ?_
      refine lv_aload_n hx hb dX9_why_61 rfl (lv_at hl 0 rfl) ?_
      refine mw_getR cx hin w 7 (by decide) (List.mem_cons_of_mem _ uf_RX9_32) dX9_why_62 ?_
      refine lv_iload hx hb dX9_why_65 (lv_at hl 2 rfl) ?_
      obtain ⟨hq_306, h⟩ := ck_e h
      refine mw_iald cx w 4 7 14 (by decide) hq_306 dX9_why_67 ?_
      refine lv_icmp_ge (tgt := 103) hx hb dX9_why_68 (by decide) (fun q => ?_) (fun q => ?_)
      · have h := br_p q h
        exact J103 k31 hk31 x3 x4 x7 S h _ _ _ (lv_sub hl [0, 1, 2, 4] rfl) w
      · have h := br_n q h
        refine lv_iload hx hb dX9_why_71 (lv_at hl 3 rfl) ?_
        refine lv_iconst (v := (1 : Int32)) hx hb dX9_why_73 (by decide) ?_
        refine lv_icmp_eq (tgt := 97) hx hb dX9_why_74 (by decide) (fun q => ?_) (fun q => ?_)
        · have h := br_p q h
          exact J97 k31 hk31 k59 hk59 x3 x4 x5 x7 S h _ _ _ (lv_sub hl [0, 1, 2, 3, 4] rfl) w
        · have h := br_n q h
          refine lv_aload_n hx hb dX9_why_77 rfl (lv_at hl 0 rfl) ?_
          refine mw_getR cx hin w 29 (by decide) (List.mem_cons_of_mem _ uf_RX9_99) dX9_why_78 ?_
          refine lv_aload_n hx hb dX9_why_81 rfl (lv_at hl 0 rfl) ?_
          refine mw_getR cx hin w 8 (by decide) (List.mem_cons_of_mem _ uf_RX9_35) dX9_why_82 ?_
          refine lv_iconst (v := (4 : Int32)) hx hb dX9_why_85 (by decide) ?_
          refine lv_iload hx hb dX9_why_86 (lv_at hl 2 rfl) ?_
          refine lv_imul hx hb dX9_why_88 ?_
          refine lv_iload hx hb dX9_why_89 (lv_at hl 4 rfl) ?_
          refine lv_iadd hx hb dX9_why_91 ?_
          obtain ⟨hq_307, h⟩ := ck_e h
          refine mw_iald cx w 5 8 56 (by decide) hq_307 dX9_why_92 ?_
          obtain ⟨hq_308, h⟩ := ck_e h
          refine mw_zald cx w 17 29 14 (by decide) hq_308 dX9_why_93 ?_
          refine lv_if_eq (tgt := 103) hx hb dX9_why_94 (by decide) (fun q => ?_) (fun q => ?_)
          · have h := br_p q h
            exact J103 k31 hk31 x3 x4 x7 S h _ _ _ (lv_sub hl [0, 1, 2, 4] rfl) w
          · have h := br_n q h
            exact J97 k31 hk31 k59 hk59 x3 x4 x5 x7 S h _ _ _ (lv_sub hl [0, 1, 2, 3, 4] rfl) w
  have L31 : ∀ (n : Nat) (x3 : Int32) (x4 : Int32) (x5 : Int32) (S : MS), mm_why_31L  n x3 x4 x5 S = some (r0, T) → mGo p l e rmX9_why s m args below meth c 8 D cs ad (mQI below D cs ad args s r0 T) 31 [(0, .ref (ad 100)), (3, .int x3), (4, .int x4), (5, .int x5)] [] S := by
    intro n
    induction n with
    | zero =>
      intro x3 x4 x5 S h
      have h : none = some (r0, T) := h
      cases h
    | succ n hk31 =>
      intro x3 x4 x5 S h H locs ls hl w
      have h : mm_why_31  (mm_why_31L  n) x3 x4 x5 S = some (r0, T) := h
      generalize mm_why_31L  n = k31 at h hk31
      unfold mm_why_31 at h
      refine lv_aload_n hx hb dX9_why_31 rfl (lv_at hl 0 rfl) ?_
      refine lv_iload hx hb dX9_why_32 (lv_at hl 2 rfl) ?_
      refine lv_iload hx hb dX9_why_34 (lv_at hl 3 rfl) ?_
      refine lv_iload_n hx hb dX9_why_36 rfl (lv_at hl 1 rfl) ?_
      obtain ⟨r_410, S_409, hc_411, h⟩ := bd_e h
      refine mw_calli (As := [.int x4, .int x5, .int x3]) (rest := []) cx (cc_keeper l D cs ad S S_409 x4 x5 x3 r_410 hc_411) (cwV 3 hts (uG uw_X9_keeper ul_RX9_227 ui_X9_keeper us_RX9_X9_keeper un_RX9) rfl rfl rfl ud_X9_keeper ⟨Nat.le_of_ble_eq_true rfl, Nat.le_of_ble_eq_true rfl⟩) w rfl hl.1 rfl (Nat.le_of_ble_eq_true rfl) dX9_why_37 (fun H locs w => ?_)
      refine lv_istore (lv' := [(6, .int r_410), (0, .ref (ad 100)), (3, .int x3), (4, .int x4), (5, .int x5)]) hx hb dX9_why_40 hl (by decide) rfl (fun ls hl => ?_)
      refine lv_iload hx hb dX9_why_42 (lv_at hl 0 rfl) ?_
      refine lv_if_lt (tgt := 56) hx hb dX9_why_44 (by decide) (fun q => ?_) (fun q => ?_)
      · have h := br_p q h
        refine lv_iconst (v := (0 : Int32)) hx hb dX9_why_56 (by decide) ?_
        obtain ⟨x7_412, ex7_412, h⟩ := lt_e h
        refine top_i ex7_412 ?_
        refine lv_istore (lv' := [(7, .int x7_412), (6, .int r_410), (0, .ref (ad 100)), (3, .int x3), (4, .int x4), (5, .int x5)]) hx hb dX9_why_57 hl (by decide) rfl (fun ls hl => ?_)
        exact L59 k31 hk31 4000 x3 x4 x5 x7_412 S_409 h _ _ _ (lv_sub hl [2, 3, 4, 5, 0] rfl) w
      · have h := br_n q h
        refine lv_bipush (v := (100 : Int32)) hx hb dX9_why_47 (by decide) ?_
        refine lv_iload hx hb dX9_why_49 (lv_at hl 3 rfl) ?_
        refine lv_imul hx hb dX9_why_51 ?_
        refine lv_iload hx hb dX9_why_52 (lv_at hl 0 rfl) ?_
        refine lv_iadd hx hb dX9_why_54 ?_
        exact mw_iret cx (rt_e h) w dX9_why_55
  unfold mm_why at h
  refine lv_aload_n hx hb dX9_why_0 rfl (lv_at hl 0 rfl) ?_
  refine lv_iload_n hx hb dX9_why_1 rfl (lv_at hl 1 rfl) ?_
  refine lv_iload_n hx hb dX9_why_2 rfl (lv_at hl 2 rfl) ?_
  refine lv_iload_n hx hb dX9_why_3 rfl (lv_at hl 3 rfl) ?_
  obtain ⟨r_514, S_513, hc_515, h⟩ := bd_e h
  refine mw_calli (As := [.int a1, .int a2, .int a3]) (rest := []) cx (cc_isLayer l D cs ad S S_513 a1 a2 a3 r_514 hc_515) (cwV 3 hts (uG uw_X9_isLayer ul_RX9_234 ui_X9_isLayer us_RX9_X9_isLayer un_RX9) rfl rfl rfl ud_X9_isLayer ⟨Nat.le_of_ble_eq_true rfl, Nat.le_of_ble_eq_true rfl⟩) w rfl hl.1 rfl (Nat.le_of_ble_eq_true rfl) dX9_why_4 (fun H locs w => ?_)
  refine lv_if_ne (tgt := 12) hx hb dX9_why_7 (by decide) (fun q => ?_) (fun q => ?_)
  · have h := br_n q h
    refine lv_aload_n hx hb dX9_why_12 rfl (lv_at hl 0 rfl) ?_
    obtain ⟨r_517, S_516, hc_518, h⟩ := bd_e h
    refine mw_callv (As := []) (rest := []) cx (cc_asItIs l D cs ad S_513 S_516  r_517 hc_518) (cwV 0 hts (uG uw_X9_asItIs ul_RX9_211 ui_X9_asItIs us_RX9_X9_asItIs un_RX9) rfl rfl rfl ud_X9_asItIs ⟨Nat.le_of_ble_eq_true rfl, Nat.le_of_ble_eq_true rfl⟩) w rfl hl.1 rfl (Nat.le_of_ble_eq_true rfl) dX9_why_13 (fun H locs w => ?_)
    refine lv_aload_n hx hb dX9_why_16 rfl (lv_at hl 0 rfl) ?_
    refine lv_aload_n hx hb dX9_why_17 rfl (lv_at hl 0 rfl) ?_
    refine mw_getI cx hin w 0 (by decide) (List.mem_cons_of_mem _ uf_RX9_7) dX9_why_18 ?_
    refine lv_iload_n hx hb dX9_why_21 rfl (lv_at hl 3 rfl) ?_
    obtain ⟨r_520, S_519, hc_521, h⟩ := bd_e h
    refine mw_callv (As := [.int (S_516.1 0), .int a3]) (rest := []) cx (cc_findHeard l D cs ad S_516 S_519 (S_516.1 0) a3 r_520 hc_521) (cwV 2 hts (uG uw_X9_findHeard ul_RX9_230 ui_X9_findHeard us_RX9_X9_findHeard un_RX9) rfl rfl rfl ud_X9_findHeard ⟨Nat.le_of_ble_eq_true rfl, Nat.le_of_ble_eq_true rfl⟩) w rfl hl.1 rfl (Nat.le_of_ble_eq_true rfl) dX9_why_22 (fun H locs w => ?_)
    refine lv_iload_n hx hb dX9_why_25 rfl (lv_at hl 1 rfl) ?_
    refine lv_istore (lv' := [(4, .int a1), (0, .ref (ad 100)), (1, .int a1), (2, .int a2), (3, .int a3)]) hx hb dX9_why_26 hl (by decide) rfl (fun ls hl => ?_)
    refine lv_iload_n hx hb dX9_why_28 rfl (lv_at hl 3 rfl) ?_
    refine lv_istore (lv' := [(5, .int a2), (4, .int a1), (0, .ref (ad 100)), (1, .int a1), (2, .int a2), (3, .int a3)]) hx hb dX9_why_29 hl (by decide) rfl (fun ls hl => ?_)
    exact L31  4000 a3 a1 a2 S_519 h _ _ _ (lv_sub hl [2, 5, 1, 0] rfl) w
  · have h := br_p q h
    refine lv_iconst (v := (-1 : Int32)) hx hb dX9_why_10 (by decide) ?_
    exact mw_iret cx (rt_e h) w dX9_why_11
def mm_least_21  (S : MS) : Option (Int32 × MS) := some ((-1 : Int32), S)
def mm_least_125 (k37 : Int32 → Int32 → Int32 → Int32 → Int32 → Int32 → Int32 → MS → Option (Int32 × MS)) (k52 : Int32 → Int32 → Int32 → Int32 → Int32 → Int32 → Int32 → Int32 → MS → Option (Int32 × MS)) (x1 : Int32) (x2 : Int32) (x3 : Int32) (x4 : Int32) (x5 : Int32) (x6 : Int32) (x7 : Int32) (x8 : Int32) (S : MS) : Option (Int32 × MS) := lt_ (x8 + (1 : Int32)) (fun x8_201 => k52 x1 x2 x3 x4 x5 x6 x7 x8_201 S)
def mm_least_123 (k37 : Int32 → Int32 → Int32 → Int32 → Int32 → Int32 → Int32 → MS → Option (Int32 × MS)) (k52 : Int32 → Int32 → Int32 → Int32 → Int32 → Int32 → Int32 → Int32 → MS → Option (Int32 × MS)) (x1 : Int32) (x2 : Int32) (x3 : Int32) (x4 : Int32) (x6 : Int32) (x7 : Int32) (x8 : Int32) (t0 : Int32) (S : MS) : Option (Int32 × MS) := mm_least_125 k37 k52 x1 x2 x3 x4 t0 x6 x7 x8 S
def mm_least_52 (k37 : Int32 → Int32 → Int32 → Int32 → Int32 → Int32 → Int32 → MS → Option (Int32 × MS)) (k52 : Int32 → Int32 → Int32 → Int32 → Int32 → Int32 → Int32 → Int32 → MS → Option (Int32 × MS)) (x1 : Int32) (x2 : Int32) (x3 : Int32) (x4 : Int32) (x5 : Int32) (x6 : Int32) (x7 : Int32) (x8 : Int32) (S : MS) : Option (Int32 × MS) := if (1024 : Int32) ≤ x8 then (lt_ (x7 + (1 : Int32)) (fun x7_402 => k37 x1 x2 x3 x4 x5 x6 x7_402 S)) else (bd (mm_ones S x8) (fun r_404 S_403 => if r_404 = x7 then (if (x8 &&& (S_403.1 1)) = (0 : Int32) then (lt_ (mP S_403 24 ((S_403.1 1) ||| x8)) (fun S_406 => bd (mm_isHeard S_406 x1 x2 x3) (fun r_408 S_407 => if r_408 = (0 : Int32) then (mm_least_125 k37 k52 x1 x2 x3 x4 x5 x6 x7 x8 S_407) else (lt_ (x6 + (1 : Int32)) (fun x6_410 => if (0 : Int32) ≤ x5 then (mm_least_123 k37 k52 x1 x2 x3 x4 x6_410 x7 x8 x5 S_407) else (mm_least_123 k37 k52 x1 x2 x3 x4 x6_410 x7 x8 x8 S_407)))))) else (mm_least_125 k37 k52 x1 x2 x3 x4 x5 x6 x7 x8 S_403)) else (mm_least_125 k37 k52 x1 x2 x3 x4 x5 x6 x7 x8 S_403)))
def mm_least_52L (k37 : Int32 → Int32 → Int32 → Int32 → Int32 → Int32 → Int32 → MS → Option (Int32 × MS)) : Nat → Int32 → Int32 → Int32 → Int32 → Int32 → Int32 → Int32 → Int32 → MS → Option (Int32 × MS)
  | 0, _, _, _, _, _, _, _, _, _ => none
  | n + 1, x1, x2, x3, x4, x5, x6, x7, x8, S => mm_least_52 k37 (mm_least_52L k37 n) x1 x2 x3 x4 x5 x6 x7 x8 S
def mm_least_137 (x4 : Int32) (x5 : Int32) (x6 : Int32) (S : MS) : Option (Int32 × MS) := if x4 = (0 : Int32) then (some (x5, S)) else (some (x6, S))
def mm_least_37 (k37 : Int32 → Int32 → Int32 → Int32 → Int32 → Int32 → Int32 → MS → Option (Int32 × MS)) (x1 : Int32) (x2 : Int32) (x3 : Int32) (x4 : Int32) (x5 : Int32) (x6 : Int32) (x7 : Int32) (S : MS) : Option (Int32 × MS) := if (11 : Int32) ≤ x7 then (mm_least_137  x4 x5 x6 S) else (if (0 : Int32) ≤ x5 then (mm_least_137  x4 x5 x6 S) else (lt_ ((0 : Int32)) (fun x8_611 => mm_least_52L k37 4000 x1 x2 x3 x4 x5 x6 x7 x8_611 S)))
def mm_least_37L : Nat → Int32 → Int32 → Int32 → Int32 → Int32 → Int32 → Int32 → MS → Option (Int32 × MS)
  | 0, _, _, _, _, _, _, _, _ => none
  | n + 1, x1, x2, x3, x4, x5, x6, x7, S => mm_least_37  (mm_least_37L  n) x1 x2 x3 x4 x5 x6 x7 S
def mm_least (S : MS) (a1 : Int32) (a2 : Int32) (a3 : Int32) (a4 : Int32) : Option (Int32 × MS) := bd (mm_isLayer S a1 a2 a3) (fun r_713 S_712 => if r_713 = (0 : Int32) then (mm_least_21   S_712) else (bd (mm_in S_712 a4 (0 : Int32) (1 : Int32)) (fun r_716 S_715 => if r_716 = (0 : Int32) then (mm_least_21   S_715) else (bd (mm_asItIs S_715 ) (fun _ S_718 => lt_ ((-5 : Int32)) (fun x5_721 => lt_ ((0 : Int32)) (fun x6_722 => lt_ ((0 : Int32)) (fun x7_723 => mm_least_37L  4000 a1 a2 a3 a4 x5_721 x6_722 x7_723 S_718))))))))
abbrev wu_X9_least : List Cond := .code yX9_least cX9_least 9 (some .int) :: wsL_law
theorem ud_X9_least : yX9_least.cls = RX9 ∧ yX9_least.cls ≠ "java/lang/invoke/MethodHandle" ∧ yX9_least.cls ≠ "java/lang/invoke/VarHandle" ∧ (parseMethodDescriptor yX9_least.desc).map (fun d => d.parameters.length) = some 4 := by decide +kernel
abbrev rmX9_least : Room := { frames := 8, cells := 0, slots := 0, locals := 192 }
set_option maxHeartbeats 4000000 in
set_option maxRecDepth 100000 in
theorem cc_least (l : Launch) (D : va_G) (cs : Nat → ClassId) (ad : Nat → Nat) (S T : MS) (a1 : Int32) (a2 : Int32) (a3 : Int32) (a4 : Int32) (r0 : Int32) (h : mm_least S a1 a2 a3 a4 = some (r0, T)) : MetI l yX9_least wu_X9_least rmX9_least D cs ad [.int a1, .int a2, .int a3, .int a4] S T r0 := by
  refine mo_I (ty := .int) (cc := cX9_least) (maxL := 9) ⟨by decide, rfl⟩ rfl (Nat.le_of_ble_eq_true rfl) ?_
  intro p e s m args below meth c ls cx hl w
  have hx := cx.1
  have hb := cx.2.1
  have hts := cx.2.2.2.1
  have hown := cx.2.2.2.2.1
  have hin : ∀ w ∈ wsX90, w ∈ wu_X9_least := fun _ hq => List.mem_cons_of_mem _ (inlX9 _ hq)
  have hl : lv_has ls 9 [(0, .ref (ad 100)), (1, .int a1), (2, .int a2), (3, .int a3), (4, .int a4)] := hl
  have J21 : ∀  (S : MS), mm_least_21   S = some (r0, T) → mGo p l e rmX9_least s m args below meth c 9 D cs ad (mQI below D cs ad args s r0 T) 21 [] [] S := by
    intro  S h H locs ls hl w
    unfold mm_least_21 at h
    refine lv_iconst (v := (-1 : Int32)) hx hb dX9_least_21 (by decide) ?_
    exact mw_iret cx (rt_e h) w dX9_least_22
  have J125 : ∀ (k37 : Int32 → Int32 → Int32 → Int32 → Int32 → Int32 → Int32 → MS → Option (Int32 × MS)) (hk37 : ∀ (x1 : Int32) (x2 : Int32) (x3 : Int32) (x4 : Int32) (x5 : Int32) (x6 : Int32) (x7 : Int32) (S : MS), k37 x1 x2 x3 x4 x5 x6 x7 S = some (r0, T) → mGo p l e rmX9_least s m args below meth c 9 D cs ad (mQI below D cs ad args s r0 T) 37 [(0, .ref (ad 100)), (1, .int x1), (2, .int x2), (3, .int x3), (4, .int x4), (5, .int x5), (6, .int x6), (7, .int x7)] [] S) (k52 : Int32 → Int32 → Int32 → Int32 → Int32 → Int32 → Int32 → Int32 → MS → Option (Int32 × MS)) (hk52 : ∀ (x1 : Int32) (x2 : Int32) (x3 : Int32) (x4 : Int32) (x5 : Int32) (x6 : Int32) (x7 : Int32) (x8 : Int32) (S : MS), k52 x1 x2 x3 x4 x5 x6 x7 x8 S = some (r0, T) → mGo p l e rmX9_least s m args below meth c 9 D cs ad (mQI below D cs ad args s r0 T) 52 [(0, .ref (ad 100)), (1, .int x1), (2, .int x2), (3, .int x3), (4, .int x4), (5, .int x5), (6, .int x6), (7, .int x7), (8, .int x8)] [] S) (x1 : Int32) (x2 : Int32) (x3 : Int32) (x4 : Int32) (x5 : Int32) (x6 : Int32) (x7 : Int32) (x8 : Int32) (S : MS), mm_least_125 k37 k52 x1 x2 x3 x4 x5 x6 x7 x8 S = some (r0, T) → mGo p l e rmX9_least s m args below meth c 9 D cs ad (mQI below D cs ad args s r0 T) 125 [(0, .ref (ad 100)), (1, .int x1), (2, .int x2), (3, .int x3), (4, .int x4), (5, .int x5), (6, .int x6), (7, .int x7), (8, .int x8)] [] S := by
    intro k37 hk37 k52 hk52 x1 x2 x3 x4 x5 x6 x7 x8 S h H locs ls hl w
    unfold mm_least_125 at h
    obtain ⟨x8_201, ex8_201, h⟩ := lt_e h
    refine lv_iinc (v := x8_201) (lv' := [(8, .int x8_201), (0, .ref (ad 100)), (1, .int x1), (2, .int x2), (3, .int x3), (4, .int x4), (5, .int x5), (6, .int x6), (7, .int x7)]) hx hb dX9_least_125 hl (k := 8) rfl (by rw [ex8_201]; rfl) (by decide) rfl (fun ls hl => ?_)
    refine lv_goto (tgt := 52) hx hb dX9_least_128 (by decide) ?_
    exact hk52 x1 x2 x3 x4 x5 x6 x7 x8_201 S h _ _ _ (lv_sub hl [1, 2, 3, 4, 5, 6, 7, 8, 0] rfl) w
  have J123 : ∀ (k37 : Int32 → Int32 → Int32 → Int32 → Int32 → Int32 → Int32 → MS → Option (Int32 × MS)) (hk37 : ∀ (x1 : Int32) (x2 : Int32) (x3 : Int32) (x4 : Int32) (x5 : Int32) (x6 : Int32) (x7 : Int32) (S : MS), k37 x1 x2 x3 x4 x5 x6 x7 S = some (r0, T) → mGo p l e rmX9_least s m args below meth c 9 D cs ad (mQI below D cs ad args s r0 T) 37 [(0, .ref (ad 100)), (1, .int x1), (2, .int x2), (3, .int x3), (4, .int x4), (5, .int x5), (6, .int x6), (7, .int x7)] [] S) (k52 : Int32 → Int32 → Int32 → Int32 → Int32 → Int32 → Int32 → Int32 → MS → Option (Int32 × MS)) (hk52 : ∀ (x1 : Int32) (x2 : Int32) (x3 : Int32) (x4 : Int32) (x5 : Int32) (x6 : Int32) (x7 : Int32) (x8 : Int32) (S : MS), k52 x1 x2 x3 x4 x5 x6 x7 x8 S = some (r0, T) → mGo p l e rmX9_least s m args below meth c 9 D cs ad (mQI below D cs ad args s r0 T) 52 [(0, .ref (ad 100)), (1, .int x1), (2, .int x2), (3, .int x3), (4, .int x4), (5, .int x5), (6, .int x6), (7, .int x7), (8, .int x8)] [] S) (x1 : Int32) (x2 : Int32) (x3 : Int32) (x4 : Int32) (x6 : Int32) (x7 : Int32) (x8 : Int32) (t0 : Int32) (S : MS), mm_least_123 k37 k52 x1 x2 x3 x4 x6 x7 x8 t0 S = some (r0, T) → mGo p l e rmX9_least s m args below meth c 9 D cs ad (mQI below D cs ad args s r0 T) 123 [(0, .ref (ad 100)), (1, .int x1), (2, .int x2), (3, .int x3), (4, .int x4), (6, .int x6), (7, .int x7), (8, .int x8)] [.int t0] S := by
    intro k37 hk37 k52 hk52 x1 x2 x3 x4 x6 x7 x8 t0 S h H locs ls hl w
    unfold mm_least_123 at h
    refine lv_istore (lv' := [(5, .int t0), (0, .ref (ad 100)), (1, .int x1), (2, .int x2), (3, .int x3), (4, .int x4), (6, .int x6), (7, .int x7), (8, .int x8)]) hx hb dX9_least_123 hl (by decide) rfl (fun ls hl => ?_)
    exact J125 k37 hk37 k52 hk52 x1 x2 x3 x4 t0 x6 x7 x8 S h _ _ _ (lv_sub hl [1, 2, 3, 4, 5, 0, 6, 7, 8] rfl) w
  have L52 : ∀ (k37 : Int32 → Int32 → Int32 → Int32 → Int32 → Int32 → Int32 → MS → Option (Int32 × MS)) (hk37 : ∀ (x1 : Int32) (x2 : Int32) (x3 : Int32) (x4 : Int32) (x5 : Int32) (x6 : Int32) (x7 : Int32) (S : MS), k37 x1 x2 x3 x4 x5 x6 x7 S = some (r0, T) → mGo p l e rmX9_least s m args below meth c 9 D cs ad (mQI below D cs ad args s r0 T) 37 [(0, .ref (ad 100)), (1, .int x1), (2, .int x2), (3, .int x3), (4, .int x4), (5, .int x5), (6, .int x6), (7, .int x7)] [] S) (n : Nat) (x1 : Int32) (x2 : Int32) (x3 : Int32) (x4 : Int32) (x5 : Int32) (x6 : Int32) (x7 : Int32) (x8 : Int32) (S : MS), mm_least_52L k37 n x1 x2 x3 x4 x5 x6 x7 x8 S = some (r0, T) → mGo p l e rmX9_least s m args below meth c 9 D cs ad (mQI below D cs ad args s r0 T) 52 [(0, .ref (ad 100)), (1, .int x1), (2, .int x2), (3, .int x3), (4, .int x4), (5, .int x5), (6, .int x6), (7, .int x7), (8, .int x8)] [] S := by
    intro k37 hk37 n
    induction n with
    | zero =>
      intro x1 x2 x3 x4 x5 x6 x7 x8 S h
      have h : none = some (r0, T) := h
      cases h
    | succ n hk52 =>
      intro x1 x2 x3 x4 x5 x6 x7 x8 S h H locs ls hl w
      have h : mm_least_52 k37 (mm_least_52L k37 n) x1 x2 x3 x4 x5 x6 x7 x8 S = some (r0, T) := h
      generalize mm_least_52L k37 n = k52 at h hk52
      unfold mm_least_52 at h
      refine lv_iload hx hb dX9_least_52 (lv_at hl 8 rfl) ?_
      refine lv_sipush (v := (1024 : Int32)) hx hb dX9_least_54 (by decide) ?_
      refine lv_icmp_ge (tgt := 131) hx hb dX9_least_57 (by decide) (fun q => ?_) (fun q => ?_)
      · have h := br_p q h
        obtain ⟨x7_402, ex7_402, h⟩ := lt_e h
        refine lv_iinc (v := x7_402) (lv' := [(7, .int x7_402), (0, .ref (ad 100)), (1, .int x1), (2, .int x2), (3, .int x3), (4, .int x4), (5, .int x5), (6, .int x6), (8, .int x8)]) hx hb dX9_least_131 hl (k := 7) rfl (by rw [ex7_402]; rfl) (by decide) rfl (fun ls hl => ?_)
        refine lv_goto (tgt := 37) hx hb dX9_least_134 (by decide) ?_
        exact hk37 x1 x2 x3 x4 x5 x6 x7_402 S h _ _ _ (lv_sub hl [1, 2, 3, 4, 5, 6, 7, 0] rfl) w
      · have h := br_n q h
        refine lv_aload_n hx hb dX9_least_60 rfl (lv_at hl 0 rfl) ?_
        refine lv_iload hx hb dX9_least_61 (lv_at hl 8 rfl) ?_
        obtain ⟨r_404, S_403, hc_405, h⟩ := bd_e h
        refine mw_calli (As := [.int x8]) (rest := []) cx (cc_ones l D cs ad S S_403 x8 r_404 hc_405) (cwV 1 hts (uG uw_X9_ones ul_RX9_240 ui_X9_ones us_RX9_X9_ones un_RX9) rfl rfl rfl ud_X9_ones ⟨Nat.le_of_ble_eq_true rfl, Nat.le_of_ble_eq_true rfl⟩) w rfl hl.1 rfl (Nat.le_of_ble_eq_true rfl) dX9_least_63 (fun H locs w => ?_)
        refine lv_iload hx hb dX9_least_66 (lv_at hl 7 rfl) ?_
        refine lv_icmp_ne (tgt := 125) hx hb dX9_least_68 (by decide) (fun q => ?_) (fun q => ?_)
        · have h := br_n q h
          exact J125 k37 hk37 k52 hk52 x1 x2 x3 x4 x5 x6 x7 x8 S_403 h _ _ _ (lv_sub hl [0, 1, 2, 3, 4, 5, 6, 7, 8] rfl) w
        · have h := br_p q h
          refine lv_iload hx hb dX9_least_71 (lv_at hl 8 rfl) ?_
          refine lv_aload_n hx hb dX9_least_73 rfl (lv_at hl 0 rfl) ?_
          refine mw_getI cx hin w 1 (by decide) (List.mem_cons_of_mem _ uf_RX9_13) dX9_least_74 ?_
          refine lv_iand hx hb dX9_least_77 ?_
          refine lv_if_eq (tgt := 84) hx hb dX9_least_78 (by decide) (fun q => ?_) (fun q => ?_)
          · have h := br_p q h
            refine lv_aload_n hx hb dX9_least_84 rfl (lv_at hl 0 rfl) ?_
            refine lv_aload_n hx hb dX9_least_85 rfl (lv_at hl 0 rfl) ?_
            refine mw_getI cx hin w 1 (by decide) (List.mem_cons_of_mem _ uf_RX9_13) dX9_least_86 ?_
            refine lv_iload hx hb dX9_least_89 (lv_at hl 8 rfl) ?_
            refine lv_ior hx hb dX9_least_91 ?_
            obtain ⟨S_406, eS_406, h⟩ := lt_e h
            refine mw_putI cx hin w 24 eS_406 (by decide +kernel) (List.mem_cons_of_mem _ uf_RX9_83) dX9_least_92 (fun H locs w => ?_)
            refine lv_aload_n hx hb dX9_least_95 rfl (lv_at hl 0 rfl) ?_
            refine lv_iload_n hx hb dX9_least_96 rfl (lv_at hl 1 rfl) ?_
            refine lv_iload_n hx hb dX9_least_97 rfl (lv_at hl 2 rfl) ?_
            refine lv_iload_n hx hb dX9_least_98 rfl (lv_at hl 3 rfl) ?_
            obtain ⟨r_408, S_407, hc_409, h⟩ := bd_e h
            refine mw_calli (As := [.int x1, .int x2, .int x3]) (rest := []) cx (cc_isHeard l D cs ad S_406 S_407 x1 x2 x3 r_408 hc_409) (cwV 3 hts (uG uw_X9_isHeard ul_RX9_237 ui_X9_isHeard us_RX9_X9_isHeard un_RX9) rfl rfl rfl ud_X9_isHeard ⟨Nat.le_of_ble_eq_true rfl, Nat.le_of_ble_eq_true rfl⟩) w rfl hl.1 rfl (Nat.le_of_ble_eq_true rfl) dX9_least_99 (fun H locs w => ?_)
            refine lv_if_ne (tgt := 108) hx hb dX9_least_102 (by decide) (fun q => ?_) (fun q => ?_)
            · have h := br_n q h
              obtain ⟨x6_410, ex6_410, h⟩ := lt_e h
              refine lv_iinc (v := x6_410) (lv' := [(6, .int x6_410), (0, .ref (ad 100)), (1, .int x1), (2, .int x2), (3, .int x3), (4, .int x4), (5, .int x5), (7, .int x7), (8, .int x8)]) hx hb dX9_least_108 hl (k := 6) rfl (by rw [ex6_410]; rfl) (by decide) rfl (fun ls hl => ?_)
              refine lv_iload hx hb dX9_least_111 (lv_at hl 6 rfl) ?_
              refine lv_if_ge (tgt := 121) hx hb dX9_least_113 (by decide) (fun q => ?_) (fun q => ?_)
              · have h := br_p q h
                refine lv_iload hx hb dX9_least_121 (lv_at hl 6 rfl) ?_
                exact J123 k37 hk37 k52 hk52 x1 x2 x3 x4 x6_410 x7 x8 x5 S_407 h _ _ _ (lv_sub hl [1, 2, 3, 4, 5, 0, 7, 8] rfl) w
              · have h := br_n q h
                refine lv_iload hx hb dX9_least_116 (lv_at hl 8 rfl) ?_
                refine lv_goto (tgt := 123) hx hb dX9_least_118 (by decide) ?_
                exact J123 k37 hk37 k52 hk52 x1 x2 x3 x4 x6_410 x7 x8 x8 S_407 h _ _ _ (lv_sub hl [1, 2, 3, 4, 5, 0, 7, 8] rfl) w
            · have h := br_p q h
              refine lv_goto (tgt := 125) hx hb dX9_least_105 (by decide) ?_
              exact J125 k37 hk37 k52 hk52 x1 x2 x3 x4 x5 x6 x7 x8 S_407 h _ _ _ (lv_sub hl [0, 1, 2, 3, 4, 5, 6, 7, 8] rfl) w
          · have h := br_n q h
            refine lv_goto (tgt := 125) hx hb dX9_least_81 (by decide) ?_
            exact J125 k37 hk37 k52 hk52 x1 x2 x3 x4 x5 x6 x7 x8 S_403 h _ _ _ (lv_sub hl [0, 1, 2, 3, 4, 5, 6, 7, 8] rfl) w
  have J137 : ∀ (x4 : Int32) (x5 : Int32) (x6 : Int32) (S : MS), mm_least_137  x4 x5 x6 S = some (r0, T) → mGo p l e rmX9_least s m args below meth c 9 D cs ad (mQI below D cs ad args s r0 T) 137 [(4, .int x4), (5, .int x5), (6, .int x6)] [] S := by
    intro x4 x5 x6 S h H locs ls hl w
    unfold mm_least_137 at h
    refine lv_iload hx hb dX9_least_137 (lv_at hl 0 rfl) ?_
    refine lv_if_ne (tgt := 147) hx hb dX9_least_139 (by decide) (fun q => ?_) (fun q => ?_)
    · have h := br_n q h
      refine lv_iload hx hb dX9_least_147 (lv_at hl 2 rfl) ?_
      exact mw_iret cx (rt_e h) w dX9_least_149
    · have h := br_p q h
      refine lv_iload hx hb dX9_least_142 (lv_at hl 1 rfl) ?_
      refine lv_goto (tgt := 149) hx hb dX9_least_144 (by decide) ?_
      exact mw_iret cx (rt_e h) w dX9_least_149
  have L37 : ∀ (n : Nat) (x1 : Int32) (x2 : Int32) (x3 : Int32) (x4 : Int32) (x5 : Int32) (x6 : Int32) (x7 : Int32) (S : MS), mm_least_37L  n x1 x2 x3 x4 x5 x6 x7 S = some (r0, T) → mGo p l e rmX9_least s m args below meth c 9 D cs ad (mQI below D cs ad args s r0 T) 37 [(0, .ref (ad 100)), (1, .int x1), (2, .int x2), (3, .int x3), (4, .int x4), (5, .int x5), (6, .int x6), (7, .int x7)] [] S := by
    intro n
    induction n with
    | zero =>
      intro x1 x2 x3 x4 x5 x6 x7 S h
      have h : none = some (r0, T) := h
      cases h
    | succ n hk37 =>
      intro x1 x2 x3 x4 x5 x6 x7 S h H locs ls hl w
      have h : mm_least_37  (mm_least_37L  n) x1 x2 x3 x4 x5 x6 x7 S = some (r0, T) := h
      generalize mm_least_37L  n = k37 at h hk37
      unfold mm_least_37 at h
      refine lv_iload hx hb dX9_least_37 (lv_at hl 7 rfl) ?_
      refine lv_bipush (v := (11 : Int32)) hx hb dX9_least_39 (by decide) ?_
      refine lv_icmp_ge (tgt := 137) hx hb dX9_least_41 (by decide) (fun q => ?_) (fun q => ?_)
      · have h := br_p q h
        exact J137  x4 x5 x6 S h _ _ _ (lv_sub hl [4, 5, 6] rfl) w
      · have h := br_n q h
        refine lv_iload hx hb dX9_least_44 (lv_at hl 5 rfl) ?_
        refine lv_if_ge (tgt := 137) hx hb dX9_least_46 (by decide) (fun q => ?_) (fun q => ?_)
        · have h := br_p q h
          exact J137  x4 x5 x6 S h _ _ _ (lv_sub hl [4, 5, 6] rfl) w
        · have h := br_n q h
          refine lv_iconst (v := (0 : Int32)) hx hb dX9_least_49 (by decide) ?_
          obtain ⟨x8_611, ex8_611, h⟩ := lt_e h
          refine top_i ex8_611 ?_
          refine lv_istore (lv' := [(8, .int x8_611), (0, .ref (ad 100)), (1, .int x1), (2, .int x2), (3, .int x3), (4, .int x4), (5, .int x5), (6, .int x6), (7, .int x7)]) hx hb dX9_least_50 hl (by decide) rfl (fun ls hl => ?_)
          exact L52 k37 hk37 4000 x1 x2 x3 x4 x5 x6 x7 x8_611 S h _ _ _ (lv_sub hl [1, 2, 3, 4, 5, 6, 7, 8, 0] rfl) w
  unfold mm_least at h
  refine lv_aload_n hx hb dX9_least_0 rfl (lv_at hl 0 rfl) ?_
  refine lv_iload_n hx hb dX9_least_1 rfl (lv_at hl 1 rfl) ?_
  refine lv_iload_n hx hb dX9_least_2 rfl (lv_at hl 2 rfl) ?_
  refine lv_iload_n hx hb dX9_least_3 rfl (lv_at hl 3 rfl) ?_
  obtain ⟨r_713, S_712, hc_714, h⟩ := bd_e h
  refine mw_calli (As := [.int a1, .int a2, .int a3]) (rest := []) cx (cc_isLayer l D cs ad S S_712 a1 a2 a3 r_713 hc_714) (cwV 3 hts (uG uw_X9_isLayer ul_RX9_234 ui_X9_isLayer us_RX9_X9_isLayer un_RX9) rfl rfl rfl ud_X9_isLayer ⟨Nat.le_of_ble_eq_true rfl, Nat.le_of_ble_eq_true rfl⟩) w rfl hl.1 rfl (Nat.le_of_ble_eq_true rfl) dX9_least_4 (fun H locs w => ?_)
  refine lv_if_eq (tgt := 21) hx hb dX9_least_7 (by decide) (fun q => ?_) (fun q => ?_)
  · have h := br_p q h
    exact J21   S_712 h _ _ _ (lv_sub hl [] rfl) w
  · have h := br_n q h
    refine lv_aload_n hx hb dX9_least_10 rfl (lv_at hl 0 rfl) ?_
    refine lv_iload hx hb dX9_least_11 (lv_at hl 4 rfl) ?_
    refine lv_iconst (v := (0 : Int32)) hx hb dX9_least_13 (by decide) ?_
    refine lv_iconst (v := (1 : Int32)) hx hb dX9_least_14 (by decide) ?_
    obtain ⟨r_716, S_715, hc_717, h⟩ := bd_e h
    refine mw_calli (As := [.int a4, .int (0 : Int32), .int (1 : Int32)]) (rest := []) cx (cc_in l D cs ad S_712 S_715 a4 (0 : Int32) (1 : Int32) r_716 hc_717) (cwV 3 hts (uG uw_X9_in ul_RX9_133 ui_X9_in us_RX9_X9_in un_RX9) rfl rfl rfl ud_X9_in ⟨Nat.le_of_ble_eq_true rfl, Nat.le_of_ble_eq_true rfl⟩) w rfl hl.1 rfl (Nat.le_of_ble_eq_true rfl) dX9_least_15 (fun H locs w => ?_)
    refine lv_if_ne (tgt := 23) hx hb dX9_least_18 (by decide) (fun q => ?_) (fun q => ?_)
    · have h := br_n q h
      refine lv_aload_n hx hb dX9_least_23 rfl (lv_at hl 0 rfl) ?_
      obtain ⟨r_719, S_718, hc_720, h⟩ := bd_e h
      refine mw_callv (As := []) (rest := []) cx (cc_asItIs l D cs ad S_715 S_718  r_719 hc_720) (cwV 0 hts (uG uw_X9_asItIs ul_RX9_211 ui_X9_asItIs us_RX9_X9_asItIs un_RX9) rfl rfl rfl ud_X9_asItIs ⟨Nat.le_of_ble_eq_true rfl, Nat.le_of_ble_eq_true rfl⟩) w rfl hl.1 rfl (Nat.le_of_ble_eq_true rfl) dX9_least_24 (fun H locs w => ?_)
      refine lv_bipush (v := (-5 : Int32)) hx hb dX9_least_27 (by decide) ?_
      obtain ⟨x5_721, ex5_721, h⟩ := lt_e h
      refine top_i ex5_721 ?_
      refine lv_istore (lv' := [(5, .int x5_721), (0, .ref (ad 100)), (1, .int a1), (2, .int a2), (3, .int a3), (4, .int a4)]) hx hb dX9_least_29 hl (by decide) rfl (fun ls hl => ?_)
      refine lv_iconst (v := (0 : Int32)) hx hb dX9_least_31 (by decide) ?_
      obtain ⟨x6_722, ex6_722, h⟩ := lt_e h
      refine top_i ex6_722 ?_
      refine lv_istore (lv' := [(6, .int x6_722), (5, .int x5_721), (0, .ref (ad 100)), (1, .int a1), (2, .int a2), (3, .int a3), (4, .int a4)]) hx hb dX9_least_32 hl (by decide) rfl (fun ls hl => ?_)
      refine lv_iconst (v := (0 : Int32)) hx hb dX9_least_34 (by decide) ?_
      obtain ⟨x7_723, ex7_723, h⟩ := lt_e h
      refine top_i ex7_723 ?_
      refine lv_istore (lv' := [(7, .int x7_723), (6, .int x6_722), (5, .int x5_721), (0, .ref (ad 100)), (1, .int a1), (2, .int a2), (3, .int a3), (4, .int a4)]) hx hb dX9_least_35 hl (by decide) rfl (fun ls hl => ?_)
      exact L37  4000 a1 a2 a3 a4 x5_721 x6_722 x7_723 S_718 h _ _ _ (lv_sub hl [3, 4, 5, 6, 7, 2, 1, 0] rfl) w
    · have h := br_p q h
      exact J21   S_715 h _ _ _ (lv_sub hl [] rfl) w
def mm_ends_16  (S : MS) : Option (Int32 × MS) := some ((-1 : Int32), S)
def mm_ends_53 (k27 : Int32 → Int32 → Int32 → Int32 → MS → Option (Int32 × MS)) (x1 : Int32) (x2 : Int32) (x4 : Int32) (t0 : Int32) (t1 : Int32) (S : MS) : Option (Int32 × MS) := lt_ ((t0 ||| t1)) (fun x3_201 => lt_ (x4 + (1 : Int32)) (fun x4_202 => k27 x1 x2 x3_201 x4_202 S))
def mm_ends_27 (k27 : Int32 → Int32 → Int32 → Int32 → MS → Option (Int32 × MS)) (x1 : Int32) (x2 : Int32) (x3 : Int32) (x4 : Int32) (S : MS) : Option (Int32 × MS) := if (4 : Int32) ≤ x4 then (some (x3, S)) else (bd (mm_isHeard S x1 x4 x2) (fun r_304 S_303 => if r_304 = (0 : Int32) then (mm_ends_53 k27 x1 x2 x4 x3 (0 : Int32) S_303) else (mm_ends_53 k27 x1 x2 x4 x3 ((1 : Int32) <<< (x4 &&& 31)) S_303)))
def mm_ends_27L : Nat → Int32 → Int32 → Int32 → Int32 → MS → Option (Int32 × MS)
  | 0, _, _, _, _, _ => none
  | n + 1, x1, x2, x3, x4, S => mm_ends_27  (mm_ends_27L  n) x1 x2 x3 x4 S
def mm_ends (S : MS) (a1 : Int32) (a2 : Int32) : Option (Int32 × MS) := bd (mm_isWord S a1) (fun r_407 S_406 => if r_407 = (0 : Int32) then (mm_ends_16   S_406) else (bd (mm_isLand S_406 a2) (fun r_410 S_409 => if r_410 = (0 : Int32) then (mm_ends_16   S_409) else (bd (mm_asItIs S_409 ) (fun _ S_412 => lt_ ((0 : Int32)) (fun x3_415 => lt_ ((0 : Int32)) (fun x4_416 => mm_ends_27L  4000 a1 a2 x3_415 x4_416 S_412)))))))
abbrev wu_X9_ends : List Cond := .code yX9_ends cX9_ends 5 (some .int) :: wsL_law
theorem ud_X9_ends : yX9_ends.cls = RX9 ∧ yX9_ends.cls ≠ "java/lang/invoke/MethodHandle" ∧ yX9_ends.cls ≠ "java/lang/invoke/VarHandle" ∧ (parseMethodDescriptor yX9_ends.desc).map (fun d => d.parameters.length) = some 2 := by decide +kernel
abbrev rmX9_ends : Room := { frames := 8, cells := 0, slots := 0, locals := 192 }
set_option maxHeartbeats 4000000 in
set_option maxRecDepth 100000 in
theorem cc_ends (l : Launch) (D : va_G) (cs : Nat → ClassId) (ad : Nat → Nat) (S T : MS) (a1 : Int32) (a2 : Int32) (r0 : Int32) (h : mm_ends S a1 a2 = some (r0, T)) : MetI l yX9_ends wu_X9_ends rmX9_ends D cs ad [.int a1, .int a2] S T r0 := by
  refine mo_I (ty := .int) (cc := cX9_ends) (maxL := 5) ⟨by decide, rfl⟩ rfl (Nat.le_of_ble_eq_true rfl) ?_
  intro p e s m args below meth c ls cx hl w
  have hx := cx.1
  have hb := cx.2.1
  have hts := cx.2.2.2.1
  have hown := cx.2.2.2.2.1
  have hl : lv_has ls 5 [(0, .ref (ad 100)), (1, .int a1), (2, .int a2)] := hl
  have J16 : ∀  (S : MS), mm_ends_16   S = some (r0, T) → mGo p l e rmX9_ends s m args below meth c 5 D cs ad (mQI below D cs ad args s r0 T) 16 [] [] S := by
    intro  S h H locs ls hl w
    unfold mm_ends_16 at h
    refine lv_iconst (v := (-1 : Int32)) hx hb dX9_ends_16 (by decide) ?_
    exact mw_iret cx (rt_e h) w dX9_ends_17
  have J53 : ∀ (k27 : Int32 → Int32 → Int32 → Int32 → MS → Option (Int32 × MS)) (hk27 : ∀ (x1 : Int32) (x2 : Int32) (x3 : Int32) (x4 : Int32) (S : MS), k27 x1 x2 x3 x4 S = some (r0, T) → mGo p l e rmX9_ends s m args below meth c 5 D cs ad (mQI below D cs ad args s r0 T) 27 [(0, .ref (ad 100)), (1, .int x1), (2, .int x2), (3, .int x3), (4, .int x4)] [] S) (x1 : Int32) (x2 : Int32) (x4 : Int32) (t0 : Int32) (t1 : Int32) (S : MS), mm_ends_53 k27 x1 x2 x4 t0 t1 S = some (r0, T) → mGo p l e rmX9_ends s m args below meth c 5 D cs ad (mQI below D cs ad args s r0 T) 53 [(0, .ref (ad 100)), (1, .int x1), (2, .int x2), (4, .int x4)] [.int t1, .int t0] S := by
    intro k27 hk27 x1 x2 x4 t0 t1 S h H locs ls hl w
    unfold mm_ends_53 at h
    refine lv_ior hx hb dX9_ends_53 ?_
    obtain ⟨x3_201, ex3_201, h⟩ := lt_e h
    refine top_i ex3_201 ?_
    refine lv_istore_n (lv' := [(3, .int x3_201), (0, .ref (ad 100)), (1, .int x1), (2, .int x2), (4, .int x4)]) hx hb dX9_ends_54 rfl hl (by decide) rfl (fun ls hl => ?_)
    obtain ⟨x4_202, ex4_202, h⟩ := lt_e h
    refine lv_iinc (v := x4_202) (lv' := [(4, .int x4_202), (3, .int x3_201), (0, .ref (ad 100)), (1, .int x1), (2, .int x2)]) hx hb dX9_ends_55 hl (k := 4) rfl (by rw [ex4_202]; rfl) (by decide) rfl (fun ls hl => ?_)
    refine lv_goto (tgt := 27) hx hb dX9_ends_58 (by decide) ?_
    exact hk27 x1 x2 x3_201 x4_202 S h _ _ _ (lv_sub hl [2, 3, 4, 1, 0] rfl) w
  have L27 : ∀ (n : Nat) (x1 : Int32) (x2 : Int32) (x3 : Int32) (x4 : Int32) (S : MS), mm_ends_27L  n x1 x2 x3 x4 S = some (r0, T) → mGo p l e rmX9_ends s m args below meth c 5 D cs ad (mQI below D cs ad args s r0 T) 27 [(0, .ref (ad 100)), (1, .int x1), (2, .int x2), (3, .int x3), (4, .int x4)] [] S := by
    intro n
    induction n with
    | zero =>
      intro x1 x2 x3 x4 S h
      have h : none = some (r0, T) := h
      cases h
    | succ n hk27 =>
      intro x1 x2 x3 x4 S h H locs ls hl w
      have h : mm_ends_27  (mm_ends_27L  n) x1 x2 x3 x4 S = some (r0, T) := h
      generalize mm_ends_27L  n = k27 at h hk27
      unfold mm_ends_27 at h
      refine lv_iload hx hb dX9_ends_27 (lv_at hl 4 rfl) ?_
      refine lv_iconst (v := (4 : Int32)) hx hb dX9_ends_29 (by decide) ?_
      refine lv_icmp_ge (tgt := 61) hx hb dX9_ends_30 (by decide) (fun q => ?_) (fun q => ?_)
      · have h := br_p q h
        refine lv_iload_n hx hb dX9_ends_61 rfl (lv_at hl 3 rfl) ?_
        exact mw_iret cx (rt_e h) w dX9_ends_62
      · have h := br_n q h
        refine lv_iload_n hx hb dX9_ends_33 rfl (lv_at hl 3 rfl) ?_
        refine lv_aload_n hx hb dX9_ends_34 rfl (lv_at hl 0 rfl) ?_
        refine lv_iload_n hx hb dX9_ends_35 rfl (lv_at hl 1 rfl) ?_
        refine lv_iload hx hb dX9_ends_36 (lv_at hl 4 rfl) ?_
        refine lv_iload_n hx hb dX9_ends_38 rfl (lv_at hl 2 rfl) ?_
        obtain ⟨r_304, S_303, hc_305, h⟩ := bd_e h
        refine mw_calli (As := [.int x1, .int x4, .int x2]) (rest := [.int x3]) cx (cc_isHeard l D cs ad S S_303 x1 x4 x2 r_304 hc_305) (cwV 3 hts (uG uw_X9_isHeard ul_RX9_237 ui_X9_isHeard us_RX9_X9_isHeard un_RX9) rfl rfl rfl ud_X9_isHeard ⟨Nat.le_of_ble_eq_true rfl, Nat.le_of_ble_eq_true rfl⟩) w rfl hl.1 rfl (Nat.le_of_ble_eq_true rfl) dX9_ends_39 (fun H locs w => ?_)
        refine lv_if_eq (tgt := 52) hx hb dX9_ends_42 (by decide) (fun q => ?_) (fun q => ?_)
        · have h := br_p q h
          refine lv_iconst (v := (0 : Int32)) hx hb dX9_ends_52 (by decide) ?_
          exact J53 k27 hk27 x1 x2 x4 x3 (0 : Int32) S_303 h _ _ _ (lv_sub hl [0, 1, 2, 4] rfl) w
        · have h := br_n q h
          refine lv_iconst (v := (1 : Int32)) hx hb dX9_ends_45 (by decide) ?_
          refine lv_iload hx hb dX9_ends_46 (lv_at hl 4 rfl) ?_
          refine lv_ishl hx hb dX9_ends_48 ?_
          refine lv_goto (tgt := 53) hx hb dX9_ends_49 (by decide) ?_
          exact J53 k27 hk27 x1 x2 x4 x3 ((1 : Int32) <<< (x4 &&& 31)) S_303 h _ _ _ (lv_sub hl [0, 1, 2, 4] rfl) w
  unfold mm_ends at h
  refine lv_aload_n hx hb dX9_ends_0 rfl (lv_at hl 0 rfl) ?_
  refine lv_iload_n hx hb dX9_ends_1 rfl (lv_at hl 1 rfl) ?_
  obtain ⟨r_407, S_406, hc_408, h⟩ := bd_e h
  refine mw_calli (As := [.int a1]) (rest := []) cx (cc_isWord l D cs ad S S_406 a1 r_407 hc_408) (cwV 1 hts (uG uw_X9_isWord ul_RX9_137 ui_X9_isWord us_RX9_X9_isWord un_RX9) rfl rfl rfl ud_X9_isWord ⟨Nat.le_of_ble_eq_true rfl, Nat.le_of_ble_eq_true rfl⟩) w rfl hl.1 rfl (Nat.le_of_ble_eq_true rfl) dX9_ends_2 (fun H locs w => ?_)
  refine lv_if_eq (tgt := 16) hx hb dX9_ends_5 (by decide) (fun q => ?_) (fun q => ?_)
  · have h := br_p q h
    exact J16   S_406 h _ _ _ (lv_sub hl [] rfl) w
  · have h := br_n q h
    refine lv_aload_n hx hb dX9_ends_8 rfl (lv_at hl 0 rfl) ?_
    refine lv_iload_n hx hb dX9_ends_9 rfl (lv_at hl 2 rfl) ?_
    obtain ⟨r_410, S_409, hc_411, h⟩ := bd_e h
    refine mw_calli (As := [.int a2]) (rest := []) cx (cc_isLand l D cs ad S_406 S_409 a2 r_410 hc_411) (cwV 1 hts (uG uw_X9_isLand ul_RX9_177 ui_X9_isLand us_RX9_X9_isLand un_RX9) rfl rfl rfl ud_X9_isLand ⟨Nat.le_of_ble_eq_true rfl, Nat.le_of_ble_eq_true rfl⟩) w rfl hl.1 rfl (Nat.le_of_ble_eq_true rfl) dX9_ends_10 (fun H locs w => ?_)
    refine lv_if_ne (tgt := 18) hx hb dX9_ends_13 (by decide) (fun q => ?_) (fun q => ?_)
    · have h := br_n q h
      refine lv_aload_n hx hb dX9_ends_18 rfl (lv_at hl 0 rfl) ?_
      obtain ⟨r_413, S_412, hc_414, h⟩ := bd_e h
      refine mw_callv (As := []) (rest := []) cx (cc_asItIs l D cs ad S_409 S_412  r_413 hc_414) (cwV 0 hts (uG uw_X9_asItIs ul_RX9_211 ui_X9_asItIs us_RX9_X9_asItIs un_RX9) rfl rfl rfl ud_X9_asItIs ⟨Nat.le_of_ble_eq_true rfl, Nat.le_of_ble_eq_true rfl⟩) w rfl hl.1 rfl (Nat.le_of_ble_eq_true rfl) dX9_ends_19 (fun H locs w => ?_)
      refine lv_iconst (v := (0 : Int32)) hx hb dX9_ends_22 (by decide) ?_
      obtain ⟨x3_415, ex3_415, h⟩ := lt_e h
      refine top_i ex3_415 ?_
      refine lv_istore_n (lv' := [(3, .int x3_415), (0, .ref (ad 100)), (1, .int a1), (2, .int a2)]) hx hb dX9_ends_23 rfl hl (by decide) rfl (fun ls hl => ?_)
      refine lv_iconst (v := (0 : Int32)) hx hb dX9_ends_24 (by decide) ?_
      obtain ⟨x4_416, ex4_416, h⟩ := lt_e h
      refine top_i ex4_416 ?_
      refine lv_istore (lv' := [(4, .int x4_416), (3, .int x3_415), (0, .ref (ad 100)), (1, .int a1), (2, .int a2)]) hx hb dX9_ends_25 hl (by decide) rfl (fun ls hl => ?_)
      exact L27  4000 a1 a2 x3_415 x4_416 S_412 h _ _ _ (lv_sub hl [2, 3, 4, 1, 0] rfl) w
    · have h := br_p q h
      exact J16   S_409 h _ _ _ (lv_sub hl [] rfl) w
def mm_cut_21  (S : MS) : Option (Int32 × MS) := some ((-1 : Int32), S)
def mm_cut_105 (k53 : Int32 → Int32 → Int32 → Int32 → Int32 → MS → Option (Int32 × MS)) (x1 : Int32) (x2 : Int32) (x4 : Int32) (x5 : Int32) (x6 : Int32) (S : MS) : Option (Int32 × MS) := lt_ (x6 + (1 : Int32)) (fun x6_201 => k53 x1 x2 x4 x5 x6_201 S)
def mm_cut_101 (k53 : Int32 → Int32 → Int32 → Int32 → Int32 → MS → Option (Int32 × MS)) (x1 : Int32) (x2 : Int32) (x4 : Int32) (x6 : Int32) (S : MS) : Option (Int32 × MS) := mm_cut_105 k53 x1 x2 x4 x6 x6 S
def mm_cut_86 (k53 : Int32 → Int32 → Int32 → Int32 → Int32 → MS → Option (Int32 × MS)) (x1 : Int32) (x2 : Int32) (x4 : Int32) (x5 : Int32) (x6 : Int32) (S : MS) : Option (Int32 × MS) := if x2 = (1 : Int32) then (mm_cut_101 k53 x1 x2 x4 x6 S) else (bd (mm_arePartsHeard S x1 x6) (fun r_403 S_402 => if r_403 = (0 : Int32) then (mm_cut_105 k53 x1 x2 x4 x5 x6 S_402) else (mm_cut_101 k53 x1 x2 x4 x6 S_402)))
def mm_cut_176 (k130 : Int32 → Int32 → Int32 → Int32 → MS → Option (Int32 × MS)) (x1 : Int32) (x5 : Int32) (x7 : Int32) (t0 : Int32) (t1 : Int32) (S : MS) : Option (Int32 × MS) := lt_ ((t0 &&& t1)) (fun x6_505 => lt_ (x7 + (1 : Int32)) (fun x7_506 => k130 x1 x5 x6_505 x7_506 S))
def mm_cut_130 (k130 : Int32 → Int32 → Int32 → Int32 → MS → Option (Int32 × MS)) (x1 : Int32) (x5 : Int32) (x6 : Int32) (x7 : Int32) (S : MS) : Option (Int32 × MS) := ck (vin x1 14) (if (S.2.1 7 (x1).toNatClampNeg) ≤ x7 then (some (x6, S)) else (bd (mm_has S x5 x7) (fun r_609 S_608 => if r_609 = (0 : Int32) then (mm_cut_176 k130 x1 x5 x7 x6 (-1 : Int32) S_608) else (ck (vin (((4 : Int32) * x1) + x7) 56) (ck (vin (S_608.2.1 8 ((((4 : Int32) * x1) + x7)).toNatClampNeg) 14) (mm_cut_176 k130 x1 x5 x7 x6 ((S_608.2.1 6 ((S_608.2.1 8 ((((4 : Int32) * x1) + x7)).toNatClampNeg)).toNatClampNeg) ^^^ (-1 : Int32)) S_608))))))
def mm_cut_130L : Nat → Int32 → Int32 → Int32 → Int32 → MS → Option (Int32 × MS)
  | 0, _, _, _, _, _ => none
  | n + 1, x1, x5, x6, x7, S => mm_cut_130  (mm_cut_130L  n) x1 x5 x6 x7 S
def mm_cut_53 (k53 : Int32 → Int32 → Int32 → Int32 → Int32 → MS → Option (Int32 × MS)) (x1 : Int32) (x2 : Int32) (x4 : Int32) (x5 : Int32) (x6 : Int32) (S : MS) : Option (Int32 × MS) := ck (vin x1 14) (if ((1 : Int32) <<< ((S.2.1 7 (x1).toNatClampNeg) &&& 31)) ≤ x6 then (if x4 = (0 : Int32) then (some (x5, S)) else (ck (vin x1 14) (lt_ ((S.2.1 6 (x1).toNatClampNeg)) (fun x6_715 => lt_ ((0 : Int32)) (fun x7_716 => mm_cut_130L  4000 x1 x5 x6_715 x7_716 S))))) else (if x5 < (0 : Int32) then (mm_cut_86 k53 x1 x2 x4 x5 x6 S) else (bd (mm_ones S x6) (fun r_718 S_717 => bd (mm_ones S_717 x5) (fun r_721 S_720 => if r_721 ≤ r_718 then (mm_cut_105 k53 x1 x2 x4 x5 x6 S_720) else (mm_cut_86 k53 x1 x2 x4 x5 x6 S_720))))))
def mm_cut_53L : Nat → Int32 → Int32 → Int32 → Int32 → Int32 → MS → Option (Int32 × MS)
  | 0, _, _, _, _, _, _ => none
  | n + 1, x1, x2, x4, x5, x6, S => mm_cut_53  (mm_cut_53L  n) x1 x2 x4 x5 x6 S
def mm_cut (S : MS) (a1 : Int32) (a2 : Int32) (a3 : Int32) (a4 : Int32) : Option (Int32 × MS) := bd (mm_isLayer S a1 a2 a3) (fun r_824 S_823 => if r_824 = (0 : Int32) then (mm_cut_21   S_823) else (bd (mm_in S_823 a4 (0 : Int32) (1 : Int32)) (fun r_827 S_826 => if r_827 = (0 : Int32) then (mm_cut_21   S_826) else (bd (mm_asItIs S_826 ) (fun _ S_829 => bd (mm_keeper S_829 a1 a2 a3) (fun r_833 S_832 => if r_833 < (0 : Int32) then (bd (mm_findHeard S_832 a1 a3) (fun _ S_835 => lt_ ((-5 : Int32)) (fun x5_838 => lt_ ((0 : Int32)) (fun x6_839 => mm_cut_53L  4000 a1 a2 a4 x5_838 x6_839 S_835)))) else (some ((-5 : Int32), S_832))))))))
abbrev wu_X9_cut : List Cond := .code yX9_cut cX9_cut 8 (some .int) :: wsL_law
theorem ud_X9_cut : yX9_cut.cls = RX9 ∧ yX9_cut.cls ≠ "java/lang/invoke/MethodHandle" ∧ yX9_cut.cls ≠ "java/lang/invoke/VarHandle" ∧ (parseMethodDescriptor yX9_cut.desc).map (fun d => d.parameters.length) = some 4 := by decide +kernel
abbrev rmX9_cut : Room := { frames := 7, cells := 0, slots := 0, locals := 169 }
set_option maxHeartbeats 4000000 in
set_option maxRecDepth 100000 in
theorem cc_cut (l : Launch) (D : va_G) (cs : Nat → ClassId) (ad : Nat → Nat) (S T : MS) (a1 : Int32) (a2 : Int32) (a3 : Int32) (a4 : Int32) (r0 : Int32) (h : mm_cut S a1 a2 a3 a4 = some (r0, T)) : MetI l yX9_cut wu_X9_cut rmX9_cut D cs ad [.int a1, .int a2, .int a3, .int a4] S T r0 := by
  refine mo_I (ty := .int) (cc := cX9_cut) (maxL := 8) ⟨by decide, rfl⟩ rfl (Nat.le_of_ble_eq_true rfl) ?_
  intro p e s m args below meth c ls cx hl w
  have hx := cx.1
  have hb := cx.2.1
  have hts := cx.2.2.2.1
  have hown := cx.2.2.2.2.1
  have hin : ∀ w ∈ wsX90, w ∈ wu_X9_cut := fun _ hq => List.mem_cons_of_mem _ (inlX9 _ hq)
  have hl : lv_has ls 8 [(0, .ref (ad 100)), (1, .int a1), (2, .int a2), (3, .int a3), (4, .int a4)] := hl
  have J21 : ∀  (S : MS), mm_cut_21   S = some (r0, T) → mGo p l e rmX9_cut s m args below meth c 8 D cs ad (mQI below D cs ad args s r0 T) 21 [] [] S := by
    intro  S h H locs ls hl w
    unfold mm_cut_21 at h
    refine lv_iconst (v := (-1 : Int32)) hx hb dX9_cut_21 (by decide) ?_
    exact mw_iret cx (rt_e h) w dX9_cut_22
  have J105 : ∀ (k53 : Int32 → Int32 → Int32 → Int32 → Int32 → MS → Option (Int32 × MS)) (hk53 : ∀ (x1 : Int32) (x2 : Int32) (x4 : Int32) (x5 : Int32) (x6 : Int32) (S : MS), k53 x1 x2 x4 x5 x6 S = some (r0, T) → mGo p l e rmX9_cut s m args below meth c 8 D cs ad (mQI below D cs ad args s r0 T) 53 [(0, .ref (ad 100)), (1, .int x1), (2, .int x2), (4, .int x4), (5, .int x5), (6, .int x6)] [] S) (x1 : Int32) (x2 : Int32) (x4 : Int32) (x5 : Int32) (x6 : Int32) (S : MS), mm_cut_105 k53 x1 x2 x4 x5 x6 S = some (r0, T) → mGo p l e rmX9_cut s m args below meth c 8 D cs ad (mQI below D cs ad args s r0 T) 105 [(0, .ref (ad 100)), (1, .int x1), (2, .int x2), (4, .int x4), (5, .int x5), (6, .int x6)] [] S := by
    intro k53 hk53 x1 x2 x4 x5 x6 S h H locs ls hl w
    unfold mm_cut_105 at h
    obtain ⟨x6_201, ex6_201, h⟩ := lt_e h
    refine lv_iinc (v := x6_201) (lv' := [(6, .int x6_201), (0, .ref (ad 100)), (1, .int x1), (2, .int x2), (4, .int x4), (5, .int x5)]) hx hb dX9_cut_105 hl (k := 5) rfl (by rw [ex6_201]; rfl) (by decide) rfl (fun ls hl => ?_)
    refine lv_goto (tgt := 53) hx hb dX9_cut_108 (by decide) ?_
    exact hk53 x1 x2 x4 x5 x6_201 S h _ _ _ (lv_sub hl [1, 2, 3, 4, 5, 0] rfl) w
  have J101 : ∀ (k53 : Int32 → Int32 → Int32 → Int32 → Int32 → MS → Option (Int32 × MS)) (hk53 : ∀ (x1 : Int32) (x2 : Int32) (x4 : Int32) (x5 : Int32) (x6 : Int32) (S : MS), k53 x1 x2 x4 x5 x6 S = some (r0, T) → mGo p l e rmX9_cut s m args below meth c 8 D cs ad (mQI below D cs ad args s r0 T) 53 [(0, .ref (ad 100)), (1, .int x1), (2, .int x2), (4, .int x4), (5, .int x5), (6, .int x6)] [] S) (x1 : Int32) (x2 : Int32) (x4 : Int32) (x6 : Int32) (S : MS), mm_cut_101 k53 x1 x2 x4 x6 S = some (r0, T) → mGo p l e rmX9_cut s m args below meth c 8 D cs ad (mQI below D cs ad args s r0 T) 101 [(0, .ref (ad 100)), (1, .int x1), (2, .int x2), (4, .int x4), (6, .int x6)] [] S := by
    intro k53 hk53 x1 x2 x4 x6 S h H locs ls hl w
    unfold mm_cut_101 at h
    refine lv_iload hx hb dX9_cut_101 (lv_at hl 4 rfl) ?_
    refine lv_istore (lv' := [(5, .int x6), (0, .ref (ad 100)), (1, .int x1), (2, .int x2), (4, .int x4), (6, .int x6)]) hx hb dX9_cut_103 hl (by decide) rfl (fun ls hl => ?_)
    exact J105 k53 hk53 x1 x2 x4 x6 x6 S h _ _ _ (lv_sub hl [1, 2, 3, 4, 0, 5] rfl) w
  have J86 : ∀ (k53 : Int32 → Int32 → Int32 → Int32 → Int32 → MS → Option (Int32 × MS)) (hk53 : ∀ (x1 : Int32) (x2 : Int32) (x4 : Int32) (x5 : Int32) (x6 : Int32) (S : MS), k53 x1 x2 x4 x5 x6 S = some (r0, T) → mGo p l e rmX9_cut s m args below meth c 8 D cs ad (mQI below D cs ad args s r0 T) 53 [(0, .ref (ad 100)), (1, .int x1), (2, .int x2), (4, .int x4), (5, .int x5), (6, .int x6)] [] S) (x1 : Int32) (x2 : Int32) (x4 : Int32) (x5 : Int32) (x6 : Int32) (S : MS), mm_cut_86 k53 x1 x2 x4 x5 x6 S = some (r0, T) → mGo p l e rmX9_cut s m args below meth c 8 D cs ad (mQI below D cs ad args s r0 T) 86 [(0, .ref (ad 100)), (1, .int x1), (2, .int x2), (4, .int x4), (5, .int x5), (6, .int x6)] [] S := by
    intro k53 hk53 x1 x2 x4 x5 x6 S h H locs ls hl w
    unfold mm_cut_86 at h
    refine lv_iload_n hx hb dX9_cut_86 rfl (lv_at hl 2 rfl) ?_
    refine lv_iconst (v := (1 : Int32)) hx hb dX9_cut_87 (by decide) ?_
    refine lv_icmp_eq (tgt := 101) hx hb dX9_cut_88 (by decide) (fun q => ?_) (fun q => ?_)
    · have h := br_p q h
      exact J101 k53 hk53 x1 x2 x4 x6 S h _ _ _ (lv_sub hl [0, 1, 2, 3, 5] rfl) w
    · have h := br_n q h
      refine lv_aload_n hx hb dX9_cut_91 rfl (lv_at hl 0 rfl) ?_
      refine lv_iload_n hx hb dX9_cut_92 rfl (lv_at hl 1 rfl) ?_
      refine lv_iload hx hb dX9_cut_93 (lv_at hl 5 rfl) ?_
      obtain ⟨r_403, S_402, hc_404, h⟩ := bd_e h
      refine mw_calli (As := [.int x1, .int x6]) (rest := []) cx (cc_arePartsHeard l D cs ad S S_402 x1 x6 r_403 hc_404) (cwV 2 hts (uG uw_X9_arePartsHeard ul_RX9_224 ui_X9_arePartsHeard us_RX9_X9_arePartsHeard un_RX9) rfl rfl rfl ud_X9_arePartsHeard ⟨Nat.le_of_ble_eq_true rfl, Nat.le_of_ble_eq_true rfl⟩) w rfl hl.1 rfl (Nat.le_of_ble_eq_true rfl) dX9_cut_95 (fun H locs w => ?_)
      refine lv_if_eq (tgt := 105) hx hb dX9_cut_98 (by decide) (fun q => ?_) (fun q => ?_)
      · have h := br_p q h
        exact J105 k53 hk53 x1 x2 x4 x5 x6 S_402 h _ _ _ (lv_sub hl [0, 1, 2, 3, 4, 5] rfl) w
      · have h := br_n q h
        exact J101 k53 hk53 x1 x2 x4 x6 S_402 h _ _ _ (lv_sub hl [0, 1, 2, 3, 5] rfl) w
  have J176 : ∀ (k130 : Int32 → Int32 → Int32 → Int32 → MS → Option (Int32 × MS)) (hk130 : ∀ (x1 : Int32) (x5 : Int32) (x6 : Int32) (x7 : Int32) (S : MS), k130 x1 x5 x6 x7 S = some (r0, T) → mGo p l e rmX9_cut s m args below meth c 8 D cs ad (mQI below D cs ad args s r0 T) 130 [(0, .ref (ad 100)), (1, .int x1), (5, .int x5), (6, .int x6), (7, .int x7)] [] S) (x1 : Int32) (x5 : Int32) (x7 : Int32) (t0 : Int32) (t1 : Int32) (S : MS), mm_cut_176 k130 x1 x5 x7 t0 t1 S = some (r0, T) → mGo p l e rmX9_cut s m args below meth c 8 D cs ad (mQI below D cs ad args s r0 T) 176 [(0, .ref (ad 100)), (1, .int x1), (5, .int x5), (7, .int x7)] [.int t1, .int t0] S := by
    intro k130 hk130 x1 x5 x7 t0 t1 S h H locs ls hl w
    unfold mm_cut_176 at h
    refine lv_iand hx hb dX9_cut_176 ?_
    obtain ⟨x6_505, ex6_505, h⟩ := lt_e h
    refine top_i ex6_505 ?_
    refine lv_istore (lv' := [(6, .int x6_505), (0, .ref (ad 100)), (1, .int x1), (5, .int x5), (7, .int x7)]) hx hb dX9_cut_177 hl (by decide) rfl (fun ls hl => ?_)
    obtain ⟨x7_506, ex7_506, h⟩ := lt_e h
    refine lv_iinc (v := x7_506) (lv' := [(7, .int x7_506), (6, .int x6_505), (0, .ref (ad 100)), (1, .int x1), (5, .int x5)]) hx hb dX9_cut_179 hl (k := 4) rfl (by rw [ex7_506]; rfl) (by decide) rfl (fun ls hl => ?_)
    refine lv_goto (tgt := 130) hx hb dX9_cut_182 (by decide) ?_
    exact hk130 x1 x5 x6_505 x7_506 S h _ _ _ (lv_sub hl [2, 3, 4, 1, 0] rfl) w
  have L130 : ∀ (n : Nat) (x1 : Int32) (x5 : Int32) (x6 : Int32) (x7 : Int32) (S : MS), mm_cut_130L  n x1 x5 x6 x7 S = some (r0, T) → mGo p l e rmX9_cut s m args below meth c 8 D cs ad (mQI below D cs ad args s r0 T) 130 [(0, .ref (ad 100)), (1, .int x1), (5, .int x5), (6, .int x6), (7, .int x7)] [] S := by
    intro n
    induction n with
    | zero =>
      intro x1 x5 x6 x7 S h
      have h : none = some (r0, T) := h
      cases h
    | succ n hk130 =>
      intro x1 x5 x6 x7 S h H locs ls hl w
      have h : mm_cut_130  (mm_cut_130L  n) x1 x5 x6 x7 S = some (r0, T) := h
      generalize mm_cut_130L  n = k130 at h hk130
      unfold mm_cut_130 at h
      refine lv_iload hx hb dX9_cut_130 (lv_at hl 4 rfl) ?_
      refine lv_aload_n hx hb dX9_cut_132 rfl (lv_at hl 0 rfl) ?_
      refine mw_getR cx hin w 7 (by decide) (List.mem_cons_of_mem _ uf_RX9_32) dX9_cut_133 ?_
      refine lv_iload_n hx hb dX9_cut_136 rfl (lv_at hl 1 rfl) ?_
      obtain ⟨hq_607, h⟩ := ck_e h
      refine mw_iald cx w 4 7 14 (by decide) hq_607 dX9_cut_137 ?_
      refine lv_icmp_ge (tgt := 185) hx hb dX9_cut_138 (by decide) (fun q => ?_) (fun q => ?_)
      · have h := br_p q h
        refine lv_iload hx hb dX9_cut_185 (lv_at hl 3 rfl) ?_
        exact mw_iret cx (rt_e h) w dX9_cut_187
      · have h := br_n q h
        refine lv_iload hx hb dX9_cut_141 (lv_at hl 3 rfl) ?_
        refine lv_aload_n hx hb dX9_cut_143 rfl (lv_at hl 0 rfl) ?_
        refine lv_iload hx hb dX9_cut_144 (lv_at hl 2 rfl) ?_
        refine lv_iload hx hb dX9_cut_146 (lv_at hl 4 rfl) ?_
        obtain ⟨r_609, S_608, hc_610, h⟩ := bd_e h
        refine mw_calli (As := [.int x5, .int x7]) (rest := [.int x6]) cx (cc_has l D cs ad S S_608 x5 x7 r_609 hc_610) (cwV 2 hts (uG uw_X9_has ul_RX9_189 ui_X9_has us_RX9_X9_has un_RX9) rfl rfl rfl ud_X9_has ⟨Nat.le_of_ble_eq_true rfl, Nat.le_of_ble_eq_true rfl⟩) w rfl hl.1 rfl (Nat.le_of_ble_eq_true rfl) dX9_cut_148 (fun H locs w => ?_)
        refine lv_if_eq (tgt := 175) hx hb dX9_cut_151 (by decide) (fun q => ?_) (fun q => ?_)
        · have h := br_p q h
          refine lv_iconst (v := (-1 : Int32)) hx hb dX9_cut_175 (by decide) ?_
          exact J176 k130 hk130 x1 x5 x7 x6 (-1 : Int32) S_608 h _ _ _ (lv_sub hl [0, 1, 2, 4] rfl) w
        · have h := br_n q h
          refine lv_aload_n hx hb dX9_cut_154 rfl (lv_at hl 0 rfl) ?_
          refine mw_getR cx hin w 6 (by decide) (List.mem_cons_of_mem _ uf_RX9_29) dX9_cut_155 ?_
          refine lv_aload_n hx hb dX9_cut_158 rfl (lv_at hl 0 rfl) ?_
          refine mw_getR cx hin w 8 (by decide) (List.mem_cons_of_mem _ uf_RX9_35) dX9_cut_159 ?_
          refine lv_iconst (v := (4 : Int32)) hx hb dX9_cut_162 (by decide) ?_
          refine lv_iload_n hx hb dX9_cut_163 rfl (lv_at hl 1 rfl) ?_
          refine lv_imul hx hb dX9_cut_164 ?_
          refine lv_iload hx hb dX9_cut_165 (lv_at hl 4 rfl) ?_
          refine lv_iadd hx hb dX9_cut_167 ?_
          obtain ⟨hq_611, h⟩ := ck_e h
          refine mw_iald cx w 5 8 56 (by decide) hq_611 dX9_cut_168 ?_
          obtain ⟨hq_612, h⟩ := ck_e h
          refine mw_iald cx w 3 6 14 (by decide) hq_612 dX9_cut_169 ?_
          refine lv_iconst (v := (-1 : Int32)) hx hb dX9_cut_170 (by decide) ?_
          refine lv_ixor hx hb dX9_cut_171 ?_
          refine lv_goto (tgt := 176) hx hb dX9_cut_172 (by decide) ?_
          exact J176 k130 hk130 x1 x5 x7 x6 ((S_608.2.1 6 ((S_608.2.1 8 ((((4 : Int32) * x1) + x7)).toNatClampNeg)).toNatClampNeg) ^^^ (-1 : Int32)) S_608 h _ _ _ (lv_sub hl [0, 1, 2, 4] rfl) w
  have L53 : ∀ (n : Nat) (x1 : Int32) (x2 : Int32) (x4 : Int32) (x5 : Int32) (x6 : Int32) (S : MS), mm_cut_53L  n x1 x2 x4 x5 x6 S = some (r0, T) → mGo p l e rmX9_cut s m args below meth c 8 D cs ad (mQI below D cs ad args s r0 T) 53 [(0, .ref (ad 100)), (1, .int x1), (2, .int x2), (4, .int x4), (5, .int x5), (6, .int x6)] [] S := by
    intro n
    induction n with
    | zero =>
      intro x1 x2 x4 x5 x6 S h
      have h : none = some (r0, T) := h
      cases h
    | succ n hk53 =>
      intro x1 x2 x4 x5 x6 S h H locs ls hl w
      have h : mm_cut_53  (mm_cut_53L  n) x1 x2 x4 x5 x6 S = some (r0, T) := h
      generalize mm_cut_53L  n = k53 at h hk53
      unfold mm_cut_53 at h
      refine lv_iload hx hb dX9_cut_53 (lv_at hl 5 rfl) ?_
      refine lv_iconst (v := (1 : Int32)) hx hb dX9_cut_55 (by decide) ?_
      refine lv_aload_n hx hb dX9_cut_56 rfl (lv_at hl 0 rfl) ?_
      refine mw_getR cx hin w 7 (by decide) (List.mem_cons_of_mem _ uf_RX9_32) dX9_cut_57 ?_
      refine lv_iload_n hx hb dX9_cut_60 rfl (lv_at hl 1 rfl) ?_
      obtain ⟨hq_713, h⟩ := ck_e h
      refine mw_iald cx w 4 7 14 (by decide) hq_713 dX9_cut_61 ?_
      refine lv_ishl hx hb dX9_cut_62 ?_
      refine lv_icmp_ge (tgt := 111) hx hb dX9_cut_63 (by decide) (fun q => ?_) (fun q => ?_)
      · have h := br_p q h
        refine lv_iload hx hb dX9_cut_111 (lv_at hl 3 rfl) ?_
        refine lv_if_ne (tgt := 119) hx hb dX9_cut_113 (by decide) (fun q => ?_) (fun q => ?_)
        · have h := br_n q h
          refine lv_aload_n hx hb dX9_cut_119 rfl (lv_at hl 0 rfl) ?_
          refine mw_getR cx hin w 6 (by decide) (List.mem_cons_of_mem _ uf_RX9_29) dX9_cut_120 ?_
          refine lv_iload_n hx hb dX9_cut_123 rfl (lv_at hl 1 rfl) ?_
          obtain ⟨hq_714, h⟩ := ck_e h
          refine mw_iald cx w 3 6 14 (by decide) hq_714 dX9_cut_124 ?_
          obtain ⟨x6_715, ex6_715, h⟩ := lt_e h
          refine top_i ex6_715 ?_
          refine lv_istore (lv' := [(6, .int x6_715), (0, .ref (ad 100)), (1, .int x1), (2, .int x2), (4, .int x4), (5, .int x5)]) hx hb dX9_cut_125 hl (by decide) rfl (fun ls hl => ?_)
          refine lv_iconst (v := (0 : Int32)) hx hb dX9_cut_127 (by decide) ?_
          obtain ⟨x7_716, ex7_716, h⟩ := lt_e h
          refine top_i ex7_716 ?_
          refine lv_istore (lv' := [(7, .int x7_716), (6, .int x6_715), (0, .ref (ad 100)), (1, .int x1), (2, .int x2), (4, .int x4), (5, .int x5)]) hx hb dX9_cut_128 hl (by decide) rfl (fun ls hl => ?_)
          exact L130  4000 x1 x5 x6_715 x7_716 S h _ _ _ (lv_sub hl [2, 3, 6, 1, 0] rfl) w
        · have h := br_p q h
          refine lv_iload hx hb dX9_cut_116 (lv_at hl 4 rfl) ?_
          exact mw_iret cx (rt_e h) w dX9_cut_118
      · have h := br_n q h
        refine lv_iload hx hb dX9_cut_66 (lv_at hl 4 rfl) ?_
        refine lv_if_lt (tgt := 86) hx hb dX9_cut_68 (by decide) (fun q => ?_) (fun q => ?_)
        · have h := br_p q h
          exact J86 k53 hk53 x1 x2 x4 x5 x6 S h _ _ _ (lv_sub hl [0, 1, 2, 3, 4, 5] rfl) w
        · have h := br_n q h
          refine lv_aload_n hx hb dX9_cut_71 rfl (lv_at hl 0 rfl) ?_
          refine lv_iload hx hb dX9_cut_72 (lv_at hl 5 rfl) ?_
          obtain ⟨r_718, S_717, hc_719, h⟩ := bd_e h
          refine mw_calli (As := [.int x6]) (rest := []) cx (cc_ones l D cs ad S S_717 x6 r_718 hc_719) (cwV 1 hts (uG uw_X9_ones ul_RX9_240 ui_X9_ones us_RX9_X9_ones un_RX9) rfl rfl rfl ud_X9_ones ⟨Nat.le_of_ble_eq_true rfl, Nat.le_of_ble_eq_true rfl⟩) w rfl hl.1 rfl (Nat.le_of_ble_eq_true rfl) dX9_cut_74 (fun H locs w => ?_)
          refine lv_aload_n hx hb dX9_cut_77 rfl (lv_at hl 0 rfl) ?_
          refine lv_iload hx hb dX9_cut_78 (lv_at hl 4 rfl) ?_
          obtain ⟨r_721, S_720, hc_722, h⟩ := bd_e h
          refine mw_calli (As := [.int x5]) (rest := [.int r_718]) cx (cc_ones l D cs ad S_717 S_720 x5 r_721 hc_722) (cwV 1 hts (uG uw_X9_ones ul_RX9_240 ui_X9_ones us_RX9_X9_ones un_RX9) rfl rfl rfl ud_X9_ones ⟨Nat.le_of_ble_eq_true rfl, Nat.le_of_ble_eq_true rfl⟩) w rfl hl.1 rfl (Nat.le_of_ble_eq_true rfl) dX9_cut_80 (fun H locs w => ?_)
          refine lv_icmp_ge (tgt := 105) hx hb dX9_cut_83 (by decide) (fun q => ?_) (fun q => ?_)
          · have h := br_p q h
            exact J105 k53 hk53 x1 x2 x4 x5 x6 S_720 h _ _ _ (lv_sub hl [0, 1, 2, 3, 4, 5] rfl) w
          · have h := br_n q h
            exact J86 k53 hk53 x1 x2 x4 x5 x6 S_720 h _ _ _ (lv_sub hl [0, 1, 2, 3, 4, 5] rfl) w
  unfold mm_cut at h
  refine lv_aload_n hx hb dX9_cut_0 rfl (lv_at hl 0 rfl) ?_
  refine lv_iload_n hx hb dX9_cut_1 rfl (lv_at hl 1 rfl) ?_
  refine lv_iload_n hx hb dX9_cut_2 rfl (lv_at hl 2 rfl) ?_
  refine lv_iload_n hx hb dX9_cut_3 rfl (lv_at hl 3 rfl) ?_
  obtain ⟨r_824, S_823, hc_825, h⟩ := bd_e h
  refine mw_calli (As := [.int a1, .int a2, .int a3]) (rest := []) cx (cc_isLayer l D cs ad S S_823 a1 a2 a3 r_824 hc_825) (cwV 3 hts (uG uw_X9_isLayer ul_RX9_234 ui_X9_isLayer us_RX9_X9_isLayer un_RX9) rfl rfl rfl ud_X9_isLayer ⟨Nat.le_of_ble_eq_true rfl, Nat.le_of_ble_eq_true rfl⟩) w rfl hl.1 rfl (Nat.le_of_ble_eq_true rfl) dX9_cut_4 (fun H locs w => ?_)
  refine lv_if_eq (tgt := 21) hx hb dX9_cut_7 (by decide) (fun q => ?_) (fun q => ?_)
  · have h := br_p q h
    exact J21   S_823 h _ _ _ (lv_sub hl [] rfl) w
  · have h := br_n q h
    refine lv_aload_n hx hb dX9_cut_10 rfl (lv_at hl 0 rfl) ?_
    refine lv_iload hx hb dX9_cut_11 (lv_at hl 4 rfl) ?_
    refine lv_iconst (v := (0 : Int32)) hx hb dX9_cut_13 (by decide) ?_
    refine lv_iconst (v := (1 : Int32)) hx hb dX9_cut_14 (by decide) ?_
    obtain ⟨r_827, S_826, hc_828, h⟩ := bd_e h
    refine mw_calli (As := [.int a4, .int (0 : Int32), .int (1 : Int32)]) (rest := []) cx (cc_in l D cs ad S_823 S_826 a4 (0 : Int32) (1 : Int32) r_827 hc_828) (cwV 3 hts (uG uw_X9_in ul_RX9_133 ui_X9_in us_RX9_X9_in un_RX9) rfl rfl rfl ud_X9_in ⟨Nat.le_of_ble_eq_true rfl, Nat.le_of_ble_eq_true rfl⟩) w rfl hl.1 rfl (Nat.le_of_ble_eq_true rfl) dX9_cut_15 (fun H locs w => ?_)
    refine lv_if_ne (tgt := 23) hx hb dX9_cut_18 (by decide) (fun q => ?_) (fun q => ?_)
    · have h := br_n q h
      refine lv_aload_n hx hb dX9_cut_23 rfl (lv_at hl 0 rfl) ?_
      obtain ⟨r_830, S_829, hc_831, h⟩ := bd_e h
      refine mw_callv (As := []) (rest := []) cx (cc_asItIs l D cs ad S_826 S_829  r_830 hc_831) (cwV 0 hts (uG uw_X9_asItIs ul_RX9_211 ui_X9_asItIs us_RX9_X9_asItIs un_RX9) rfl rfl rfl ud_X9_asItIs ⟨Nat.le_of_ble_eq_true rfl, Nat.le_of_ble_eq_true rfl⟩) w rfl hl.1 rfl (Nat.le_of_ble_eq_true rfl) dX9_cut_24 (fun H locs w => ?_)
      refine lv_aload_n hx hb dX9_cut_27 rfl (lv_at hl 0 rfl) ?_
      refine lv_iload_n hx hb dX9_cut_28 rfl (lv_at hl 1 rfl) ?_
      refine lv_iload_n hx hb dX9_cut_29 rfl (lv_at hl 2 rfl) ?_
      refine lv_iload_n hx hb dX9_cut_30 rfl (lv_at hl 3 rfl) ?_
      obtain ⟨r_833, S_832, hc_834, h⟩ := bd_e h
      refine mw_calli (As := [.int a1, .int a2, .int a3]) (rest := []) cx (cc_keeper l D cs ad S_829 S_832 a1 a2 a3 r_833 hc_834) (cwV 3 hts (uG uw_X9_keeper ul_RX9_227 ui_X9_keeper us_RX9_X9_keeper un_RX9) rfl rfl rfl ud_X9_keeper ⟨Nat.le_of_ble_eq_true rfl, Nat.le_of_ble_eq_true rfl⟩) w rfl hl.1 rfl (Nat.le_of_ble_eq_true rfl) dX9_cut_31 (fun H locs w => ?_)
      refine lv_if_lt (tgt := 40) hx hb dX9_cut_34 (by decide) (fun q => ?_) (fun q => ?_)
      · have h := br_p q h
        refine lv_aload_n hx hb dX9_cut_40 rfl (lv_at hl 0 rfl) ?_
        refine lv_iload_n hx hb dX9_cut_41 rfl (lv_at hl 1 rfl) ?_
        refine lv_iload_n hx hb dX9_cut_42 rfl (lv_at hl 3 rfl) ?_
        obtain ⟨r_836, S_835, hc_837, h⟩ := bd_e h
        refine mw_callv (As := [.int a1, .int a3]) (rest := []) cx (cc_findHeard l D cs ad S_832 S_835 a1 a3 r_836 hc_837) (cwV 2 hts (uG uw_X9_findHeard ul_RX9_230 ui_X9_findHeard us_RX9_X9_findHeard un_RX9) rfl rfl rfl ud_X9_findHeard ⟨Nat.le_of_ble_eq_true rfl, Nat.le_of_ble_eq_true rfl⟩) w rfl hl.1 rfl (Nat.le_of_ble_eq_true rfl) dX9_cut_43 (fun H locs w => ?_)
        refine lv_bipush (v := (-5 : Int32)) hx hb dX9_cut_46 (by decide) ?_
        obtain ⟨x5_838, ex5_838, h⟩ := lt_e h
        refine top_i ex5_838 ?_
        refine lv_istore (lv' := [(5, .int x5_838), (0, .ref (ad 100)), (1, .int a1), (2, .int a2), (3, .int a3), (4, .int a4)]) hx hb dX9_cut_48 hl (by decide) rfl (fun ls hl => ?_)
        refine lv_iconst (v := (0 : Int32)) hx hb dX9_cut_50 (by decide) ?_
        obtain ⟨x6_839, ex6_839, h⟩ := lt_e h
        refine top_i ex6_839 ?_
        refine lv_istore (lv' := [(6, .int x6_839), (5, .int x5_838), (0, .ref (ad 100)), (1, .int a1), (2, .int a2), (3, .int a3), (4, .int a4)]) hx hb dX9_cut_51 hl (by decide) rfl (fun ls hl => ?_)
        exact L53  4000 a1 a2 a4 x5_838 x6_839 S_835 h _ _ _ (lv_sub hl [2, 3, 4, 6, 1, 0] rfl) w
      · have h := br_n q h
        refine lv_bipush (v := (-5 : Int32)) hx hb dX9_cut_37 (by decide) ?_
        exact mw_iret cx (rt_e h) w dX9_cut_39
    · have h := br_p q h
      exact J21   S_826 h _ _ _ (lv_sub hl [] rfl) w
def mm_opened_16  (S : MS) : Option (Int32 × MS) := some ((-1 : Int32), S)
def mm_opened_76 (k48 : Int32 → Int32 → Int32 → Int32 → MS → Option (Int32 × MS)) (x1 : Int32) (x2 : Int32) (x4 : Int32) (t0 : Int32) (t1 : Int32) (S : MS) : Option (Int32 × MS) := lt_ ((t0 ||| t1)) (fun x3_201 => lt_ (x4 + (1 : Int32)) (fun x4_202 => k48 x1 x2 x3_201 x4_202 S))
def mm_opened_171 (k126 : Int32 → Int32 → Int32 → Int32 → MS → Option (Int32 × MS)) (x1 : Int32) (x3 : Int32) (x5 : Int32) (t0 : Int32) (t1 : Int32) (S : MS) : Option (Int32 × MS) := lt_ ((t0 ||| t1)) (fun x4_303 => lt_ (x5 + (1 : Int32)) (fun x5_304 => k126 x1 x3 x4_303 x5_304 S))
def mm_opened_170 (k126 : Int32 → Int32 → Int32 → Int32 → MS → Option (Int32 × MS)) (x1 : Int32) (x3 : Int32) (x5 : Int32) (t0 : Int32) (S : MS) : Option (Int32 × MS) := mm_opened_171 k126 x1 x3 x5 t0 (0 : Int32) S
def mm_opened_126 (k126 : Int32 → Int32 → Int32 → Int32 → MS → Option (Int32 × MS)) (x1 : Int32) (x3 : Int32) (x4 : Int32) (x5 : Int32) (S : MS) : Option (Int32 × MS) := if (S.1 0) ≤ x5 then (some (x4, S)) else (if x5 = x1 then (mm_opened_170 k126 x1 x3 x5 x4 S) else (ck (vin x5 14) (if (S.2.1 29 (x5).toNatClampNeg) = (0 : Int32) then (mm_opened_170 k126 x1 x3 x5 x4 S) else (bd (mm_has S x3 x5) (fun r_507 S_506 => if r_507 = (0 : Int32) then (mm_opened_171 k126 x1 x3 x5 x4 ((1 : Int32) <<< (x5 &&& 31)) S_506) else (mm_opened_170 k126 x1 x3 x5 x4 S_506))))))
def mm_opened_126L : Nat → Int32 → Int32 → Int32 → Int32 → MS → Option (Int32 × MS)
  | 0, _, _, _, _, _ => none
  | n + 1, x1, x3, x4, x5, S => mm_opened_126  (mm_opened_126L  n) x1 x3 x4 x5 S
def mm_opened_48 (k48 : Int32 → Int32 → Int32 → Int32 → MS → Option (Int32 × MS)) (x1 : Int32) (x2 : Int32) (x3 : Int32) (x4 : Int32) (S : MS) : Option (Int32 × MS) := if (S.1 0) ≤ x4 then (ck (vin x1 14) (lt_ (mP S 24 ((S.1 1) ||| (S.2.1 6 (x1).toNatClampNeg))) (fun S_610 => ck (vin x1 14) (ck (vin (S_610.2.1 5 (x1).toNatClampNeg) 8) (lt_ (mR S_610 27 ((S_610.2.1 5 (x1).toNatClampNeg)).toNatClampNeg (1 : Int32)) (fun S_613 => bd (mm_findHeard S_613 (S_613.1 0) x2) (fun _ S_614 => lt_ ((0 : Int32)) (fun x4_617 => lt_ ((0 : Int32)) (fun x5_618 => mm_opened_126L  4000 x1 x3 x4_617 x5_618 S_614))))))))) else (ck (vin x4 14) (if (S.2.1 29 (x4).toNatClampNeg) = (0 : Int32) then (mm_opened_76 k48 x1 x2 x4 x3 (0 : Int32) S) else (mm_opened_76 k48 x1 x2 x4 x3 ((1 : Int32) <<< (x4 &&& 31)) S)))
def mm_opened_48L : Nat → Int32 → Int32 → Int32 → Int32 → MS → Option (Int32 × MS)
  | 0, _, _, _, _, _ => none
  | n + 1, x1, x2, x3, x4, S => mm_opened_48  (mm_opened_48L  n) x1 x2 x3 x4 S
def mm_opened (S : MS) (a1 : Int32) (a2 : Int32) : Option (Int32 × MS) := bd (mm_isWord S a1) (fun r_721 S_720 => if r_721 = (0 : Int32) then (mm_opened_16   S_720) else (bd (mm_isLand S_720 a2) (fun r_724 S_723 => if r_724 = (0 : Int32) then (mm_opened_16   S_723) else (bd (mm_asItIs S_723 ) (fun _ S_726 => bd (mm_findHeard S_726 (S_726.1 0) a2) (fun _ S_729 => ck (vin a1 14) (if (S_729.2.1 29 (a1).toNatClampNeg) = (0 : Int32) then (some ((-3 : Int32), S_729)) else (lt_ ((0 : Int32)) (fun x3_733 => lt_ ((0 : Int32)) (fun x4_734 => mm_opened_48L  4000 a1 a2 x3_733 x4_734 S_729))))))))))
abbrev wu_X9_opened : List Cond := .code yX9_opened cX9_opened 6 (some .int) :: wsL_law
theorem ud_X9_opened : yX9_opened.cls = RX9 ∧ yX9_opened.cls ≠ "java/lang/invoke/MethodHandle" ∧ yX9_opened.cls ≠ "java/lang/invoke/VarHandle" ∧ (parseMethodDescriptor yX9_opened.desc).map (fun d => d.parameters.length) = some 2 := by decide +kernel
abbrev rmX9_opened : Room := { frames := 7, cells := 0, slots := 0, locals := 169 }
set_option maxHeartbeats 4000000 in
set_option maxRecDepth 100000 in
theorem cc_opened (l : Launch) (D : va_G) (cs : Nat → ClassId) (ad : Nat → Nat) (S T : MS) (a1 : Int32) (a2 : Int32) (r0 : Int32) (h : mm_opened S a1 a2 = some (r0, T)) : MetI l yX9_opened wu_X9_opened rmX9_opened D cs ad [.int a1, .int a2] S T r0 := by
  refine mo_I (ty := .int) (cc := cX9_opened) (maxL := 6) ⟨by decide, rfl⟩ rfl (Nat.le_of_ble_eq_true rfl) ?_
  intro p e s m args below meth c ls cx hl w
  have hx := cx.1
  have hb := cx.2.1
  have hts := cx.2.2.2.1
  have hown := cx.2.2.2.2.1
  have hin : ∀ w ∈ wsX90, w ∈ wu_X9_opened := fun _ hq => List.mem_cons_of_mem _ (inlX9 _ hq)
  have hl : lv_has ls 6 [(0, .ref (ad 100)), (1, .int a1), (2, .int a2)] := hl
  have J16 : ∀  (S : MS), mm_opened_16   S = some (r0, T) → mGo p l e rmX9_opened s m args below meth c 6 D cs ad (mQI below D cs ad args s r0 T) 16 [] [] S := by
    intro  S h H locs ls hl w
    unfold mm_opened_16 at h
    refine lv_iconst (v := (-1 : Int32)) hx hb dX9_opened_16 (by decide) ?_
    exact mw_iret cx (rt_e h) w dX9_opened_17
  have J76 : ∀ (k48 : Int32 → Int32 → Int32 → Int32 → MS → Option (Int32 × MS)) (hk48 : ∀ (x1 : Int32) (x2 : Int32) (x3 : Int32) (x4 : Int32) (S : MS), k48 x1 x2 x3 x4 S = some (r0, T) → mGo p l e rmX9_opened s m args below meth c 6 D cs ad (mQI below D cs ad args s r0 T) 48 [(0, .ref (ad 100)), (1, .int x1), (2, .int x2), (3, .int x3), (4, .int x4)] [] S) (x1 : Int32) (x2 : Int32) (x4 : Int32) (t0 : Int32) (t1 : Int32) (S : MS), mm_opened_76 k48 x1 x2 x4 t0 t1 S = some (r0, T) → mGo p l e rmX9_opened s m args below meth c 6 D cs ad (mQI below D cs ad args s r0 T) 76 [(0, .ref (ad 100)), (1, .int x1), (2, .int x2), (4, .int x4)] [.int t1, .int t0] S := by
    intro k48 hk48 x1 x2 x4 t0 t1 S h H locs ls hl w
    unfold mm_opened_76 at h
    refine lv_ior hx hb dX9_opened_76 ?_
    obtain ⟨x3_201, ex3_201, h⟩ := lt_e h
    refine top_i ex3_201 ?_
    refine lv_istore_n (lv' := [(3, .int x3_201), (0, .ref (ad 100)), (1, .int x1), (2, .int x2), (4, .int x4)]) hx hb dX9_opened_77 rfl hl (by decide) rfl (fun ls hl => ?_)
    obtain ⟨x4_202, ex4_202, h⟩ := lt_e h
    refine lv_iinc (v := x4_202) (lv' := [(4, .int x4_202), (3, .int x3_201), (0, .ref (ad 100)), (1, .int x1), (2, .int x2)]) hx hb dX9_opened_78 hl (k := 4) rfl (by rw [ex4_202]; rfl) (by decide) rfl (fun ls hl => ?_)
    refine lv_goto (tgt := 48) hx hb dX9_opened_81 (by decide) ?_
    exact hk48 x1 x2 x3_201 x4_202 S h _ _ _ (lv_sub hl [2, 3, 4, 1, 0] rfl) w
  have J171 : ∀ (k126 : Int32 → Int32 → Int32 → Int32 → MS → Option (Int32 × MS)) (hk126 : ∀ (x1 : Int32) (x3 : Int32) (x4 : Int32) (x5 : Int32) (S : MS), k126 x1 x3 x4 x5 S = some (r0, T) → mGo p l e rmX9_opened s m args below meth c 6 D cs ad (mQI below D cs ad args s r0 T) 126 [(0, .ref (ad 100)), (1, .int x1), (3, .int x3), (4, .int x4), (5, .int x5)] [] S) (x1 : Int32) (x3 : Int32) (x5 : Int32) (t0 : Int32) (t1 : Int32) (S : MS), mm_opened_171 k126 x1 x3 x5 t0 t1 S = some (r0, T) → mGo p l e rmX9_opened s m args below meth c 6 D cs ad (mQI below D cs ad args s r0 T) 171 [(0, .ref (ad 100)), (1, .int x1), (3, .int x3), (5, .int x5)] [.int t1, .int t0] S := by
    intro k126 hk126 x1 x3 x5 t0 t1 S h H locs ls hl w
    unfold mm_opened_171 at h
    refine lv_ior hx hb dX9_opened_171 ?_
    obtain ⟨x4_303, ex4_303, h⟩ := lt_e h
    refine top_i ex4_303 ?_
    refine lv_istore (lv' := [(4, .int x4_303), (0, .ref (ad 100)), (1, .int x1), (3, .int x3), (5, .int x5)]) hx hb dX9_opened_172 hl (by decide) rfl (fun ls hl => ?_)
    obtain ⟨x5_304, ex5_304, h⟩ := lt_e h
    refine lv_iinc (v := x5_304) (lv' := [(5, .int x5_304), (4, .int x4_303), (0, .ref (ad 100)), (1, .int x1), (3, .int x3)]) hx hb dX9_opened_174 hl (k := 4) rfl (by rw [ex5_304]; rfl) (by decide) rfl (fun ls hl => ?_)
    refine lv_goto (tgt := 126) hx hb dX9_opened_177 (by decide) ?_
    exact hk126 x1 x3 x4_303 x5_304 S h _ _ _ (lv_sub hl [2, 3, 4, 1, 0] rfl) w
  have J170 : ∀ (k126 : Int32 → Int32 → Int32 → Int32 → MS → Option (Int32 × MS)) (hk126 : ∀ (x1 : Int32) (x3 : Int32) (x4 : Int32) (x5 : Int32) (S : MS), k126 x1 x3 x4 x5 S = some (r0, T) → mGo p l e rmX9_opened s m args below meth c 6 D cs ad (mQI below D cs ad args s r0 T) 126 [(0, .ref (ad 100)), (1, .int x1), (3, .int x3), (4, .int x4), (5, .int x5)] [] S) (x1 : Int32) (x3 : Int32) (x5 : Int32) (t0 : Int32) (S : MS), mm_opened_170 k126 x1 x3 x5 t0 S = some (r0, T) → mGo p l e rmX9_opened s m args below meth c 6 D cs ad (mQI below D cs ad args s r0 T) 170 [(0, .ref (ad 100)), (1, .int x1), (3, .int x3), (5, .int x5)] [.int t0] S := by
    intro k126 hk126 x1 x3 x5 t0 S h H locs ls hl w
    unfold mm_opened_170 at h
    refine lv_iconst (v := (0 : Int32)) hx hb dX9_opened_170 (by decide) ?_
    exact J171 k126 hk126 x1 x3 x5 t0 (0 : Int32) S h _ _ _ (lv_sub hl [0, 1, 2, 3] rfl) w
  have L126 : ∀ (n : Nat) (x1 : Int32) (x3 : Int32) (x4 : Int32) (x5 : Int32) (S : MS), mm_opened_126L  n x1 x3 x4 x5 S = some (r0, T) → mGo p l e rmX9_opened s m args below meth c 6 D cs ad (mQI below D cs ad args s r0 T) 126 [(0, .ref (ad 100)), (1, .int x1), (3, .int x3), (4, .int x4), (5, .int x5)] [] S := by
    intro n
    induction n with
    | zero =>
      intro x1 x3 x4 x5 S h
      have h : none = some (r0, T) := h
      cases h
    | succ n hk126 =>
      intro x1 x3 x4 x5 S h H locs ls hl w
      have h : mm_opened_126  (mm_opened_126L  n) x1 x3 x4 x5 S = some (r0, T) := h
      generalize mm_opened_126L  n = k126 at h hk126
      unfold mm_opened_126 at h
      refine lv_iload hx hb dX9_opened_126 (lv_at hl 4 rfl) ?_
      refine lv_aload_n hx hb dX9_opened_128 rfl (lv_at hl 0 rfl) ?_
      refine mw_getI cx hin w 0 (by decide) (List.mem_cons_of_mem _ uf_RX9_7) dX9_opened_129 ?_
      refine lv_icmp_ge (tgt := 180) hx hb dX9_opened_132 (by decide) (fun q => ?_) (fun q => ?_)
      · have h := br_p q h
        refine lv_iload hx hb dX9_opened_180 (lv_at hl 3 rfl) ?_
        exact mw_iret cx (rt_e h) w dX9_opened_182
      · have h := br_n q h
        refine lv_iload hx hb dX9_opened_135 (lv_at hl 3 rfl) ?_
        refine lv_iload hx hb dX9_opened_137 (lv_at hl 4 rfl) ?_
        refine lv_iload_n hx hb dX9_opened_139 rfl (lv_at hl 1 rfl) ?_
        refine lv_icmp_eq (tgt := 170) hx hb dX9_opened_140 (by decide) (fun q => ?_) (fun q => ?_)
        · have h := br_p q h
          exact J170 k126 hk126 x1 x3 x5 x4 S h _ _ _ (lv_sub hl [0, 1, 2, 4] rfl) w
        · have h := br_n q h
          refine lv_aload_n hx hb dX9_opened_143 rfl (lv_at hl 0 rfl) ?_
          refine mw_getR cx hin w 29 (by decide) (List.mem_cons_of_mem _ uf_RX9_99) dX9_opened_144 ?_
          refine lv_iload hx hb dX9_opened_147 (lv_at hl 4 rfl) ?_
          obtain ⟨hq_505, h⟩ := ck_e h
          refine mw_zald cx w 17 29 14 (by decide) hq_505 dX9_opened_149 ?_
          refine lv_if_eq (tgt := 170) hx hb dX9_opened_150 (by decide) (fun q => ?_) (fun q => ?_)
          · have h := br_p q h
            exact J170 k126 hk126 x1 x3 x5 x4 S h _ _ _ (lv_sub hl [0, 1, 2, 4] rfl) w
          · have h := br_n q h
            refine lv_aload_n hx hb dX9_opened_153 rfl (lv_at hl 0 rfl) ?_
            refine lv_iload_n hx hb dX9_opened_154 rfl (lv_at hl 2 rfl) ?_
            refine lv_iload hx hb dX9_opened_155 (lv_at hl 4 rfl) ?_
            obtain ⟨r_507, S_506, hc_508, h⟩ := bd_e h
            refine mw_calli (As := [.int x3, .int x5]) (rest := [.int x4]) cx (cc_has l D cs ad S S_506 x3 x5 r_507 hc_508) (cwV 2 hts (uG uw_X9_has ul_RX9_189 ui_X9_has us_RX9_X9_has un_RX9) rfl rfl rfl ud_X9_has ⟨Nat.le_of_ble_eq_true rfl, Nat.le_of_ble_eq_true rfl⟩) w rfl hl.1 rfl (Nat.le_of_ble_eq_true rfl) dX9_opened_157 (fun H locs w => ?_)
            refine lv_if_ne (tgt := 170) hx hb dX9_opened_160 (by decide) (fun q => ?_) (fun q => ?_)
            · have h := br_n q h
              exact J170 k126 hk126 x1 x3 x5 x4 S_506 h _ _ _ (lv_sub hl [0, 1, 2, 4] rfl) w
            · have h := br_p q h
              refine lv_iconst (v := (1 : Int32)) hx hb dX9_opened_163 (by decide) ?_
              refine lv_iload hx hb dX9_opened_164 (lv_at hl 4 rfl) ?_
              refine lv_ishl hx hb dX9_opened_166 ?_
              refine lv_goto (tgt := 171) hx hb dX9_opened_167 (by decide) ?_
              exact J171 k126 hk126 x1 x3 x5 x4 ((1 : Int32) <<< (x5 &&& 31)) S_506 h _ _ _ (lv_sub hl [0, 1, 2, 4] rfl) w
  have L48 : ∀ (n : Nat) (x1 : Int32) (x2 : Int32) (x3 : Int32) (x4 : Int32) (S : MS), mm_opened_48L  n x1 x2 x3 x4 S = some (r0, T) → mGo p l e rmX9_opened s m args below meth c 6 D cs ad (mQI below D cs ad args s r0 T) 48 [(0, .ref (ad 100)), (1, .int x1), (2, .int x2), (3, .int x3), (4, .int x4)] [] S := by
    intro n
    induction n with
    | zero =>
      intro x1 x2 x3 x4 S h
      have h : none = some (r0, T) := h
      cases h
    | succ n hk48 =>
      intro x1 x2 x3 x4 S h H locs ls hl w
      have h : mm_opened_48  (mm_opened_48L  n) x1 x2 x3 x4 S = some (r0, T) := h
      generalize mm_opened_48L  n = k48 at h hk48
      unfold mm_opened_48 at h
      refine lv_iload hx hb dX9_opened_48 (lv_at hl 4 rfl) ?_
      refine lv_aload_n hx hb dX9_opened_50 rfl (lv_at hl 0 rfl) ?_
      refine mw_getI cx hin w 0 (by decide) (List.mem_cons_of_mem _ uf_RX9_7) dX9_opened_51 ?_
      refine lv_icmp_ge (tgt := 84) hx hb dX9_opened_54 (by decide) (fun q => ?_) (fun q => ?_)
      · have h := br_p q h
        refine lv_aload_n hx hb dX9_opened_84 rfl (lv_at hl 0 rfl) ?_
        refine lv_aload_n hx hb dX9_opened_85 rfl (lv_at hl 0 rfl) ?_
        refine mw_getI cx hin w 1 (by decide) (List.mem_cons_of_mem _ uf_RX9_13) dX9_opened_86 ?_
        refine lv_aload_n hx hb dX9_opened_89 rfl (lv_at hl 0 rfl) ?_
        refine mw_getR cx hin w 6 (by decide) (List.mem_cons_of_mem _ uf_RX9_29) dX9_opened_90 ?_
        refine lv_iload_n hx hb dX9_opened_93 rfl (lv_at hl 1 rfl) ?_
        obtain ⟨hq_609, h⟩ := ck_e h
        refine mw_iald cx w 3 6 14 (by decide) hq_609 dX9_opened_94 ?_
        refine lv_ior hx hb dX9_opened_95 ?_
        obtain ⟨S_610, eS_610, h⟩ := lt_e h
        refine mw_putI cx hin w 24 eS_610 (by decide +kernel) (List.mem_cons_of_mem _ uf_RX9_83) dX9_opened_96 (fun H locs w => ?_)
        refine lv_aload_n hx hb dX9_opened_99 rfl (lv_at hl 0 rfl) ?_
        refine mw_getR cx hin w 27 (by decide) (List.mem_cons_of_mem _ uf_RX9_92) dX9_opened_100 ?_
        refine lv_aload_n hx hb dX9_opened_103 rfl (lv_at hl 0 rfl) ?_
        refine mw_getR cx hin w 5 (by decide) (List.mem_cons_of_mem _ uf_RX9_26) dX9_opened_104 ?_
        refine lv_iload_n hx hb dX9_opened_107 rfl (lv_at hl 1 rfl) ?_
        obtain ⟨hq_611, h⟩ := ck_e h
        refine mw_iald cx w 2 5 14 (by decide) hq_611 dX9_opened_108 ?_
        refine lv_iconst (v := (1 : Int32)) hx hb dX9_opened_109 (by decide) ?_
        obtain ⟨hq_612, h⟩ := ck_e h
        obtain ⟨S_613, eS_613, h⟩ := lt_e h
        refine mw_iast cx w 15 27 8 (by decide) hq_612 eS_613 dX9_opened_110 (fun H locs w => ?_)
        refine lv_aload_n hx hb dX9_opened_111 rfl (lv_at hl 0 rfl) ?_
        refine lv_aload_n hx hb dX9_opened_112 rfl (lv_at hl 0 rfl) ?_
        refine mw_getI cx hin w 0 (by decide) (List.mem_cons_of_mem _ uf_RX9_7) dX9_opened_113 ?_
        refine lv_iload_n hx hb dX9_opened_116 rfl (lv_at hl 2 rfl) ?_
        obtain ⟨r_615, S_614, hc_616, h⟩ := bd_e h
        refine mw_callv (As := [.int (S_613.1 0), .int x2]) (rest := []) cx (cc_findHeard l D cs ad S_613 S_614 (S_613.1 0) x2 r_615 hc_616) (cwV 2 hts (uG uw_X9_findHeard ul_RX9_230 ui_X9_findHeard us_RX9_X9_findHeard un_RX9) rfl rfl rfl ud_X9_findHeard ⟨Nat.le_of_ble_eq_true rfl, Nat.le_of_ble_eq_true rfl⟩) w rfl hl.1 rfl (Nat.le_of_ble_eq_true rfl) dX9_opened_117 (fun H locs w => ?_)
        refine lv_iconst (v := (0 : Int32)) hx hb dX9_opened_120 (by decide) ?_
        obtain ⟨x4_617, ex4_617, h⟩ := lt_e h
        refine top_i ex4_617 ?_
        refine lv_istore (lv' := [(4, .int x4_617), (0, .ref (ad 100)), (1, .int x1), (2, .int x2), (3, .int x3)]) hx hb dX9_opened_121 hl (by decide) rfl (fun ls hl => ?_)
        refine lv_iconst (v := (0 : Int32)) hx hb dX9_opened_123 (by decide) ?_
        obtain ⟨x5_618, ex5_618, h⟩ := lt_e h
        refine top_i ex5_618 ?_
        refine lv_istore (lv' := [(5, .int x5_618), (4, .int x4_617), (0, .ref (ad 100)), (1, .int x1), (2, .int x2), (3, .int x3)]) hx hb dX9_opened_124 hl (by decide) rfl (fun ls hl => ?_)
        exact L126  4000 x1 x3 x4_617 x5_618 S_614 h _ _ _ (lv_sub hl [2, 3, 5, 1, 0] rfl) w
      · have h := br_n q h
        refine lv_iload_n hx hb dX9_opened_57 rfl (lv_at hl 3 rfl) ?_
        refine lv_aload_n hx hb dX9_opened_58 rfl (lv_at hl 0 rfl) ?_
        refine mw_getR cx hin w 29 (by decide) (List.mem_cons_of_mem _ uf_RX9_99) dX9_opened_59 ?_
        refine lv_iload hx hb dX9_opened_62 (lv_at hl 4 rfl) ?_
        obtain ⟨hq_619, h⟩ := ck_e h
        refine mw_zald cx w 17 29 14 (by decide) hq_619 dX9_opened_64 ?_
        refine lv_if_eq (tgt := 75) hx hb dX9_opened_65 (by decide) (fun q => ?_) (fun q => ?_)
        · have h := br_p q h
          refine lv_iconst (v := (0 : Int32)) hx hb dX9_opened_75 (by decide) ?_
          exact J76 k48 hk48 x1 x2 x4 x3 (0 : Int32) S h _ _ _ (lv_sub hl [0, 1, 2, 4] rfl) w
        · have h := br_n q h
          refine lv_iconst (v := (1 : Int32)) hx hb dX9_opened_68 (by decide) ?_
          refine lv_iload hx hb dX9_opened_69 (lv_at hl 4 rfl) ?_
          refine lv_ishl hx hb dX9_opened_71 ?_
          refine lv_goto (tgt := 76) hx hb dX9_opened_72 (by decide) ?_
          exact J76 k48 hk48 x1 x2 x4 x3 ((1 : Int32) <<< (x4 &&& 31)) S h _ _ _ (lv_sub hl [0, 1, 2, 4] rfl) w
  unfold mm_opened at h
  refine lv_aload_n hx hb dX9_opened_0 rfl (lv_at hl 0 rfl) ?_
  refine lv_iload_n hx hb dX9_opened_1 rfl (lv_at hl 1 rfl) ?_
  obtain ⟨r_721, S_720, hc_722, h⟩ := bd_e h
  refine mw_calli (As := [.int a1]) (rest := []) cx (cc_isWord l D cs ad S S_720 a1 r_721 hc_722) (cwV 1 hts (uG uw_X9_isWord ul_RX9_137 ui_X9_isWord us_RX9_X9_isWord un_RX9) rfl rfl rfl ud_X9_isWord ⟨Nat.le_of_ble_eq_true rfl, Nat.le_of_ble_eq_true rfl⟩) w rfl hl.1 rfl (Nat.le_of_ble_eq_true rfl) dX9_opened_2 (fun H locs w => ?_)
  refine lv_if_eq (tgt := 16) hx hb dX9_opened_5 (by decide) (fun q => ?_) (fun q => ?_)
  · have h := br_p q h
    exact J16   S_720 h _ _ _ (lv_sub hl [] rfl) w
  · have h := br_n q h
    refine lv_aload_n hx hb dX9_opened_8 rfl (lv_at hl 0 rfl) ?_
    refine lv_iload_n hx hb dX9_opened_9 rfl (lv_at hl 2 rfl) ?_
    obtain ⟨r_724, S_723, hc_725, h⟩ := bd_e h
    refine mw_calli (As := [.int a2]) (rest := []) cx (cc_isLand l D cs ad S_720 S_723 a2 r_724 hc_725) (cwV 1 hts (uG uw_X9_isLand ul_RX9_177 ui_X9_isLand us_RX9_X9_isLand un_RX9) rfl rfl rfl ud_X9_isLand ⟨Nat.le_of_ble_eq_true rfl, Nat.le_of_ble_eq_true rfl⟩) w rfl hl.1 rfl (Nat.le_of_ble_eq_true rfl) dX9_opened_10 (fun H locs w => ?_)
    refine lv_if_ne (tgt := 18) hx hb dX9_opened_13 (by decide) (fun q => ?_) (fun q => ?_)
    · have h := br_n q h
      refine lv_aload_n hx hb dX9_opened_18 rfl (lv_at hl 0 rfl) ?_
      obtain ⟨r_727, S_726, hc_728, h⟩ := bd_e h
      refine mw_callv (As := []) (rest := []) cx (cc_asItIs l D cs ad S_723 S_726  r_727 hc_728) (cwV 0 hts (uG uw_X9_asItIs ul_RX9_211 ui_X9_asItIs us_RX9_X9_asItIs un_RX9) rfl rfl rfl ud_X9_asItIs ⟨Nat.le_of_ble_eq_true rfl, Nat.le_of_ble_eq_true rfl⟩) w rfl hl.1 rfl (Nat.le_of_ble_eq_true rfl) dX9_opened_19 (fun H locs w => ?_)
      refine lv_aload_n hx hb dX9_opened_22 rfl (lv_at hl 0 rfl) ?_
      refine lv_aload_n hx hb dX9_opened_23 rfl (lv_at hl 0 rfl) ?_
      refine mw_getI cx hin w 0 (by decide) (List.mem_cons_of_mem _ uf_RX9_7) dX9_opened_24 ?_
      refine lv_iload_n hx hb dX9_opened_27 rfl (lv_at hl 2 rfl) ?_
      obtain ⟨r_730, S_729, hc_731, h⟩ := bd_e h
      refine mw_callv (As := [.int (S_726.1 0), .int a2]) (rest := []) cx (cc_findHeard l D cs ad S_726 S_729 (S_726.1 0) a2 r_730 hc_731) (cwV 2 hts (uG uw_X9_findHeard ul_RX9_230 ui_X9_findHeard us_RX9_X9_findHeard un_RX9) rfl rfl rfl ud_X9_findHeard ⟨Nat.le_of_ble_eq_true rfl, Nat.le_of_ble_eq_true rfl⟩) w rfl hl.1 rfl (Nat.le_of_ble_eq_true rfl) dX9_opened_28 (fun H locs w => ?_)
      refine lv_aload_n hx hb dX9_opened_31 rfl (lv_at hl 0 rfl) ?_
      refine mw_getR cx hin w 29 (by decide) (List.mem_cons_of_mem _ uf_RX9_99) dX9_opened_32 ?_
      refine lv_iload_n hx hb dX9_opened_35 rfl (lv_at hl 1 rfl) ?_
      obtain ⟨hq_732, h⟩ := ck_e h
      refine mw_zald cx w 17 29 14 (by decide) hq_732 dX9_opened_36 ?_
      refine lv_if_ne (tgt := 43) hx hb dX9_opened_37 (by decide) (fun q => ?_) (fun q => ?_)
      · have h := br_n q h
        refine lv_iconst (v := (0 : Int32)) hx hb dX9_opened_43 (by decide) ?_
        obtain ⟨x3_733, ex3_733, h⟩ := lt_e h
        refine top_i ex3_733 ?_
        refine lv_istore_n (lv' := [(3, .int x3_733), (0, .ref (ad 100)), (1, .int a1), (2, .int a2)]) hx hb dX9_opened_44 rfl hl (by decide) rfl (fun ls hl => ?_)
        refine lv_iconst (v := (0 : Int32)) hx hb dX9_opened_45 (by decide) ?_
        obtain ⟨x4_734, ex4_734, h⟩ := lt_e h
        refine top_i ex4_734 ?_
        refine lv_istore (lv' := [(4, .int x4_734), (3, .int x3_733), (0, .ref (ad 100)), (1, .int a1), (2, .int a2)]) hx hb dX9_opened_46 hl (by decide) rfl (fun ls hl => ?_)
        exact L48  4000 a1 a2 x3_733 x4_734 S_729 h _ _ _ (lv_sub hl [2, 3, 4, 1, 0] rfl) w
      · have h := br_p q h
        refine lv_bipush (v := (-3 : Int32)) hx hb dX9_opened_40 (by decide) ?_
        exact mw_iret cx (rt_e h) w dX9_opened_42
    · have h := br_p q h
      exact J16   S_723 h _ _ _ (lv_sub hl [] rfl) w
def mm_provedOf_66 (k10 : Int32 → Int32 → MS → Option (Int32 × MS)) (k34 : Int32 → Int32 → Int32 → MS → Option (Int32 × MS)) (x1 : Int32) (x2 : Int32) (x3 : Int32) (t1 : Int32) (t2 : Int32) (S : MS) : Option (Int32 × MS) := lt_ (mP S 24 (t1 ||| t2)) (fun S_101 => lt_ (x3 + (1 : Int32)) (fun x3_102 => k34 x1 x2 x3_102 S_101))
def mm_provedOf_34 (k10 : Int32 → Int32 → MS → Option (Int32 × MS)) (k34 : Int32 → Int32 → Int32 → MS → Option (Int32 × MS)) (x1 : Int32) (x2 : Int32) (x3 : Int32) (S : MS) : Option (Int32 × MS) := if (S.1 0) ≤ x3 then (k10 x1 x2 S) else (ck (vin x3 14) (if (S.2.1 29 (x3).toNatClampNeg) = (0 : Int32) then (mm_provedOf_66 k10 k34 x1 x2 x3 (S.1 24) (0 : Int32) S) else (ck (vin x3 14) (mm_provedOf_66 k10 k34 x1 x2 x3 (S.1 24) (S.2.1 6 (x3).toNatClampNeg) S))))
def mm_provedOf_34L (k10 : Int32 → Int32 → MS → Option (Int32 × MS)) : Nat → Int32 → Int32 → Int32 → MS → Option (Int32 × MS)
  | 0, _, _, _, _ => none
  | n + 1, x1, x2, x3, S => mm_provedOf_34 k10 (mm_provedOf_34L k10 n) x1 x2 x3 S
def mm_provedOf_10 (k10 : Int32 → Int32 → MS → Option (Int32 × MS)) (x1 : Int32) (x2 : Int32) (S : MS) : Option (Int32 × MS) := if (S.1 24) = x2 then (some ((S.1 24), S)) else (lt_ ((S.1 24)) (fun x2_305 => bd (mm_findHeard S (S.1 0) x1) (fun _ S_306 => lt_ ((0 : Int32)) (fun x3_309 => mm_provedOf_34L k10 4000 x1 x2_305 x3_309 S_306))))
def mm_provedOf_10L : Nat → Int32 → Int32 → MS → Option (Int32 × MS)
  | 0, _, _, _ => none
  | n + 1, x1, x2, S => mm_provedOf_10  (mm_provedOf_10L  n) x1 x2 S
def mm_provedOf (S : MS) (a1 : Int32) : Option (Int32 × MS) := lt_ ((-1 : Int32)) (fun x2_410 => lt_ (mP S 24 (S.1 1)) (fun S_411 => mm_provedOf_10L  4000 a1 x2_410 S_411))
abbrev wu_X9_provedOf : List Cond := .code yX9_provedOf cX9_provedOf 4 (some .int) :: wsL_law
theorem ud_X9_provedOf : yX9_provedOf.cls = RX9 ∧ yX9_provedOf.cls ≠ "java/lang/invoke/MethodHandle" ∧ yX9_provedOf.cls ≠ "java/lang/invoke/VarHandle" ∧ (parseMethodDescriptor yX9_provedOf.desc).map (fun d => d.parameters.length) = some 1 := by decide +kernel
abbrev rmX9_provedOf : Room := { frames := 7, cells := 0, slots := 0, locals := 169 }
set_option maxHeartbeats 4000000 in
set_option maxRecDepth 100000 in
theorem cc_provedOf (l : Launch) (D : va_G) (cs : Nat → ClassId) (ad : Nat → Nat) (S T : MS) (a1 : Int32) (r0 : Int32) (h : mm_provedOf S a1 = some (r0, T)) : MetI l yX9_provedOf wu_X9_provedOf rmX9_provedOf D cs ad [.int a1] S T r0 := by
  refine mo_I (ty := .int) (cc := cX9_provedOf) (maxL := 4) ⟨by decide, rfl⟩ rfl (Nat.le_of_ble_eq_true rfl) ?_
  intro p e s m args below meth c ls cx hl w
  have hx := cx.1
  have hb := cx.2.1
  have hts := cx.2.2.2.1
  have hown := cx.2.2.2.2.1
  have hin : ∀ w ∈ wsX90, w ∈ wu_X9_provedOf := fun _ hq => List.mem_cons_of_mem _ (inlX9 _ hq)
  have hl : lv_has ls 4 [(0, .ref (ad 100)), (1, .int a1)] := hl
  have J66 : ∀ (k10 : Int32 → Int32 → MS → Option (Int32 × MS)) (hk10 : ∀ (x1 : Int32) (x2 : Int32) (S : MS), k10 x1 x2 S = some (r0, T) → mGo p l e rmX9_provedOf s m args below meth c 4 D cs ad (mQI below D cs ad args s r0 T) 10 [(0, .ref (ad 100)), (1, .int x1), (2, .int x2)] [] S) (k34 : Int32 → Int32 → Int32 → MS → Option (Int32 × MS)) (hk34 : ∀ (x1 : Int32) (x2 : Int32) (x3 : Int32) (S : MS), k34 x1 x2 x3 S = some (r0, T) → mGo p l e rmX9_provedOf s m args below meth c 4 D cs ad (mQI below D cs ad args s r0 T) 34 [(0, .ref (ad 100)), (1, .int x1), (2, .int x2), (3, .int x3)] [] S) (x1 : Int32) (x2 : Int32) (x3 : Int32) (t1 : Int32) (t2 : Int32) (S : MS), mm_provedOf_66 k10 k34 x1 x2 x3 t1 t2 S = some (r0, T) → mGo p l e rmX9_provedOf s m args below meth c 4 D cs ad (mQI below D cs ad args s r0 T) 66 [(0, .ref (ad 100)), (1, .int x1), (2, .int x2), (3, .int x3)] [.int t2, .int t1, .ref (ad 100)] S := by
    intro k10 hk10 k34 hk34 x1 x2 x3 t1 t2 S h H locs ls hl w
    unfold mm_provedOf_66 at h
    refine lv_ior hx hb dX9_provedOf_66 ?_
    obtain ⟨S_101, eS_101, h⟩ := lt_e h
    refine mw_putI cx hin w 24 eS_101 (by decide +kernel) (List.mem_cons_of_mem _ uf_RX9_83) dX9_provedOf_67 (fun H locs w => ?_)
    obtain ⟨x3_102, ex3_102, h⟩ := lt_e h
    refine lv_iinc (v := x3_102) (lv' := [(3, .int x3_102), (0, .ref (ad 100)), (1, .int x1), (2, .int x2)]) hx hb dX9_provedOf_70 hl (k := 3) rfl (by rw [ex3_102]; rfl) (by decide) rfl (fun ls hl => ?_)
    refine lv_goto (tgt := 34) hx hb dX9_provedOf_73 (by decide) ?_
    exact hk34 x1 x2 x3_102 S_101 h _ _ _ (lv_sub hl [1, 2, 3, 0] rfl) w
  have L34 : ∀ (k10 : Int32 → Int32 → MS → Option (Int32 × MS)) (hk10 : ∀ (x1 : Int32) (x2 : Int32) (S : MS), k10 x1 x2 S = some (r0, T) → mGo p l e rmX9_provedOf s m args below meth c 4 D cs ad (mQI below D cs ad args s r0 T) 10 [(0, .ref (ad 100)), (1, .int x1), (2, .int x2)] [] S) (n : Nat) (x1 : Int32) (x2 : Int32) (x3 : Int32) (S : MS), mm_provedOf_34L k10 n x1 x2 x3 S = some (r0, T) → mGo p l e rmX9_provedOf s m args below meth c 4 D cs ad (mQI below D cs ad args s r0 T) 34 [(0, .ref (ad 100)), (1, .int x1), (2, .int x2), (3, .int x3)] [] S := by
    intro k10 hk10 n
    induction n with
    | zero =>
      intro x1 x2 x3 S h
      have h : none = some (r0, T) := h
      cases h
    | succ n hk34 =>
      intro x1 x2 x3 S h H locs ls hl w
      have h : mm_provedOf_34 k10 (mm_provedOf_34L k10 n) x1 x2 x3 S = some (r0, T) := h
      generalize mm_provedOf_34L k10 n = k34 at h hk34
      unfold mm_provedOf_34 at h
      refine lv_iload_n hx hb dX9_provedOf_34 rfl (lv_at hl 3 rfl) ?_
      refine lv_aload_n hx hb dX9_provedOf_35 rfl (lv_at hl 0 rfl) ?_
      refine mw_getI cx hin w 0 (by decide) (List.mem_cons_of_mem _ uf_RX9_7) dX9_provedOf_36 ?_
      refine lv_icmp_ge (tgt := 76) hx hb dX9_provedOf_39 (by decide) (fun q => ?_) (fun q => ?_)
      · have h := br_p q h
        refine lv_goto (tgt := 10) hx hb dX9_provedOf_76 (by decide) ?_
        exact hk10 x1 x2 S h _ _ _ (lv_sub hl [0, 1, 2] rfl) w
      · have h := br_n q h
        refine lv_aload_n hx hb dX9_provedOf_42 rfl (lv_at hl 0 rfl) ?_
        refine lv_dup hx hb dX9_provedOf_43 rfl ?_
        refine mw_getI cx hin w 24 (by decide) (List.mem_cons_of_mem _ uf_RX9_83) dX9_provedOf_44 ?_
        refine lv_aload_n hx hb dX9_provedOf_47 rfl (lv_at hl 0 rfl) ?_
        refine mw_getR cx hin w 29 (by decide) (List.mem_cons_of_mem _ uf_RX9_99) dX9_provedOf_48 ?_
        refine lv_iload_n hx hb dX9_provedOf_51 rfl (lv_at hl 3 rfl) ?_
        obtain ⟨hq_203, h⟩ := ck_e h
        refine mw_zald cx w 17 29 14 (by decide) hq_203 dX9_provedOf_52 ?_
        refine lv_if_eq (tgt := 65) hx hb dX9_provedOf_53 (by decide) (fun q => ?_) (fun q => ?_)
        · have h := br_p q h
          refine lv_iconst (v := (0 : Int32)) hx hb dX9_provedOf_65 (by decide) ?_
          exact J66 k10 hk10 k34 hk34 x1 x2 x3 (S.1 24) (0 : Int32) S h _ _ _ (lv_sub hl [0, 1, 2, 3] rfl) w
        · have h := br_n q h
          refine lv_aload_n hx hb dX9_provedOf_56 rfl (lv_at hl 0 rfl) ?_
          refine mw_getR cx hin w 6 (by decide) (List.mem_cons_of_mem _ uf_RX9_29) dX9_provedOf_57 ?_
          refine lv_iload_n hx hb dX9_provedOf_60 rfl (lv_at hl 3 rfl) ?_
          obtain ⟨hq_204, h⟩ := ck_e h
          refine mw_iald cx w 3 6 14 (by decide) hq_204 dX9_provedOf_61 ?_
          refine lv_goto (tgt := 66) hx hb dX9_provedOf_62 (by decide) ?_
          exact J66 k10 hk10 k34 hk34 x1 x2 x3 (S.1 24) (S.2.1 6 (x3).toNatClampNeg) S h _ _ _ (lv_sub hl [0, 1, 2, 3] rfl) w
  have L10 : ∀ (n : Nat) (x1 : Int32) (x2 : Int32) (S : MS), mm_provedOf_10L  n x1 x2 S = some (r0, T) → mGo p l e rmX9_provedOf s m args below meth c 4 D cs ad (mQI below D cs ad args s r0 T) 10 [(0, .ref (ad 100)), (1, .int x1), (2, .int x2)] [] S := by
    intro n
    induction n with
    | zero =>
      intro x1 x2 S h
      have h : none = some (r0, T) := h
      cases h
    | succ n hk10 =>
      intro x1 x2 S h H locs ls hl w
      have h : mm_provedOf_10  (mm_provedOf_10L  n) x1 x2 S = some (r0, T) := h
      generalize mm_provedOf_10L  n = k10 at h hk10
      unfold mm_provedOf_10 at h
      refine lv_aload_n hx hb dX9_provedOf_10 rfl (lv_at hl 0 rfl) ?_
      refine mw_getI cx hin w 24 (by decide) (List.mem_cons_of_mem _ uf_RX9_83) dX9_provedOf_11 ?_
      refine lv_iload_n hx hb dX9_provedOf_14 rfl (lv_at hl 2 rfl) ?_
      refine lv_icmp_eq (tgt := 79) hx hb dX9_provedOf_15 (by decide) (fun q => ?_) (fun q => ?_)
      · have h := br_p q h
        refine lv_aload_n hx hb dX9_provedOf_79 rfl (lv_at hl 0 rfl) ?_
        refine mw_getI cx hin w 24 (by decide) (List.mem_cons_of_mem _ uf_RX9_83) dX9_provedOf_80 ?_
        exact mw_iret cx (rt_e h) w dX9_provedOf_83
      · have h := br_n q h
        refine lv_aload_n hx hb dX9_provedOf_18 rfl (lv_at hl 0 rfl) ?_
        refine mw_getI cx hin w 24 (by decide) (List.mem_cons_of_mem _ uf_RX9_83) dX9_provedOf_19 ?_
        obtain ⟨x2_305, ex2_305, h⟩ := lt_e h
        refine top_i ex2_305 ?_
        refine lv_istore_n (lv' := [(2, .int x2_305), (0, .ref (ad 100)), (1, .int x1)]) hx hb dX9_provedOf_22 rfl hl (by decide) rfl (fun ls hl => ?_)
        refine lv_aload_n hx hb dX9_provedOf_23 rfl (lv_at hl 1 rfl) ?_
        refine lv_aload_n hx hb dX9_provedOf_24 rfl (lv_at hl 1 rfl) ?_
        refine mw_getI cx hin w 0 (by decide) (List.mem_cons_of_mem _ uf_RX9_7) dX9_provedOf_25 ?_
        refine lv_iload_n hx hb dX9_provedOf_28 rfl (lv_at hl 2 rfl) ?_
        obtain ⟨r_307, S_306, hc_308, h⟩ := bd_e h
        refine mw_callv (As := [.int (S.1 0), .int x1]) (rest := []) cx (cc_findHeard l D cs ad S S_306 (S.1 0) x1 r_307 hc_308) (cwV 2 hts (uG uw_X9_findHeard ul_RX9_230 ui_X9_findHeard us_RX9_X9_findHeard un_RX9) rfl rfl rfl ud_X9_findHeard ⟨Nat.le_of_ble_eq_true rfl, Nat.le_of_ble_eq_true rfl⟩) w rfl hl.1 rfl (Nat.le_of_ble_eq_true rfl) dX9_provedOf_29 (fun H locs w => ?_)
        refine lv_iconst (v := (0 : Int32)) hx hb dX9_provedOf_32 (by decide) ?_
        obtain ⟨x3_309, ex3_309, h⟩ := lt_e h
        refine top_i ex3_309 ?_
        refine lv_istore_n (lv' := [(3, .int x3_309), (2, .int x2_305), (0, .ref (ad 100)), (1, .int x1)]) hx hb dX9_provedOf_33 rfl hl (by decide) rfl (fun ls hl => ?_)
        exact L34 k10 hk10 4000 x1 x2_305 x3_309 S_306 h _ _ _ (lv_sub hl [2, 3, 1, 0] rfl) w
  unfold mm_provedOf at h
  refine lv_iconst (v := (-1 : Int32)) hx hb dX9_provedOf_0 (by decide) ?_
  obtain ⟨x2_410, ex2_410, h⟩ := lt_e h
  refine top_i ex2_410 ?_
  refine lv_istore_n (lv' := [(2, .int x2_410), (0, .ref (ad 100)), (1, .int a1)]) hx hb dX9_provedOf_1 rfl hl (by decide) rfl (fun ls hl => ?_)
  refine lv_aload_n hx hb dX9_provedOf_2 rfl (lv_at hl 1 rfl) ?_
  refine lv_aload_n hx hb dX9_provedOf_3 rfl (lv_at hl 1 rfl) ?_
  refine mw_getI cx hin w 1 (by decide) (List.mem_cons_of_mem _ uf_RX9_13) dX9_provedOf_4 ?_
  obtain ⟨S_411, eS_411, h⟩ := lt_e h
  refine mw_putI cx hin w 24 eS_411 (by decide +kernel) (List.mem_cons_of_mem _ uf_RX9_83) dX9_provedOf_7 (fun H locs w => ?_)
  exact L10  4000 a1 x2_410 S_411 h _ _ _ (lv_sub hl [1, 2, 0] rfl) w
def mm_proved (S : MS) (a1 : Int32) : Option (Int32 × MS) := bd (mm_isLand S a1) (fun r_102 S_101 => if r_102 = (0 : Int32) then (some ((-1 : Int32), S_101)) else (bd (mm_asItIs S_101 ) (fun _ S_104 => bd (mm_provedOf S_104 a1) (fun r_108 S_107 => some (r_108, S_107)))))
abbrev wu_X9_proved : List Cond := .code yX9_proved cX9_proved 2 (some .int) :: wsL_law
theorem ud_X9_proved : yX9_proved.cls = RX9 ∧ yX9_proved.cls ≠ "java/lang/invoke/MethodHandle" ∧ yX9_proved.cls ≠ "java/lang/invoke/VarHandle" ∧ (parseMethodDescriptor yX9_proved.desc).map (fun d => d.parameters.length) = some 1 := by decide +kernel
abbrev rmX9_proved : Room := { frames := 8, cells := 0, slots := 0, locals := 192 }
set_option maxHeartbeats 4000000 in
set_option maxRecDepth 100000 in
theorem cc_proved (l : Launch) (D : va_G) (cs : Nat → ClassId) (ad : Nat → Nat) (S T : MS) (a1 : Int32) (r0 : Int32) (h : mm_proved S a1 = some (r0, T)) : MetI l yX9_proved wu_X9_proved rmX9_proved D cs ad [.int a1] S T r0 := by
  refine mo_I (ty := .int) (cc := cX9_proved) (maxL := 2) ⟨by decide, rfl⟩ rfl (Nat.le_of_ble_eq_true rfl) ?_
  intro p e s m args below meth c ls cx hl w
  have hx := cx.1
  have hb := cx.2.1
  have hts := cx.2.2.2.1
  have hown := cx.2.2.2.2.1
  have hl : lv_has ls 2 [(0, .ref (ad 100)), (1, .int a1)] := hl
  unfold mm_proved at h
  refine lv_aload_n hx hb dX9_proved_0 rfl (lv_at hl 0 rfl) ?_
  refine lv_iload_n hx hb dX9_proved_1 rfl (lv_at hl 1 rfl) ?_
  obtain ⟨r_102, S_101, hc_103, h⟩ := bd_e h
  refine mw_calli (As := [.int a1]) (rest := []) cx (cc_isLand l D cs ad S S_101 a1 r_102 hc_103) (cwV 1 hts (uG uw_X9_isLand ul_RX9_177 ui_X9_isLand us_RX9_X9_isLand un_RX9) rfl rfl rfl ud_X9_isLand ⟨Nat.le_of_ble_eq_true rfl, Nat.le_of_ble_eq_true rfl⟩) w rfl hl.1 rfl (Nat.le_of_ble_eq_true rfl) dX9_proved_2 (fun H locs w => ?_)
  refine lv_if_ne (tgt := 10) hx hb dX9_proved_5 (by decide) (fun q => ?_) (fun q => ?_)
  · have h := br_n q h
    refine lv_aload_n hx hb dX9_proved_10 rfl (lv_at hl 0 rfl) ?_
    obtain ⟨r_105, S_104, hc_106, h⟩ := bd_e h
    refine mw_callv (As := []) (rest := []) cx (cc_asItIs l D cs ad S_101 S_104  r_105 hc_106) (cwV 0 hts (uG uw_X9_asItIs ul_RX9_211 ui_X9_asItIs us_RX9_X9_asItIs un_RX9) rfl rfl rfl ud_X9_asItIs ⟨Nat.le_of_ble_eq_true rfl, Nat.le_of_ble_eq_true rfl⟩) w rfl hl.1 rfl (Nat.le_of_ble_eq_true rfl) dX9_proved_11 (fun H locs w => ?_)
    refine lv_aload_n hx hb dX9_proved_14 rfl (lv_at hl 0 rfl) ?_
    refine lv_iload_n hx hb dX9_proved_15 rfl (lv_at hl 1 rfl) ?_
    obtain ⟨r_108, S_107, hc_109, h⟩ := bd_e h
    refine mw_calli (As := [.int a1]) (rest := []) cx (cc_provedOf l D cs ad S_104 S_107 a1 r_108 hc_109) (cwV 1 hts (uG uw_X9_provedOf ul_RX9_243 ui_X9_provedOf us_RX9_X9_provedOf un_RX9) rfl rfl rfl ud_X9_provedOf ⟨Nat.le_of_ble_eq_true rfl, Nat.le_of_ble_eq_true rfl⟩) w rfl hl.1 rfl (Nat.le_of_ble_eq_true rfl) dX9_proved_16 (fun H locs w => ?_)
    exact mw_iret cx (rt_e h) w dX9_proved_19
  · have h := br_p q h
    refine lv_iconst (v := (-1 : Int32)) hx hb dX9_proved_8 (by decide) ?_
    exact mw_iret cx (rt_e h) w dX9_proved_9
def mm_needed_85 (k49 : Int32 → Int32 → Int32 → Int32 → MS → Option (Int32 × MS)) (x1 : Int32) (x2 : Int32) (x4 : Int32) (t0 : Int32) (t1 : Int32) (S : MS) : Option (Int32 × MS) := lt_ ((t0 ||| t1)) (fun x3_101 => lt_ (x4 + (1 : Int32)) (fun x4_102 => k49 x1 x2 x3_101 x4_102 S))
def mm_needed_49 (k49 : Int32 → Int32 → Int32 → Int32 → MS → Option (Int32 × MS)) (x1 : Int32) (x2 : Int32) (x3 : Int32) (x4 : Int32) (S : MS) : Option (Int32 × MS) := if (S.1 0) ≤ x4 then (some (x3, S)) else (lt_ (mP S 26 x4) (fun S_203 => bd (mm_provedOf S_203 x2) (fun r_205 S_204 => if (x1 &&& (r_205 ^^^ (-1 : Int32))) = (0 : Int32) then (mm_needed_85 k49 x1 x2 x4 x3 (0 : Int32) S_204) else (mm_needed_85 k49 x1 x2 x4 x3 ((1 : Int32) <<< (x4 &&& 31)) S_204))))
def mm_needed_49L : Nat → Int32 → Int32 → Int32 → Int32 → MS → Option (Int32 × MS)
  | 0, _, _, _, _, _ => none
  | n + 1, x1, x2, x3, x4, S => mm_needed_49  (mm_needed_49L  n) x1 x2 x3 x4 S
def mm_needed (S : MS) (a1 : Int32) (a2 : Int32) : Option (Int32 × MS) := bd (mm_isLand S a2) (fun r_308 S_307 => if r_308 = (0 : Int32) then (some ((-1 : Int32), S_307)) else (bd (mm_in S_307 a1 (0 : Int32) (1023 : Int32)) (fun r_311 S_310 => if r_311 = (0 : Int32) then (some ((-2 : Int32), S_310)) else (bd (mm_asItIs S_310 ) (fun _ S_313 => bd (mm_provedOf S_313 a2) (fun r_317 S_316 => if (a1 &&& (r_317 ^^^ (-1 : Int32))) = (0 : Int32) then (lt_ ((0 : Int32)) (fun x3_319 => lt_ ((0 : Int32)) (fun x4_320 => mm_needed_49L  4000 a1 a2 x3_319 x4_320 S_316))) else (some ((-5 : Int32), S_316))))))))
abbrev wu_X9_needed : List Cond := .code yX9_needed cX9_needed 5 (some .int) :: wsL_law
theorem ud_X9_needed : yX9_needed.cls = RX9 ∧ yX9_needed.cls ≠ "java/lang/invoke/MethodHandle" ∧ yX9_needed.cls ≠ "java/lang/invoke/VarHandle" ∧ (parseMethodDescriptor yX9_needed.desc).map (fun d => d.parameters.length) = some 2 := by decide +kernel
abbrev rmX9_needed : Room := { frames := 8, cells := 0, slots := 0, locals := 192 }
set_option maxHeartbeats 4000000 in
set_option maxRecDepth 100000 in
theorem cc_needed (l : Launch) (D : va_G) (cs : Nat → ClassId) (ad : Nat → Nat) (S T : MS) (a1 : Int32) (a2 : Int32) (r0 : Int32) (h : mm_needed S a1 a2 = some (r0, T)) : MetI l yX9_needed wu_X9_needed rmX9_needed D cs ad [.int a1, .int a2] S T r0 := by
  refine mo_I (ty := .int) (cc := cX9_needed) (maxL := 5) ⟨by decide, rfl⟩ rfl (Nat.le_of_ble_eq_true rfl) ?_
  intro p e s m args below meth c ls cx hl w
  have hx := cx.1
  have hb := cx.2.1
  have hts := cx.2.2.2.1
  have hown := cx.2.2.2.2.1
  have hin : ∀ w ∈ wsX90, w ∈ wu_X9_needed := fun _ hq => List.mem_cons_of_mem _ (inlX9 _ hq)
  have hl : lv_has ls 5 [(0, .ref (ad 100)), (1, .int a1), (2, .int a2)] := hl
  have J85 : ∀ (k49 : Int32 → Int32 → Int32 → Int32 → MS → Option (Int32 × MS)) (hk49 : ∀ (x1 : Int32) (x2 : Int32) (x3 : Int32) (x4 : Int32) (S : MS), k49 x1 x2 x3 x4 S = some (r0, T) → mGo p l e rmX9_needed s m args below meth c 5 D cs ad (mQI below D cs ad args s r0 T) 49 [(0, .ref (ad 100)), (1, .int x1), (2, .int x2), (3, .int x3), (4, .int x4)] [] S) (x1 : Int32) (x2 : Int32) (x4 : Int32) (t0 : Int32) (t1 : Int32) (S : MS), mm_needed_85 k49 x1 x2 x4 t0 t1 S = some (r0, T) → mGo p l e rmX9_needed s m args below meth c 5 D cs ad (mQI below D cs ad args s r0 T) 85 [(0, .ref (ad 100)), (1, .int x1), (2, .int x2), (4, .int x4)] [.int t1, .int t0] S := by
    intro k49 hk49 x1 x2 x4 t0 t1 S h H locs ls hl w
    unfold mm_needed_85 at h
    refine lv_ior hx hb dX9_needed_85 ?_
    obtain ⟨x3_101, ex3_101, h⟩ := lt_e h
    refine top_i ex3_101 ?_
    refine lv_istore_n (lv' := [(3, .int x3_101), (0, .ref (ad 100)), (1, .int x1), (2, .int x2), (4, .int x4)]) hx hb dX9_needed_86 rfl hl (by decide) rfl (fun ls hl => ?_)
    obtain ⟨x4_102, ex4_102, h⟩ := lt_e h
    refine lv_iinc (v := x4_102) (lv' := [(4, .int x4_102), (3, .int x3_101), (0, .ref (ad 100)), (1, .int x1), (2, .int x2)]) hx hb dX9_needed_87 hl (k := 4) rfl (by rw [ex4_102]; rfl) (by decide) rfl (fun ls hl => ?_)
    refine lv_goto (tgt := 49) hx hb dX9_needed_90 (by decide) ?_
    exact hk49 x1 x2 x3_101 x4_102 S h _ _ _ (lv_sub hl [2, 3, 4, 1, 0] rfl) w
  have L49 : ∀ (n : Nat) (x1 : Int32) (x2 : Int32) (x3 : Int32) (x4 : Int32) (S : MS), mm_needed_49L  n x1 x2 x3 x4 S = some (r0, T) → mGo p l e rmX9_needed s m args below meth c 5 D cs ad (mQI below D cs ad args s r0 T) 49 [(0, .ref (ad 100)), (1, .int x1), (2, .int x2), (3, .int x3), (4, .int x4)] [] S := by
    intro n
    induction n with
    | zero =>
      intro x1 x2 x3 x4 S h
      have h : none = some (r0, T) := h
      cases h
    | succ n hk49 =>
      intro x1 x2 x3 x4 S h H locs ls hl w
      have h : mm_needed_49  (mm_needed_49L  n) x1 x2 x3 x4 S = some (r0, T) := h
      generalize mm_needed_49L  n = k49 at h hk49
      unfold mm_needed_49 at h
      refine lv_iload hx hb dX9_needed_49 (lv_at hl 4 rfl) ?_
      refine lv_aload_n hx hb dX9_needed_51 rfl (lv_at hl 0 rfl) ?_
      refine mw_getI cx hin w 0 (by decide) (List.mem_cons_of_mem _ uf_RX9_7) dX9_needed_52 ?_
      refine lv_icmp_ge (tgt := 93) hx hb dX9_needed_55 (by decide) (fun q => ?_) (fun q => ?_)
      · have h := br_p q h
        refine lv_iload_n hx hb dX9_needed_93 rfl (lv_at hl 3 rfl) ?_
        exact mw_iret cx (rt_e h) w dX9_needed_94
      · have h := br_n q h
        refine lv_aload_n hx hb dX9_needed_58 rfl (lv_at hl 0 rfl) ?_
        refine lv_iload hx hb dX9_needed_59 (lv_at hl 4 rfl) ?_
        obtain ⟨S_203, eS_203, h⟩ := lt_e h
        refine mw_putI cx hin w 26 eS_203 (by decide +kernel) (List.mem_cons_of_mem _ uf_RX9_89) dX9_needed_61 (fun H locs w => ?_)
        refine lv_iload_n hx hb dX9_needed_64 rfl (lv_at hl 3 rfl) ?_
        refine lv_iload_n hx hb dX9_needed_65 rfl (lv_at hl 1 rfl) ?_
        refine lv_aload_n hx hb dX9_needed_66 rfl (lv_at hl 0 rfl) ?_
        refine lv_iload_n hx hb dX9_needed_67 rfl (lv_at hl 2 rfl) ?_
        obtain ⟨r_205, S_204, hc_206, h⟩ := bd_e h
        refine mw_calli (As := [.int x2]) (rest := [.int x1, .int x3]) cx (cc_provedOf l D cs ad S_203 S_204 x2 r_205 hc_206) (cwV 1 hts (uG uw_X9_provedOf ul_RX9_243 ui_X9_provedOf us_RX9_X9_provedOf un_RX9) rfl rfl rfl ud_X9_provedOf ⟨Nat.le_of_ble_eq_true rfl, Nat.le_of_ble_eq_true rfl⟩) w rfl hl.1 rfl (Nat.le_of_ble_eq_true rfl) dX9_needed_68 (fun H locs w => ?_)
        refine lv_iconst (v := (-1 : Int32)) hx hb dX9_needed_71 (by decide) ?_
        refine lv_ixor hx hb dX9_needed_72 ?_
        refine lv_iand hx hb dX9_needed_73 ?_
        refine lv_if_eq (tgt := 84) hx hb dX9_needed_74 (by decide) (fun q => ?_) (fun q => ?_)
        · have h := br_p q h
          refine lv_iconst (v := (0 : Int32)) hx hb dX9_needed_84 (by decide) ?_
          exact J85 k49 hk49 x1 x2 x4 x3 (0 : Int32) S_204 h _ _ _ (lv_sub hl [0, 1, 2, 4] rfl) w
        · have h := br_n q h
          refine lv_iconst (v := (1 : Int32)) hx hb dX9_needed_77 (by decide) ?_
          refine lv_iload hx hb dX9_needed_78 (lv_at hl 4 rfl) ?_
          refine lv_ishl hx hb dX9_needed_80 ?_
          refine lv_goto (tgt := 85) hx hb dX9_needed_81 (by decide) ?_
          exact J85 k49 hk49 x1 x2 x4 x3 ((1 : Int32) <<< (x4 &&& 31)) S_204 h _ _ _ (lv_sub hl [0, 1, 2, 4] rfl) w
  unfold mm_needed at h
  refine lv_aload_n hx hb dX9_needed_0 rfl (lv_at hl 0 rfl) ?_
  refine lv_iload_n hx hb dX9_needed_1 rfl (lv_at hl 2 rfl) ?_
  obtain ⟨r_308, S_307, hc_309, h⟩ := bd_e h
  refine mw_calli (As := [.int a2]) (rest := []) cx (cc_isLand l D cs ad S S_307 a2 r_308 hc_309) (cwV 1 hts (uG uw_X9_isLand ul_RX9_177 ui_X9_isLand us_RX9_X9_isLand un_RX9) rfl rfl rfl ud_X9_isLand ⟨Nat.le_of_ble_eq_true rfl, Nat.le_of_ble_eq_true rfl⟩) w rfl hl.1 rfl (Nat.le_of_ble_eq_true rfl) dX9_needed_2 (fun H locs w => ?_)
  refine lv_if_ne (tgt := 10) hx hb dX9_needed_5 (by decide) (fun q => ?_) (fun q => ?_)
  · have h := br_n q h
    refine lv_aload_n hx hb dX9_needed_10 rfl (lv_at hl 0 rfl) ?_
    refine lv_iload_n hx hb dX9_needed_11 rfl (lv_at hl 1 rfl) ?_
    refine lv_iconst (v := (0 : Int32)) hx hb dX9_needed_12 (by decide) ?_
    refine lv_sipush (v := (1023 : Int32)) hx hb dX9_needed_13 (by decide) ?_
    obtain ⟨r_311, S_310, hc_312, h⟩ := bd_e h
    refine mw_calli (As := [.int a1, .int (0 : Int32), .int (1023 : Int32)]) (rest := []) cx (cc_in l D cs ad S_307 S_310 a1 (0 : Int32) (1023 : Int32) r_311 hc_312) (cwV 3 hts (uG uw_X9_in ul_RX9_133 ui_X9_in us_RX9_X9_in un_RX9) rfl rfl rfl ud_X9_in ⟨Nat.le_of_ble_eq_true rfl, Nat.le_of_ble_eq_true rfl⟩) w rfl hl.1 rfl (Nat.le_of_ble_eq_true rfl) dX9_needed_16 (fun H locs w => ?_)
    refine lv_if_ne (tgt := 25) hx hb dX9_needed_19 (by decide) (fun q => ?_) (fun q => ?_)
    · have h := br_n q h
      refine lv_aload_n hx hb dX9_needed_25 rfl (lv_at hl 0 rfl) ?_
      obtain ⟨r_314, S_313, hc_315, h⟩ := bd_e h
      refine mw_callv (As := []) (rest := []) cx (cc_asItIs l D cs ad S_310 S_313  r_314 hc_315) (cwV 0 hts (uG uw_X9_asItIs ul_RX9_211 ui_X9_asItIs us_RX9_X9_asItIs un_RX9) rfl rfl rfl ud_X9_asItIs ⟨Nat.le_of_ble_eq_true rfl, Nat.le_of_ble_eq_true rfl⟩) w rfl hl.1 rfl (Nat.le_of_ble_eq_true rfl) dX9_needed_26 (fun H locs w => ?_)
      refine lv_iload_n hx hb dX9_needed_29 rfl (lv_at hl 1 rfl) ?_
      refine lv_aload_n hx hb dX9_needed_30 rfl (lv_at hl 0 rfl) ?_
      refine lv_iload_n hx hb dX9_needed_31 rfl (lv_at hl 2 rfl) ?_
      obtain ⟨r_317, S_316, hc_318, h⟩ := bd_e h
      refine mw_calli (As := [.int a2]) (rest := [.int a1]) cx (cc_provedOf l D cs ad S_313 S_316 a2 r_317 hc_318) (cwV 1 hts (uG uw_X9_provedOf ul_RX9_243 ui_X9_provedOf us_RX9_X9_provedOf un_RX9) rfl rfl rfl ud_X9_provedOf ⟨Nat.le_of_ble_eq_true rfl, Nat.le_of_ble_eq_true rfl⟩) w rfl hl.1 rfl (Nat.le_of_ble_eq_true rfl) dX9_needed_32 (fun H locs w => ?_)
      refine lv_iconst (v := (-1 : Int32)) hx hb dX9_needed_35 (by decide) ?_
      refine lv_ixor hx hb dX9_needed_36 ?_
      refine lv_iand hx hb dX9_needed_37 ?_
      refine lv_if_eq (tgt := 44) hx hb dX9_needed_38 (by decide) (fun q => ?_) (fun q => ?_)
      · have h := br_p q h
        refine lv_iconst (v := (0 : Int32)) hx hb dX9_needed_44 (by decide) ?_
        obtain ⟨x3_319, ex3_319, h⟩ := lt_e h
        refine top_i ex3_319 ?_
        refine lv_istore_n (lv' := [(3, .int x3_319), (0, .ref (ad 100)), (1, .int a1), (2, .int a2)]) hx hb dX9_needed_45 rfl hl (by decide) rfl (fun ls hl => ?_)
        refine lv_iconst (v := (0 : Int32)) hx hb dX9_needed_46 (by decide) ?_
        obtain ⟨x4_320, ex4_320, h⟩ := lt_e h
        refine top_i ex4_320 ?_
        refine lv_istore (lv' := [(4, .int x4_320), (3, .int x3_319), (0, .ref (ad 100)), (1, .int a1), (2, .int a2)]) hx hb dX9_needed_47 hl (by decide) rfl (fun ls hl => ?_)
        exact L49  4000 a1 a2 x3_319 x4_320 S_316 h _ _ _ (lv_sub hl [2, 3, 4, 1, 0] rfl) w
      · have h := br_n q h
        refine lv_bipush (v := (-5 : Int32)) hx hb dX9_needed_41 (by decide) ?_
        exact mw_iret cx (rt_e h) w dX9_needed_43
    · have h := br_p q h
      refine lv_bipush (v := (-2 : Int32)) hx hb dX9_needed_22 (by decide) ?_
      exact mw_iret cx (rt_e h) w dX9_needed_24
  · have h := br_p q h
    refine lv_iconst (v := (-1 : Int32)) hx hb dX9_needed_8 (by decide) ?_
    exact mw_iret cx (rt_e h) w dX9_needed_9
