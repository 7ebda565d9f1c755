def hm_X9_init (P : PS) (th : Nat) : Option (Int32 × PS) := ck (kk P th 10) (lt_ (pIu P th 0 (0 : Int32)) (fun P_102 => lt_ (pIu P_102 th 1 (0 : Int32)) (fun P_104 => lt_ (pIu P_104 th 2 (0 : Int32)) (fun P_106 => lt_ (pZ P_106) (fun z_107 => lt_ (pNew P_106 12 ((8 : Int32)).toNatClampNeg) (fun P_108 => ck (kk P_108 th 10) (lt_ (pRu P_108 th 3 (some z_107)) (fun P_110 => lt_ (pZ P_110) (fun z_111 => lt_ (pNew P_110 12 ((14 : Int32)).toNatClampNeg) (fun P_112 => ck (kk P_112 th 10) (lt_ (pRu P_112 th 4 (some z_111)) (fun P_114 => lt_ (pZ P_114) (fun z_115 => lt_ (pNew P_114 12 ((14 : Int32)).toNatClampNeg) (fun P_116 => ck (kk P_116 th 10) (lt_ (pRu P_116 th 5 (some z_115)) (fun P_118 => lt_ (pZ P_118) (fun z_119 => lt_ (pNew P_118 12 ((14 : Int32)).toNatClampNeg) (fun P_120 => ck (kk P_120 th 10) (lt_ (pRu P_120 th 6 (some z_119)) (fun P_122 => lt_ (pZ P_122) (fun z_123 => lt_ (pNew P_122 12 ((14 : Int32)).toNatClampNeg) (fun P_124 => ck (kk P_124 th 10) (lt_ (pRu P_124 th 7 (some z_123)) (fun P_126 => lt_ (pZ P_126) (fun z_127 => lt_ (pNew P_126 12 ((56 : Int32)).toNatClampNeg) (fun P_128 => ck (kk P_128 th 10) (lt_ (pRu P_128 th 8 (some z_127)) (fun P_130 => lt_ (pIu P_130 th 9 (0 : Int32)) (fun P_132 => lt_ (pIu P_132 th 10 (0 : Int32)) (fun P_134 => lt_ (pIu P_134 th 11 (0 : Int32)) (fun P_136 => lt_ (pZ P_136) (fun z_137 => lt_ (pNew P_136 12 ((100 : Int32)).toNatClampNeg) (fun P_138 => ck (kk P_138 th 10) (lt_ (pRu P_138 th 12 (some z_137)) (fun P_140 => lt_ (pZ P_140) (fun z_141 => lt_ (pNew P_140 12 ((10 : Int32)).toNatClampNeg) (fun P_142 => ck (kk P_142 th 10) (lt_ (pRu P_142 th 13 (some z_141)) (fun P_144 => lt_ (pZ P_144) (fun z_145 => lt_ (pNew P_144 12 ((10 : Int32)).toNatClampNeg) (fun P_146 => ck (kk P_146 th 10) (lt_ (pRu P_146 th 14 (some z_145)) (fun P_148 => lt_ (pZ P_148) (fun z_149 => lt_ (pNew P_148 12 ((60 : Int32)).toNatClampNeg) (fun P_150 => ck (kk P_150 th 10) (lt_ (pRu P_150 th 15 (some z_149)) (fun P_152 => lt_ (pZ P_152) (fun z_153 => lt_ (pNew P_152 12 ((60 : Int32)).toNatClampNeg) (fun P_154 => ck (kk P_154 th 10) (lt_ (pRu P_154 th 16 (some z_153)) (fun P_156 => lt_ (pZ P_156) (fun z_157 => lt_ (pNew P_156 12 ((60 : Int32)).toNatClampNeg) (fun P_158 => ck (kk P_158 th 10) (lt_ (pRu P_158 th 17 (some z_157)) (fun P_160 => lt_ (pZ P_160) (fun z_161 => lt_ (pNew P_160 12 ((60 : Int32)).toNatClampNeg) (fun P_162 => ck (kk P_162 th 10) (lt_ (pRu P_162 th 18 (some z_161)) (fun P_164 => lt_ (pZ P_164) (fun z_165 => lt_ (pNew P_164 12 ((1000 : Int32)).toNatClampNeg) (fun P_166 => ck (kk P_166 th 10) (lt_ (pRu P_166 th 19 (some z_165)) (fun P_168 => lt_ (pIu P_168 th 20 (0 : Int32)) (fun P_170 => lt_ (pZ P_170) (fun z_171 => lt_ (pNew P_170 12 ((101 : Int32)).toNatClampNeg) (fun P_172 => ck (kk P_172 th 10) (lt_ (pRu P_172 th 21 (some z_171)) (fun P_174 => lt_ (pIu P_174 th 22 (0 : Int32)) (fun P_176 => lt_ (pIu P_176 th 23 (0 : Int32)) (fun P_178 => lt_ (pIu P_178 th 24 (0 : Int32)) (fun P_180 => lt_ (pIu P_180 th 25 (0 : Int32)) (fun P_182 => lt_ (pIu P_182 th 26 (-1 : Int32)) (fun P_184 => lt_ (pZ P_184) (fun z_185 => lt_ (pNew P_184 12 ((8 : Int32)).toNatClampNeg) (fun P_186 => ck (kk P_186 th 10) (lt_ (pRu P_186 th 27 (some z_185)) (fun P_188 => lt_ (pZ P_188) (fun z_189 => lt_ (pNew P_188 14 ((100 : Int32)).toNatClampNeg) (fun P_190 => ck (kk P_190 th 10) (lt_ (pRu P_190 th 28 (some z_189)) (fun P_192 => lt_ (pZ P_192) (fun z_193 => lt_ (pNew P_192 14 ((14 : Int32)).toNatClampNeg) (fun P_194 => ck (kk P_194 th 10) (lt_ (pRu P_194 th 29 (some z_193)) (fun P_196 => lt_ (pZ P_196) (fun z_197 => lt_ (pNew P_196 12 ((5 : Int32)).toNatClampNeg) (fun P_198 => ck (kk P_198 th 10) (lt_ (pRu P_198 th 30 (some z_197)) (fun P_200 => lt_ (pZ P_200) (fun z_201 => lt_ (pNew P_200 12 ((5 : Int32)).toNatClampNeg) (fun P_202 => ck (kk P_202 th 10) (lt_ (pRu P_202 th 31 (some z_201)) (fun P_204 => lt_ (pZ P_204) (fun z_205 => lt_ (pNew P_204 14 ((56 : Int32)).toNatClampNeg) (fun P_206 => ck (kk P_206 th 10) (lt_ (pRu P_206 th 32 (some z_205)) (fun P_208 => lt_ (pZ P_208) (fun z_209 => lt_ (pNew P_208 12 ((100 : Int32)).toNatClampNeg) (fun P_210 => ck (kk P_210 th 10) (lt_ (pRu P_210 th 33 (some z_209)) (fun P_212 => lt_ (pIu P_212 th 34 (0 : Int32)) (fun P_214 => lt_ (pZ P_214) (fun z_215 => lt_ (pNew P_214 12 ((20 : Int32)).toNatClampNeg) (fun P_216 => ck (kk P_216 th 10) (lt_ (pRu P_216 th 35 (some z_215)) (fun P_218 => lt_ (pZ P_218) (fun z_219 => lt_ (pNew P_218 12 ((6 : Int32)).toNatClampNeg) (fun P_220 => ck (vin (0 : Int32) (pN P_220 z_219)) (lt_ (pIu P_220 z_219 ((0 : Int32)).toNatClampNeg (-1 : Int32)) (fun P_222 => ck (vin (1 : Int32) (pN P_222 z_219)) (lt_ (pIu P_222 z_219 ((1 : Int32)).toNatClampNeg (-1 : Int32)) (fun P_225 => ck (vin (2 : Int32) (pN P_225 z_219)) (lt_ (pIu P_225 z_219 ((2 : Int32)).toNatClampNeg (-1 : Int32)) (fun P_228 => ck (vin (3 : Int32) (pN P_228 z_219)) (lt_ (pIu P_228 z_219 ((3 : Int32)).toNatClampNeg (-1 : Int32)) (fun P_231 => ck (vin (4 : Int32) (pN P_231 z_219)) (lt_ (pIu P_231 z_219 ((4 : Int32)).toNatClampNeg (-1 : Int32)) (fun P_234 => ck (vin (5 : Int32) (pN P_234 z_219)) (lt_ (pIu P_234 z_219 ((5 : Int32)).toNatClampNeg (-1 : Int32)) (fun P_237 => ck (kk P_237 th 10) (lt_ (pRu P_237 th 36 (some z_219)) (fun P_239 => lt_ (pZ P_239) (fun z_240 => lt_ (pNew P_239 12 ((6 : Int32)).toNatClampNeg) (fun P_241 => ck (kk P_241 th 10) (lt_ (pRu P_241 th 37 (some z_240)) (fun P_243 => lt_ (pZ P_243) (fun z_244 => lt_ (pNew P_243 13 ((360 : Int32)).toNatClampNeg) (fun P_245 => ck (kk P_245 th 10) (lt_ (pRu P_245 th 38 (some z_244)) (fun P_247 => lt_ (pZ P_247) (fun z_248 => lt_ (pNew P_247 13 ((60 : Int32)).toNatClampNeg) (fun P_249 => ck (kk P_249 th 10) (lt_ (pRu P_249 th 39 (some z_248)) (fun P_251 => some ((0 : Int32), P_251)))))))))))))))))))))))))))))))))))))))))))))))))))))))))))))))))))))))))))))))))))))))))))))))))))))))))))))))))))))))))))))))))))))))
abbrev wu_X9_init : List Cond := .code yX9_init cX9_init 1 none :: wsL_law
theorem ud_X9_init : yX9_init.cls = RX9 ∧ yX9_init.cls ≠ "java/lang/invoke/MethodHandle" ∧ yX9_init.cls ≠ "java/lang/invoke/VarHandle" ∧ (parseMethodDescriptor yX9_init.desc).map (fun d => d.parameters.length) = some 0 := by decide +kernel
abbrev rmc_X9_init : Room := { frames := 1, cells := 27, slots := 2321, locals := 40 }
set_option maxHeartbeats 4000000 in
set_option maxRecDepth 100000 in
theorem hcc_X9_init (l : Launch) (D : va_G) (cs : Nat → ClassId) (t0 : TS) (P0 T : PS) (th : Nat) (r0 : Int32) (h : hm_X9_init P0 th = some (r0, T)) : MetCV l yX9_init wu_X9_init rmc_X9_init D cs t0 [.ref th] P0 T r0 27 2321 := by
  refine co_start (own := RX9) (ty := none) (cc := cX9_init) (maxL := 1) ⟨by decide, rfl⟩ rfl (Nat.le_of_ble_eq_true rfl) ?_
  intro p e s m args below meth c ls cx hnm hl w
  have hx := cx.1
  have hb := cx.2.1
  have hts := cx.2.2.2.1
  have hown := cx.2.2.2.2.1
  have hml := cx.2.2.2.2.2.2
  have hsub : ∀ w ∈ wsL_law, w ∈ wu_X9_init := fun _ hq => List.mem_cons_of_mem _ hq
  have hl : lv_has ls 1 [(0, .ref th)] := hl
  have hP0 : P0 = P0 := rfl
  unfold hm_X9_init at h
  refine lv_aload_n hx hb dX9_init_0 rfl (lv_at hl 0 rfl) ?_
  refine W.objInit hx hb hown (hts _ (hsub _ ul_RX9_1)) (hts _ (hsub _ uoi_i)) (hts _ (hsub _ uoi_c)) rfl (by rw [hml]; exact hl.1) rfl dX9_init_1 (Nat.le_of_ble_eq_true rfl) (Nat.le_of_ble_eq_true rfl) ?_
  refine W.eq (g2 := F0 m _ ls []) rfl ?_
  refine lv_aload_n hx hb dX9_init_4 rfl (lv_at hl 0 rfl) ?_
  refine lv_iconst (v := (0 : Int32)) hx hb dX9_init_5 (by decide) ?_
  replace h := ck_e h
  obtain ⟨hk_101, h⟩ := h
  replace h := lt_e h
  obtain ⟨P_102, eP_102, h⟩ := h
  refine cw_putI cx hsub w kT10 hk_101 0 eP_102 ⟨by decide, by decide, rfl⟩ (Or.inl rfl) ⟨hsub _ uf_RX9_7, Or.inl rfl⟩ dX9_init_6 (fun H locs w => ?_)
  refine lv_aload_n hx hb dX9_init_9 rfl (lv_at hl 0 rfl) ?_
  refine lv_iconst (v := (0 : Int32)) hx hb dX9_init_10 (by decide) ?_
  have hk_103 : kk P_102 th 10 = true := by rw [eP_102]; exact hk_101
  replace h := lt_e h
  obtain ⟨P_104, eP_104, h⟩ := h
  refine cw_putI cx hsub w kT10 hk_103 1 eP_104 ⟨by decide, by decide, rfl⟩ (Or.inl rfl) ⟨hsub _ uf_RX9_13, Or.inl rfl⟩ dX9_init_11 (fun H locs w => ?_)
  refine lv_aload_n hx hb dX9_init_14 rfl (lv_at hl 0 rfl) ?_
  refine lv_iconst (v := (0 : Int32)) hx hb dX9_init_15 (by decide) ?_
  have hk_105 : kk P_104 th 10 = true := by rw [eP_104]; exact hk_103
  replace h := lt_e h
  obtain ⟨P_106, eP_106, h⟩ := h
  refine cw_putI cx hsub w kT10 hk_105 2 eP_106 ⟨by decide, by decide, rfl⟩ (Or.inl rfl) ⟨hsub _ uf_RX9_16, Or.inl rfl⟩ dX9_init_16 (fun H locs w => ?_)
  refine lv_aload_n hx hb dX9_init_19 rfl (lv_at hl 0 rfl) ?_
  refine lv_bipush (v := (8 : Int32)) hx hb dX9_init_20 (by decide) ?_
  replace h := lt_e h
  obtain ⟨z_107, ez_107, h⟩ := h
  replace h := lt_e h
  obtain ⟨P_108, eP_108, h⟩ := h
  refine cw_newi cx w (by decide) (by decide) eP_108 (hsub _ uar_int) (Nat.le_of_ble_eq_true rfl) (Nat.le_of_ble_eq_true rfl) dX9_init_22 (fun H w => ?_)
  refine W.widen (k := 1) (n := 8) (Nat.le_of_ble_eq_true rfl) (Nat.le_of_ble_eq_true rfl) ?_
  have hkz_107 : kk P_108 z_107 12 = true := by rw [ez_107]; exact kk_new eP_108
  rw [← ez_107]
  replace h := ck_e h
  obtain ⟨hk_109, h⟩ := h
  replace h := lt_e h
  obtain ⟨P_110, eP_110, h⟩ := h
  refine cw_putR cx hsub w kT10 hk_109 3 (v := (some z_107)) eP_110 (by decide) (by first | exact Or.inl ⟨_, rfl⟩ | exact Or.inr ⟨_, rfl⟩) (Or.inr ⟨rfl, hnm, rfl⟩) ⟨hsub _ uf_RX9_19, Or.inl rfl⟩ dX9_init_24 (fun H locs w => ?_)
  refine lv_aload_n hx hb dX9_init_27 rfl (lv_at hl 0 rfl) ?_
  refine lv_bipush (v := (14 : Int32)) hx hb dX9_init_28 (by decide) ?_
  replace h := lt_e h
  obtain ⟨z_111, ez_111, h⟩ := h
  replace h := lt_e h
  obtain ⟨P_112, eP_112, h⟩ := h
  refine cw_newi cx w (by decide) (by decide) eP_112 (hsub _ uar_int) (Nat.le_of_ble_eq_true rfl) (Nat.le_of_ble_eq_true rfl) dX9_init_30 (fun H w => ?_)
  refine W.widen (k := 2) (n := 22) (Nat.le_of_ble_eq_true rfl) (Nat.le_of_ble_eq_true rfl) ?_
  have hkz_111 : kk P_112 z_111 12 = true := by rw [ez_111]; exact kk_new eP_112
  rw [← ez_111]
  replace h := ck_e h
  obtain ⟨hk_113, h⟩ := h
  replace h := lt_e h
  obtain ⟨P_114, eP_114, h⟩ := h
  refine cw_putR cx hsub w kT10 hk_113 4 (v := (some z_111)) eP_114 (by decide) (by first | exact Or.inl ⟨_, rfl⟩ | exact Or.inr ⟨_, rfl⟩) (Or.inr ⟨rfl, hnm, rfl⟩) ⟨hsub _ uf_RX9_23, Or.inl rfl⟩ dX9_init_32 (fun H locs w => ?_)
  refine lv_aload_n hx hb dX9_init_35 rfl (lv_at hl 0 rfl) ?_
  refine lv_bipush (v := (14 : Int32)) hx hb dX9_init_36 (by decide) ?_
  replace h := lt_e h
  obtain ⟨z_115, ez_115, h⟩ := h
  replace h := lt_e h
  obtain ⟨P_116, eP_116, h⟩ := h
  refine cw_newi cx w (by decide) (by decide) eP_116 (hsub _ uar_int) (Nat.le_of_ble_eq_true rfl) (Nat.le_of_ble_eq_true rfl) dX9_init_38 (fun H w => ?_)
  refine W.widen (k := 3) (n := 36) (Nat.le_of_ble_eq_true rfl) (Nat.le_of_ble_eq_true rfl) ?_
  have hkz_115 : kk P_116 z_115 12 = true := by rw [ez_115]; exact kk_new eP_116
  rw [← ez_115]
  replace h := ck_e h
  obtain ⟨hk_117, h⟩ := h
  replace h := lt_e h
  obtain ⟨P_118, eP_118, h⟩ := h
  refine cw_putR cx hsub w kT10 hk_117 5 (v := (some z_115)) eP_118 (by decide) (by first | exact Or.inl ⟨_, rfl⟩ | exact Or.inr ⟨_, rfl⟩) (Or.inr ⟨rfl, hnm, rfl⟩) ⟨hsub _ uf_RX9_26, Or.inl rfl⟩ dX9_init_40 (fun H locs w => ?_)
  refine lv_aload_n hx hb dX9_init_43 rfl (lv_at hl 0 rfl) ?_
  refine lv_bipush (v := (14 : Int32)) hx hb dX9_init_44 (by decide) ?_
  replace h := lt_e h
  obtain ⟨z_119, ez_119, h⟩ := h
  replace h := lt_e h
  obtain ⟨P_120, eP_120, h⟩ := h
  refine cw_newi cx w (by decide) (by decide) eP_120 (hsub _ uar_int) (Nat.le_of_ble_eq_true rfl) (Nat.le_of_ble_eq_true rfl) dX9_init_46 (fun H w => ?_)
  refine W.widen (k := 4) (n := 50) (Nat.le_of_ble_eq_true rfl) (Nat.le_of_ble_eq_true rfl) ?_
  have hkz_119 : kk P_120 z_119 12 = true := by rw [ez_119]; exact kk_new eP_120
  rw [← ez_119]
  replace h := ck_e h
  obtain ⟨hk_121, h⟩ := h
  replace h := lt_e h
  obtain ⟨P_122, eP_122, h⟩ := h
  refine cw_putR cx hsub w kT10 hk_121 6 (v := (some z_119)) eP_122 (by decide) (by first | exact Or.inl ⟨_, rfl⟩ | exact Or.inr ⟨_, rfl⟩) (Or.inr ⟨rfl, hnm, rfl⟩) ⟨hsub _ uf_RX9_29, Or.inl rfl⟩ dX9_init_48 (fun H locs w => ?_)
  refine lv_aload_n hx hb dX9_init_51 rfl (lv_at hl 0 rfl) ?_
  refine lv_bipush (v := (14 : Int32)) hx hb dX9_init_52 (by decide) ?_
  replace h := lt_e h
  obtain ⟨z_123, ez_123, h⟩ := h
  replace h := lt_e h
  obtain ⟨P_124, eP_124, h⟩ := h
  refine cw_newi cx w (by decide) (by decide) eP_124 (hsub _ uar_int) (Nat.le_of_ble_eq_true rfl) (Nat.le_of_ble_eq_true rfl) dX9_init_54 (fun H w => ?_)
  refine W.widen (k := 5) (n := 64) (Nat.le_of_ble_eq_true rfl) (Nat.le_of_ble_eq_true rfl) ?_
  have hkz_123 : kk P_124 z_123 12 = true := by rw [ez_123]; exact kk_new eP_124
  rw [← ez_123]
  replace h := ck_e h
  obtain ⟨hk_125, h⟩ := h
  replace h := lt_e h
  obtain ⟨P_126, eP_126, h⟩ := h
  refine cw_putR cx hsub w kT10 hk_125 7 (v := (some z_123)) eP_126 (by decide) (by first | exact Or.inl ⟨_, rfl⟩ | exact Or.inr ⟨_, rfl⟩) (Or.inr ⟨rfl, hnm, rfl⟩) ⟨hsub _ uf_RX9_32, Or.inl rfl⟩ dX9_init_56 (fun H locs w => ?_)
  refine lv_aload_n hx hb dX9_init_59 rfl (lv_at hl 0 rfl) ?_
  refine lv_bipush (v := (56 : Int32)) hx hb dX9_init_60 (by decide) ?_
  replace h := lt_e h
  obtain ⟨z_127, ez_127, h⟩ := h
  replace h := lt_e h
  obtain ⟨P_128, eP_128, h⟩ := h
  refine cw_newi cx w (by decide) (by decide) eP_128 (hsub _ uar_int) (Nat.le_of_ble_eq_true rfl) (Nat.le_of_ble_eq_true rfl) dX9_init_62 (fun H w => ?_)
  refine W.widen (k := 6) (n := 120) (Nat.le_of_ble_eq_true rfl) (Nat.le_of_ble_eq_true rfl) ?_
  have hkz_127 : kk P_128 z_127 12 = true := by rw [ez_127]; exact kk_new eP_128
  rw [← ez_127]
  replace h := ck_e h
  obtain ⟨hk_129, h⟩ := h
  replace h := lt_e h
  obtain ⟨P_130, eP_130, h⟩ := h
  refine cw_putR cx hsub w kT10 hk_129 8 (v := (some z_127)) eP_130 (by decide) (by first | exact Or.inl ⟨_, rfl⟩ | exact Or.inr ⟨_, rfl⟩) (Or.inr ⟨rfl, hnm, rfl⟩) ⟨hsub _ uf_RX9_35, Or.inl rfl⟩ dX9_init_64 (fun H locs w => ?_)
  refine lv_aload_n hx hb dX9_init_67 rfl (lv_at hl 0 rfl) ?_
  refine lv_iconst (v := (0 : Int32)) hx hb dX9_init_68 (by decide) ?_
  have hk_131 : kk P_130 th 10 = true := by rw [eP_130]; exact hk_129
  replace h := lt_e h
  obtain ⟨P_132, eP_132, h⟩ := h
  refine cw_putI cx hsub w kT10 hk_131 9 eP_132 ⟨by decide, by decide, rfl⟩ (Or.inl rfl) ⟨hsub _ uf_RX9_38, Or.inl rfl⟩ dX9_init_69 (fun H locs w => ?_)
  refine lv_aload_n hx hb dX9_init_72 rfl (lv_at hl 0 rfl) ?_
  refine lv_iconst (v := (0 : Int32)) hx hb dX9_init_73 (by decide) ?_
  have hk_133 : kk P_132 th 10 = true := by rw [eP_132]; exact hk_131
  replace h := lt_e h
  obtain ⟨P_134, eP_134, h⟩ := h
  refine cw_putI cx hsub w kT10 hk_133 10 eP_134 ⟨by decide, by decide, rfl⟩ (Or.inl rfl) ⟨hsub _ uf_RX9_41, Or.inl rfl⟩ dX9_init_74 (fun H locs w => ?_)
  refine lv_aload_n hx hb dX9_init_77 rfl (lv_at hl 0 rfl) ?_
  refine lv_iconst (v := (0 : Int32)) hx hb dX9_init_78 (by decide) ?_
  have hk_135 : kk P_134 th 10 = true := by rw [eP_134]; exact hk_133
  replace h := lt_e h
  obtain ⟨P_136, eP_136, h⟩ := h
  refine cw_putI cx hsub w kT10 hk_135 11 eP_136 ⟨by decide, by decide, rfl⟩ (Or.inl rfl) ⟨hsub _ uf_RX9_44, Or.inl rfl⟩ dX9_init_79 (fun H locs w => ?_)
  refine lv_aload_n hx hb dX9_init_82 rfl (lv_at hl 0 rfl) ?_
  refine lv_bipush (v := (100 : Int32)) hx hb dX9_init_83 (by decide) ?_
  replace h := lt_e h
  obtain ⟨z_137, ez_137, h⟩ := h
  replace h := lt_e h
  obtain ⟨P_138, eP_138, h⟩ := h
  refine cw_newi cx w (by decide) (by decide) eP_138 (hsub _ uar_int) (Nat.le_of_ble_eq_true rfl) (Nat.le_of_ble_eq_true rfl) dX9_init_85 (fun H w => ?_)
  refine W.widen (k := 7) (n := 220) (Nat.le_of_ble_eq_true rfl) (Nat.le_of_ble_eq_true rfl) ?_
  have hkz_137 : kk P_138 z_137 12 = true := by rw [ez_137]; exact kk_new eP_138
  rw [← ez_137]
  replace h := ck_e h
  obtain ⟨hk_139, h⟩ := h
  replace h := lt_e h
  obtain ⟨P_140, eP_140, h⟩ := h
  refine cw_putR cx hsub w kT10 hk_139 12 (v := (some z_137)) eP_140 (by decide) (by first | exact Or.inl ⟨_, rfl⟩ | exact Or.inr ⟨_, rfl⟩) (Or.inr ⟨rfl, hnm, rfl⟩) ⟨hsub _ uf_RX9_47, Or.inl rfl⟩ dX9_init_87 (fun H locs w => ?_)
  refine lv_aload_n hx hb dX9_init_90 rfl (lv_at hl 0 rfl) ?_
  refine lv_bipush (v := (10 : Int32)) hx hb dX9_init_91 (by decide) ?_
  replace h := lt_e h
  obtain ⟨z_141, ez_141, h⟩ := h
  replace h := lt_e h
  obtain ⟨P_142, eP_142, h⟩ := h
  refine cw_newi cx w (by decide) (by decide) eP_142 (hsub _ uar_int) (Nat.le_of_ble_eq_true rfl) (Nat.le_of_ble_eq_true rfl) dX9_init_93 (fun H w => ?_)
  refine W.widen (k := 8) (n := 230) (Nat.le_of_ble_eq_true rfl) (Nat.le_of_ble_eq_true rfl) ?_
  have hkz_141 : kk P_142 z_141 12 = true := by rw [ez_141]; exact kk_new eP_142
  rw [← ez_141]
  replace h := ck_e h
  obtain ⟨hk_143, h⟩ := h
  replace h := lt_e h
  obtain ⟨P_144, eP_144, h⟩ := h
  refine cw_putR cx hsub w kT10 hk_143 13 (v := (some z_141)) eP_144 (by decide) (by first | exact Or.inl ⟨_, rfl⟩ | exact Or.inr ⟨_, rfl⟩) (Or.inr ⟨rfl, hnm, rfl⟩) ⟨hsub _ uf_RX9_50, Or.inl rfl⟩ dX9_init_95 (fun H locs w => ?_)
  refine lv_aload_n hx hb dX9_init_98 rfl (lv_at hl 0 rfl) ?_
  refine lv_bipush (v := (10 : Int32)) hx hb dX9_init_99 (by decide) ?_
  replace h := lt_e h
  obtain ⟨z_145, ez_145, h⟩ := h
  replace h := lt_e h
  obtain ⟨P_146, eP_146, h⟩ := h
  refine cw_newi cx w (by decide) (by decide) eP_146 (hsub _ uar_int) (Nat.le_of_ble_eq_true rfl) (Nat.le_of_ble_eq_true rfl) dX9_init_101 (fun H w => ?_)
  refine W.widen (k := 9) (n := 240) (Nat.le_of_ble_eq_true rfl) (Nat.le_of_ble_eq_true rfl) ?_
  have hkz_145 : kk P_146 z_145 12 = true := by rw [ez_145]; exact kk_new eP_146
  rw [← ez_145]
  replace h := ck_e h
  obtain ⟨hk_147, h⟩ := h
  replace h := lt_e h
  obtain ⟨P_148, eP_148, h⟩ := h
  refine cw_putR cx hsub w kT10 hk_147 14 (v := (some z_145)) eP_148 (by decide) (by first | exact Or.inl ⟨_, rfl⟩ | exact Or.inr ⟨_, rfl⟩) (Or.inr ⟨rfl, hnm, rfl⟩) ⟨hsub _ uf_RX9_53, Or.inl rfl⟩ dX9_init_103 (fun H locs w => ?_)
  refine lv_aload_n hx hb dX9_init_106 rfl (lv_at hl 0 rfl) ?_
  refine lv_bipush (v := (60 : Int32)) hx hb dX9_init_107 (by decide) ?_
  replace h := lt_e h
  obtain ⟨z_149, ez_149, h⟩ := h
  replace h := lt_e h
  obtain ⟨P_150, eP_150, h⟩ := h
  refine cw_newi cx w (by decide) (by decide) eP_150 (hsub _ uar_int) (Nat.le_of_ble_eq_true rfl) (Nat.le_of_ble_eq_true rfl) dX9_init_109 (fun H w => ?_)
  refine W.widen (k := 10) (n := 300) (Nat.le_of_ble_eq_true rfl) (Nat.le_of_ble_eq_true rfl) ?_
  have hkz_149 : kk P_150 z_149 12 = true := by rw [ez_149]; exact kk_new eP_150
  rw [← ez_149]
  replace h := ck_e h
  obtain ⟨hk_151, h⟩ := h
  replace h := lt_e h
  obtain ⟨P_152, eP_152, h⟩ := h
  refine cw_putR cx hsub w kT10 hk_151 15 (v := (some z_149)) eP_152 (by decide) (by first | exact Or.inl ⟨_, rfl⟩ | exact Or.inr ⟨_, rfl⟩) (Or.inr ⟨rfl, hnm, rfl⟩) ⟨hsub _ uf_RX9_56, Or.inl rfl⟩ dX9_init_111 (fun H locs w => ?_)
  refine lv_aload_n hx hb dX9_init_114 rfl (lv_at hl 0 rfl) ?_
  refine lv_bipush (v := (60 : Int32)) hx hb dX9_init_115 (by decide) ?_
  replace h := lt_e h
  obtain ⟨z_153, ez_153, h⟩ := h
  replace h := lt_e h
  obtain ⟨P_154, eP_154, h⟩ := h
  refine cw_newi cx w (by decide) (by decide) eP_154 (hsub _ uar_int) (Nat.le_of_ble_eq_true rfl) (Nat.le_of_ble_eq_true rfl) dX9_init_117 (fun H w => ?_)
  refine W.widen (k := 11) (n := 360) (Nat.le_of_ble_eq_true rfl) (Nat.le_of_ble_eq_true rfl) ?_
  have hkz_153 : kk P_154 z_153 12 = true := by rw [ez_153]; exact kk_new eP_154
  rw [← ez_153]
  replace h := ck_e h
  obtain ⟨hk_155, h⟩ := h
  replace h := lt_e h
  obtain ⟨P_156, eP_156, h⟩ := h
  refine cw_putR cx hsub w kT10 hk_155 16 (v := (some z_153)) eP_156 (by decide) (by first | exact Or.inl ⟨_, rfl⟩ | exact Or.inr ⟨_, rfl⟩) (Or.inr ⟨rfl, hnm, rfl⟩) ⟨hsub _ uf_RX9_59, Or.inl rfl⟩ dX9_init_119 (fun H locs w => ?_)
  refine lv_aload_n hx hb dX9_init_122 rfl (lv_at hl 0 rfl) ?_
  refine lv_bipush (v := (60 : Int32)) hx hb dX9_init_123 (by decide) ?_
  replace h := lt_e h
  obtain ⟨z_157, ez_157, h⟩ := h
  replace h := lt_e h
  obtain ⟨P_158, eP_158, h⟩ := h
  refine cw_newi cx w (by decide) (by decide) eP_158 (hsub _ uar_int) (Nat.le_of_ble_eq_true rfl) (Nat.le_of_ble_eq_true rfl) dX9_init_125 (fun H w => ?_)
  refine W.widen (k := 12) (n := 420) (Nat.le_of_ble_eq_true rfl) (Nat.le_of_ble_eq_true rfl) ?_
  have hkz_157 : kk P_158 z_157 12 = true := by rw [ez_157]; exact kk_new eP_158
  rw [← ez_157]
  replace h := ck_e h
  obtain ⟨hk_159, h⟩ := h
  replace h := lt_e h
  obtain ⟨P_160, eP_160, h⟩ := h
  refine cw_putR cx hsub w kT10 hk_159 17 (v := (some z_157)) eP_160 (by decide) (by first | exact Or.inl ⟨_, rfl⟩ | exact Or.inr ⟨_, rfl⟩) (Or.inr ⟨rfl, hnm, rfl⟩) ⟨hsub _ uf_RX9_62, Or.inl rfl⟩ dX9_init_127 (fun H locs w => ?_)
  refine lv_aload_n hx hb dX9_init_130 rfl (lv_at hl 0 rfl) ?_
  refine lv_bipush (v := (60 : Int32)) hx hb dX9_init_131 (by decide) ?_
  replace h := lt_e h
  obtain ⟨z_161, ez_161, h⟩ := h
  replace h := lt_e h
  obtain ⟨P_162, eP_162, h⟩ := h
  refine cw_newi cx w (by decide) (by decide) eP_162 (hsub _ uar_int) (Nat.le_of_ble_eq_true rfl) (Nat.le_of_ble_eq_true rfl) dX9_init_133 (fun H w => ?_)
  refine W.widen (k := 13) (n := 480) (Nat.le_of_ble_eq_true rfl) (Nat.le_of_ble_eq_true rfl) ?_
  have hkz_161 : kk P_162 z_161 12 = true := by rw [ez_161]; exact kk_new eP_162
  rw [← ez_161]
  replace h := ck_e h
  obtain ⟨hk_163, h⟩ := h
  replace h := lt_e h
  obtain ⟨P_164, eP_164, h⟩ := h
  refine cw_putR cx hsub w kT10 hk_163 18 (v := (some z_161)) eP_164 (by decide) (by first | exact Or.inl ⟨_, rfl⟩ | exact Or.inr ⟨_, rfl⟩) (Or.inr ⟨rfl, hnm, rfl⟩) ⟨hsub _ uf_RX9_65, Or.inl rfl⟩ dX9_init_135 (fun H locs w => ?_)
  refine lv_aload_n hx hb dX9_init_138 rfl (lv_at hl 0 rfl) ?_
  refine lv_sipush (v := (1000 : Int32)) hx hb dX9_init_139 (by decide) ?_
  replace h := lt_e h
  obtain ⟨z_165, ez_165, h⟩ := h
  replace h := lt_e h
  obtain ⟨P_166, eP_166, h⟩ := h
  refine cw_newi cx w (by decide) (by decide) eP_166 (hsub _ uar_int) (Nat.le_of_ble_eq_true rfl) (Nat.le_of_ble_eq_true rfl) dX9_init_142 (fun H w => ?_)
  refine W.widen (k := 14) (n := 1480) (Nat.le_of_ble_eq_true rfl) (Nat.le_of_ble_eq_true rfl) ?_
  have hkz_165 : kk P_166 z_165 12 = true := by rw [ez_165]; exact kk_new eP_166
  rw [← ez_165]
  replace h := ck_e h
  obtain ⟨hk_167, h⟩ := h
  replace h := lt_e h
  obtain ⟨P_168, eP_168, h⟩ := h
  refine cw_putR cx hsub w kT10 hk_167 19 (v := (some z_165)) eP_168 (by decide) (by first | exact Or.inl ⟨_, rfl⟩ | exact Or.inr ⟨_, rfl⟩) (Or.inr ⟨rfl, hnm, rfl⟩) ⟨hsub _ uf_RX9_68, Or.inl rfl⟩ dX9_init_144 (fun H locs w => ?_)
  refine lv_aload_n hx hb dX9_init_147 rfl (lv_at hl 0 rfl) ?_
  refine lv_iconst (v := (0 : Int32)) hx hb dX9_init_148 (by decide) ?_
  have hk_169 : kk P_168 th 10 = true := by rw [eP_168]; exact hk_167
  replace h := lt_e h
  obtain ⟨P_170, eP_170, h⟩ := h
  refine cw_putI cx hsub w kT10 hk_169 20 eP_170 ⟨by decide, by decide, rfl⟩ (Or.inl rfl) ⟨hsub _ uf_RX9_71, Or.inl rfl⟩ dX9_init_149 (fun H locs w => ?_)
  refine lv_aload_n hx hb dX9_init_152 rfl (lv_at hl 0 rfl) ?_
  refine lv_bipush (v := (101 : Int32)) hx hb dX9_init_153 (by decide) ?_
  replace h := lt_e h
  obtain ⟨z_171, ez_171, h⟩ := h
  replace h := lt_e h
  obtain ⟨P_172, eP_172, h⟩ := h
  refine cw_newi cx w (by decide) (by decide) eP_172 (hsub _ uar_int) (Nat.le_of_ble_eq_true rfl) (Nat.le_of_ble_eq_true rfl) dX9_init_155 (fun H w => ?_)
  refine W.widen (k := 15) (n := 1581) (Nat.le_of_ble_eq_true rfl) (Nat.le_of_ble_eq_true rfl) ?_
  have hkz_171 : kk P_172 z_171 12 = true := by rw [ez_171]; exact kk_new eP_172
  rw [← ez_171]
  replace h := ck_e h
  obtain ⟨hk_173, h⟩ := h
  replace h := lt_e h
  obtain ⟨P_174, eP_174, h⟩ := h
  refine cw_putR cx hsub w kT10 hk_173 21 (v := (some z_171)) eP_174 (by decide) (by first | exact Or.inl ⟨_, rfl⟩ | exact Or.inr ⟨_, rfl⟩) (Or.inr ⟨rfl, hnm, rfl⟩) ⟨hsub _ uf_RX9_74, Or.inl rfl⟩ dX9_init_157 (fun H locs w => ?_)
  refine lv_aload_n hx hb dX9_init_160 rfl (lv_at hl 0 rfl) ?_
  refine lv_iconst (v := (0 : Int32)) hx hb dX9_init_161 (by decide) ?_
  have hk_175 : kk P_174 th 10 = true := by rw [eP_174]; exact hk_173
  replace h := lt_e h
  obtain ⟨P_176, eP_176, h⟩ := h
  refine cw_putI cx hsub w kT10 hk_175 22 eP_176 ⟨by decide, by decide, rfl⟩ (Or.inl rfl) ⟨hsub _ uf_RX9_77, Or.inl rfl⟩ dX9_init_162 (fun H locs w => ?_)
  refine lv_aload_n hx hb dX9_init_165 rfl (lv_at hl 0 rfl) ?_
  refine lv_iconst (v := (0 : Int32)) hx hb dX9_init_166 (by decide) ?_
  have hk_177 : kk P_176 th 10 = true := by rw [eP_176]; exact hk_175
  replace h := lt_e h
  obtain ⟨P_178, eP_178, h⟩ := h
  refine cw_putI cx hsub w kT10 hk_177 23 eP_178 ⟨by decide, by decide, rfl⟩ (Or.inl rfl) ⟨hsub _ uf_RX9_80, Or.inl rfl⟩ dX9_init_167 (fun H locs w => ?_)
  refine lv_aload_n hx hb dX9_init_170 rfl (lv_at hl 0 rfl) ?_
  refine lv_iconst (v := (0 : Int32)) hx hb dX9_init_171 (by decide) ?_
  have hk_179 : kk P_178 th 10 = true := by rw [eP_178]; exact hk_177
  replace h := lt_e h
  obtain ⟨P_180, eP_180, h⟩ := h
  refine cw_putI cx hsub w kT10 hk_179 24 eP_180 ⟨by decide, by decide, rfl⟩ (Or.inl rfl) ⟨hsub _ uf_RX9_83, Or.inl rfl⟩ dX9_init_172 (fun H locs w => ?_)
  refine lv_aload_n hx hb dX9_init_175 rfl (lv_at hl 0 rfl) ?_
  refine lv_iconst (v := (0 : Int32)) hx hb dX9_init_176 (by decide) ?_
  have hk_181 : kk P_180 th 10 = true := by rw [eP_180]; exact hk_179
  replace h := lt_e h
  obtain ⟨P_182, eP_182, h⟩ := h
  refine cw_putI cx hsub w kT10 hk_181 25 eP_182 ⟨by decide, by decide, rfl⟩ (Or.inl rfl) ⟨hsub _ uf_RX9_86, Or.inl rfl⟩ dX9_init_177 (fun H locs w => ?_)
  refine lv_aload_n hx hb dX9_init_180 rfl (lv_at hl 0 rfl) ?_
  refine lv_iconst (v := (-1 : Int32)) hx hb dX9_init_181 (by decide) ?_
  have hk_183 : kk P_182 th 10 = true := by rw [eP_182]; exact hk_181
  replace h := lt_e h
  obtain ⟨P_184, eP_184, h⟩ := h
  refine cw_putI cx hsub w kT10 hk_183 26 eP_184 ⟨by decide, by decide, rfl⟩ (Or.inl rfl) ⟨hsub _ uf_RX9_89, Or.inl rfl⟩ dX9_init_182 (fun H locs w => ?_)
  refine lv_aload_n hx hb dX9_init_185 rfl (lv_at hl 0 rfl) ?_
  refine lv_bipush (v := (8 : Int32)) hx hb dX9_init_186 (by decide) ?_
  replace h := lt_e h
  obtain ⟨z_185, ez_185, h⟩ := h
  replace h := lt_e h
  obtain ⟨P_186, eP_186, h⟩ := h
  refine cw_newi cx w (by decide) (by decide) eP_186 (hsub _ uar_int) (Nat.le_of_ble_eq_true rfl) (Nat.le_of_ble_eq_true rfl) dX9_init_188 (fun H w => ?_)
  refine W.widen (k := 16) (n := 1589) (Nat.le_of_ble_eq_true rfl) (Nat.le_of_ble_eq_true rfl) ?_
  have hkz_185 : kk P_186 z_185 12 = true := by rw [ez_185]; exact kk_new eP_186
  rw [← ez_185]
  replace h := ck_e h
  obtain ⟨hk_187, h⟩ := h
  replace h := lt_e h
  obtain ⟨P_188, eP_188, h⟩ := h
  refine cw_putR cx hsub w kT10 hk_187 27 (v := (some z_185)) eP_188 (by decide) (by first | exact Or.inl ⟨_, rfl⟩ | exact Or.inr ⟨_, rfl⟩) (Or.inr ⟨rfl, hnm, rfl⟩) ⟨hsub _ uf_RX9_92, Or.inl rfl⟩ dX9_init_190 (fun H locs w => ?_)
  refine lv_aload_n hx hb dX9_init_193 rfl (lv_at hl 0 rfl) ?_
  refine lv_bipush (v := (100 : Int32)) hx hb dX9_init_194 (by decide) ?_
  replace h := lt_e h
  obtain ⟨z_189, ez_189, h⟩ := h
  replace h := lt_e h
  obtain ⟨P_190, eP_190, h⟩ := h
  refine cw_newz cx w (by decide) (by decide) eP_190 (hsub _ uar_boolean) (Nat.le_of_ble_eq_true rfl) (Nat.le_of_ble_eq_true rfl) dX9_init_196 (fun H w => ?_)
  refine W.widen (k := 17) (n := 1689) (Nat.le_of_ble_eq_true rfl) (Nat.le_of_ble_eq_true rfl) ?_
  have hkz_189 : kk P_190 z_189 14 = true := by rw [ez_189]; exact kk_new eP_190
  rw [← ez_189]
  replace h := ck_e h
  obtain ⟨hk_191, h⟩ := h
  replace h := lt_e h
  obtain ⟨P_192, eP_192, h⟩ := h
  refine cw_putR cx hsub w kT10 hk_191 28 (v := (some z_189)) eP_192 (by decide) (by first | exact Or.inl ⟨_, rfl⟩ | exact Or.inr ⟨_, rfl⟩) (Or.inr ⟨rfl, hnm, rfl⟩) ⟨hsub _ uf_RX9_95, Or.inl rfl⟩ dX9_init_198 (fun H locs w => ?_)
  refine lv_aload_n hx hb dX9_init_201 rfl (lv_at hl 0 rfl) ?_
  refine lv_bipush (v := (14 : Int32)) hx hb dX9_init_202 (by decide) ?_
  replace h := lt_e h
  obtain ⟨z_193, ez_193, h⟩ := h
  replace h := lt_e h
  obtain ⟨P_194, eP_194, h⟩ := h
  refine cw_newz cx w (by decide) (by decide) eP_194 (hsub _ uar_boolean) (Nat.le_of_ble_eq_true rfl) (Nat.le_of_ble_eq_true rfl) dX9_init_204 (fun H w => ?_)
  refine W.widen (k := 18) (n := 1703) (Nat.le_of_ble_eq_true rfl) (Nat.le_of_ble_eq_true rfl) ?_
  have hkz_193 : kk P_194 z_193 14 = true := by rw [ez_193]; exact kk_new eP_194
  rw [← ez_193]
  replace h := ck_e h
  obtain ⟨hk_195, h⟩ := h
  replace h := lt_e h
  obtain ⟨P_196, eP_196, h⟩ := h
  refine cw_putR cx hsub w kT10 hk_195 29 (v := (some z_193)) eP_196 (by decide) (by first | exact Or.inl ⟨_, rfl⟩ | exact Or.inr ⟨_, rfl⟩) (Or.inr ⟨rfl, hnm, rfl⟩) ⟨hsub _ uf_RX9_99, Or.inl rfl⟩ dX9_init_206 (fun H locs w => ?_)
  refine lv_aload_n hx hb dX9_init_209 rfl (lv_at hl 0 rfl) ?_
  refine lv_iconst (v := (5 : Int32)) hx hb dX9_init_210 (by decide) ?_
  replace h := lt_e h
  obtain ⟨z_197, ez_197, h⟩ := h
  replace h := lt_e h
  obtain ⟨P_198, eP_198, h⟩ := h
  refine cw_newi cx w (by decide) (by decide) eP_198 (hsub _ uar_int) (Nat.le_of_ble_eq_true rfl) (Nat.le_of_ble_eq_true rfl) dX9_init_211 (fun H w => ?_)
  refine W.widen (k := 19) (n := 1708) (Nat.le_of_ble_eq_true rfl) (Nat.le_of_ble_eq_true rfl) ?_
  have hkz_197 : kk P_198 z_197 12 = true := by rw [ez_197]; exact kk_new eP_198
  rw [← ez_197]
  replace h := ck_e h
  obtain ⟨hk_199, h⟩ := h
  replace h := lt_e h
  obtain ⟨P_200, eP_200, h⟩ := h
  refine cw_putR cx hsub w kT10 hk_199 30 (v := (some z_197)) eP_200 (by decide) (by first | exact Or.inl ⟨_, rfl⟩ | exact Or.inr ⟨_, rfl⟩) (Or.inr ⟨rfl, hnm, rfl⟩) ⟨hsub _ uf_RX9_102, Or.inl rfl⟩ dX9_init_213 (fun H locs w => ?_)
  refine lv_aload_n hx hb dX9_init_216 rfl (lv_at hl 0 rfl) ?_
  refine lv_iconst (v := (5 : Int32)) hx hb dX9_init_217 (by decide) ?_
  replace h := lt_e h
  obtain ⟨z_201, ez_201, h⟩ := h
  replace h := lt_e h
  obtain ⟨P_202, eP_202, h⟩ := h
  refine cw_newi cx w (by decide) (by decide) eP_202 (hsub _ uar_int) (Nat.le_of_ble_eq_true rfl) (Nat.le_of_ble_eq_true rfl) dX9_init_218 (fun H w => ?_)
  refine W.widen (k := 20) (n := 1713) (Nat.le_of_ble_eq_true rfl) (Nat.le_of_ble_eq_true rfl) ?_
  have hkz_201 : kk P_202 z_201 12 = true := by rw [ez_201]; exact kk_new eP_202
  rw [← ez_201]
  replace h := ck_e h
  obtain ⟨hk_203, h⟩ := h
  replace h := lt_e h
  obtain ⟨P_204, eP_204, h⟩ := h
  refine cw_putR cx hsub w kT10 hk_203 31 (v := (some z_201)) eP_204 (by decide) (by first | exact Or.inl ⟨_, rfl⟩ | exact Or.inr ⟨_, rfl⟩) (Or.inr ⟨rfl, hnm, rfl⟩) ⟨hsub _ uf_RX9_105, Or.inl rfl⟩ dX9_init_220 (fun H locs w => ?_)
  refine lv_aload_n hx hb dX9_init_223 rfl (lv_at hl 0 rfl) ?_
  refine lv_bipush (v := (56 : Int32)) hx hb dX9_init_224 (by decide) ?_
  replace h := lt_e h
  obtain ⟨z_205, ez_205, h⟩ := h
  replace h := lt_e h
  obtain ⟨P_206, eP_206, h⟩ := h
  refine cw_newz cx w (by decide) (by decide) eP_206 (hsub _ uar_boolean) (Nat.le_of_ble_eq_true rfl) (Nat.le_of_ble_eq_true rfl) dX9_init_226 (fun H w => ?_)
  refine W.widen (k := 21) (n := 1769) (Nat.le_of_ble_eq_true rfl) (Nat.le_of_ble_eq_true rfl) ?_
  have hkz_205 : kk P_206 z_205 14 = true := by rw [ez_205]; exact kk_new eP_206
  rw [← ez_205]
  replace h := ck_e h
  obtain ⟨hk_207, h⟩ := h
  replace h := lt_e h
  obtain ⟨P_208, eP_208, h⟩ := h
  refine cw_putR cx hsub w kT10 hk_207 32 (v := (some z_205)) eP_208 (by decide) (by first | exact Or.inl ⟨_, rfl⟩ | exact Or.inr ⟨_, rfl⟩) (Or.inr ⟨rfl, hnm, rfl⟩) ⟨hsub _ uf_RX9_108, Or.inl rfl⟩ dX9_init_228 (fun H locs w => ?_)
  refine lv_aload_n hx hb dX9_init_231 rfl (lv_at hl 0 rfl) ?_
  refine lv_bipush (v := (100 : Int32)) hx hb dX9_init_232 (by decide) ?_
  replace h := lt_e h
  obtain ⟨z_209, ez_209, h⟩ := h
  replace h := lt_e h
  obtain ⟨P_210, eP_210, h⟩ := h
  refine cw_newi cx w (by decide) (by decide) eP_210 (hsub _ uar_int) (Nat.le_of_ble_eq_true rfl) (Nat.le_of_ble_eq_true rfl) dX9_init_234 (fun H w => ?_)
  refine W.widen (k := 22) (n := 1869) (Nat.le_of_ble_eq_true rfl) (Nat.le_of_ble_eq_true rfl) ?_
  have hkz_209 : kk P_210 z_209 12 = true := by rw [ez_209]; exact kk_new eP_210
  rw [← ez_209]
  replace h := ck_e h
  obtain ⟨hk_211, h⟩ := h
  replace h := lt_e h
  obtain ⟨P_212, eP_212, h⟩ := h
  refine cw_putR cx hsub w kT10 hk_211 33 (v := (some z_209)) eP_212 (by decide) (by first | exact Or.inl ⟨_, rfl⟩ | exact Or.inr ⟨_, rfl⟩) (Or.inr ⟨rfl, hnm, rfl⟩) ⟨hsub _ uf_RX9_111, Or.inl rfl⟩ dX9_init_236 (fun H locs w => ?_)
  refine lv_aload_n hx hb dX9_init_239 rfl (lv_at hl 0 rfl) ?_
  refine lv_iconst (v := (0 : Int32)) hx hb dX9_init_240 (by decide) ?_
  have hk_213 : kk P_212 th 10 = true := by rw [eP_212]; exact hk_211
  replace h := lt_e h
  obtain ⟨P_214, eP_214, h⟩ := h
  refine cw_putI cx hsub w kT10 hk_213 34 eP_214 ⟨by decide, by decide, rfl⟩ (Or.inl rfl) ⟨hsub _ uf_RX9_114, Or.inl rfl⟩ dX9_init_241 (fun H locs w => ?_)
  refine lv_aload_n hx hb dX9_init_244 rfl (lv_at hl 0 rfl) ?_
  refine lv_bipush (v := (20 : Int32)) hx hb dX9_init_245 (by decide) ?_
  replace h := lt_e h
  obtain ⟨z_215, ez_215, h⟩ := h
  replace h := lt_e h
  obtain ⟨P_216, eP_216, h⟩ := h
  refine cw_newi cx w (by decide) (by decide) eP_216 (hsub _ uar_int) (Nat.le_of_ble_eq_true rfl) (Nat.le_of_ble_eq_true rfl) dX9_init_247 (fun H w => ?_)
  refine W.widen (k := 23) (n := 1889) (Nat.le_of_ble_eq_true rfl) (Nat.le_of_ble_eq_true rfl) ?_
  have hkz_215 : kk P_216 z_215 12 = true := by rw [ez_215]; exact kk_new eP_216
  rw [← ez_215]
  replace h := ck_e h
  obtain ⟨hk_217, h⟩ := h
  replace h := lt_e h
  obtain ⟨P_218, eP_218, h⟩ := h
  refine cw_putR cx hsub w kT10 hk_217 35 (v := (some z_215)) eP_218 (by decide) (by first | exact Or.inl ⟨_, rfl⟩ | exact Or.inr ⟨_, rfl⟩) (Or.inr ⟨rfl, hnm, rfl⟩) ⟨hsub _ uf_RX9_117, Or.inl rfl⟩ dX9_init_249 (fun H locs w => ?_)
  refine lv_aload_n hx hb dX9_init_252 rfl (lv_at hl 0 rfl) ?_
  refine lv_bipush (v := (6 : Int32)) hx hb dX9_init_253 (by decide) ?_
  replace h := lt_e h
  obtain ⟨z_219, ez_219, h⟩ := h
  replace h := lt_e h
  obtain ⟨P_220, eP_220, h⟩ := h
  refine cw_newi cx w (by decide) (by decide) eP_220 (hsub _ uar_int) (Nat.le_of_ble_eq_true rfl) (Nat.le_of_ble_eq_true rfl) dX9_init_255 (fun H w => ?_)
  refine W.widen (k := 24) (n := 1895) (Nat.le_of_ble_eq_true rfl) (Nat.le_of_ble_eq_true rfl) ?_
  have hkz_219 : kk P_220 z_219 12 = true := by rw [ez_219]; exact kk_new eP_220
  rw [← ez_219]
  refine lv_dup hx hb dX9_init_257 rfl ?_
  refine lv_iconst (v := (0 : Int32)) hx hb dX9_init_258 (by decide) ?_
  refine lv_iconst (v := (-1 : Int32)) hx hb dX9_init_259 (by decide) ?_
  replace h := ck_e h
  obtain ⟨hq_221, h⟩ := h
  replace h := lt_e h
  obtain ⟨P_222, eP_222, h⟩ := h
  refine cw_iast cx w hkz_219 hq_221 eP_222 dX9_init_260 (fun H locs w => ?_)
  refine lv_dup hx hb dX9_init_261 rfl ?_
  refine lv_iconst (v := (1 : Int32)) hx hb dX9_init_262 (by decide) ?_
  refine lv_iconst (v := (-1 : Int32)) hx hb dX9_init_263 (by decide) ?_
  have hk_223 : kk P_222 z_219 12 = true := by rw [eP_222]; exact hkz_219
  replace h := ck_e h
  obtain ⟨hq_224, h⟩ := h
  replace h := lt_e h
  obtain ⟨P_225, eP_225, h⟩ := h
  refine cw_iast cx w hk_223 hq_224 eP_225 dX9_init_264 (fun H locs w => ?_)
  refine lv_dup hx hb dX9_init_265 rfl ?_
  refine lv_iconst (v := (2 : Int32)) hx hb dX9_init_266 (by decide) ?_
  refine lv_iconst (v := (-1 : Int32)) hx hb dX9_init_267 (by decide) ?_
  have hk_226 : kk P_225 z_219 12 = true := by rw [eP_225]; exact hk_223
  replace h := ck_e h
  obtain ⟨hq_227, h⟩ := h
  replace h := lt_e h
  obtain ⟨P_228, eP_228, h⟩ := h
  refine cw_iast cx w hk_226 hq_227 eP_228 dX9_init_268 (fun H locs w => ?_)
  refine lv_dup hx hb dX9_init_269 rfl ?_
  refine lv_iconst (v := (3 : Int32)) hx hb dX9_init_270 (by decide) ?_
  refine lv_iconst (v := (-1 : Int32)) hx hb dX9_init_271 (by decide) ?_
  have hk_229 : kk P_228 z_219 12 = true := by rw [eP_228]; exact hk_226
  replace h := ck_e h
  obtain ⟨hq_230, h⟩ := h
  replace h := lt_e h
  obtain ⟨P_231, eP_231, h⟩ := h
  refine cw_iast cx w hk_229 hq_230 eP_231 dX9_init_272 (fun H locs w => ?_)
  refine lv_dup hx hb dX9_init_273 rfl ?_
  refine lv_iconst (v := (4 : Int32)) hx hb dX9_init_274 (by decide) ?_
  refine lv_iconst (v := (-1 : Int32)) hx hb dX9_init_275 (by decide) ?_
  have hk_232 : kk P_231 z_219 12 = true := by rw [eP_231]; exact hk_229
  replace h := ck_e h
  obtain ⟨hq_233, h⟩ := h
  replace h := lt_e h
  obtain ⟨P_234, eP_234, h⟩ := h
  refine cw_iast cx w hk_232 hq_233 eP_234 dX9_init_276 (fun H locs w => ?_)
  refine lv_dup hx hb dX9_init_277 rfl ?_
  refine lv_iconst (v := (5 : Int32)) hx hb dX9_init_278 (by decide) ?_
  refine lv_iconst (v := (-1 : Int32)) hx hb dX9_init_279 (by decide) ?_
  have hk_235 : kk P_234 z_219 12 = true := by rw [eP_234]; exact hk_232
  replace h := ck_e h
  obtain ⟨hq_236, h⟩ := h
  replace h := lt_e h
  obtain ⟨P_237, eP_237, h⟩ := h
  refine cw_iast cx w hk_235 hq_236 eP_237 dX9_init_280 (fun H locs w => ?_)
  replace h := ck_e h
  obtain ⟨hk_238, h⟩ := h
  replace h := lt_e h
  obtain ⟨P_239, eP_239, h⟩ := h
  refine cw_putR cx hsub w kT10 hk_238 36 (v := (some z_219)) eP_239 (by decide) (by first | exact Or.inl ⟨_, rfl⟩ | exact Or.inr ⟨_, rfl⟩) (Or.inr ⟨rfl, hnm, rfl⟩) ⟨hsub _ uf_RX9_120, Or.inl rfl⟩ dX9_init_281 (fun H locs w => ?_)
  refine lv_aload_n hx hb dX9_init_284 rfl (lv_at hl 0 rfl) ?_
  refine lv_bipush (v := (6 : Int32)) hx hb dX9_init_285 (by decide) ?_
  replace h := lt_e h
  obtain ⟨z_240, ez_240, h⟩ := h
  replace h := lt_e h
  obtain ⟨P_241, eP_241, h⟩ := h
  refine cw_newi cx w (by decide) (by decide) eP_241 (hsub _ uar_int) (Nat.le_of_ble_eq_true rfl) (Nat.le_of_ble_eq_true rfl) dX9_init_287 (fun H w => ?_)
  refine W.widen (k := 25) (n := 1901) (Nat.le_of_ble_eq_true rfl) (Nat.le_of_ble_eq_true rfl) ?_
  have hkz_240 : kk P_241 z_240 12 = true := by rw [ez_240]; exact kk_new eP_241
  rw [← ez_240]
  replace h := ck_e h
  obtain ⟨hk_242, h⟩ := h
  replace h := lt_e h
  obtain ⟨P_243, eP_243, h⟩ := h
  refine cw_putR cx hsub w kT10 hk_242 37 (v := (some z_240)) eP_243 (by decide) (by first | exact Or.inl ⟨_, rfl⟩ | exact Or.inr ⟨_, rfl⟩) (Or.inr ⟨rfl, hnm, rfl⟩) ⟨hsub _ uf_RX9_123, Or.inl rfl⟩ dX9_init_289 (fun H locs w => ?_)
  refine lv_aload_n hx hb dX9_init_292 rfl (lv_at hl 0 rfl) ?_
  refine lv_sipush (v := (360 : Int32)) hx hb dX9_init_293 (by decide) ?_
  replace h := lt_e h
  obtain ⟨z_244, ez_244, h⟩ := h
  replace h := lt_e h
  obtain ⟨P_245, eP_245, h⟩ := h
  refine cw_newl cx w (by decide) (by decide) eP_245 (hsub _ uar_long) (Nat.le_of_ble_eq_true rfl) (Nat.le_of_ble_eq_true rfl) dX9_init_296 (fun H w => ?_)
  refine W.widen (k := 26) (n := 2261) (Nat.le_of_ble_eq_true rfl) (Nat.le_of_ble_eq_true rfl) ?_
  have hkz_244 : kk P_245 z_244 13 = true := by rw [ez_244]; exact kk_new eP_245
  rw [← ez_244]
  replace h := ck_e h
  obtain ⟨hk_246, h⟩ := h
  replace h := lt_e h
  obtain ⟨P_247, eP_247, h⟩ := h
  refine cw_putR cx hsub w kT10 hk_246 38 (v := (some z_244)) eP_247 (by decide) (by first | exact Or.inl ⟨_, rfl⟩ | exact Or.inr ⟨_, rfl⟩) (Or.inr ⟨rfl, hnm, rfl⟩) ⟨hsub _ uf_RX9_126, Or.inl rfl⟩ dX9_init_298 (fun H locs w => ?_)
  refine lv_aload_n hx hb dX9_init_301 rfl (lv_at hl 0 rfl) ?_
  refine lv_bipush (v := (60 : Int32)) hx hb dX9_init_302 (by decide) ?_
  replace h := lt_e h
  obtain ⟨z_248, ez_248, h⟩ := h
  replace h := lt_e h
  obtain ⟨P_249, eP_249, h⟩ := h
  refine cw_newl cx w (by decide) (by decide) eP_249 (hsub _ uar_long) (Nat.le_of_ble_eq_true rfl) (Nat.le_of_ble_eq_true rfl) dX9_init_304 (fun H w => ?_)
  refine W.widen (k := 27) (n := 2321) (Nat.le_of_ble_eq_true rfl) (Nat.le_of_ble_eq_true rfl) ?_
  have hkz_248 : kk P_249 z_248 13 = true := by rw [ez_248]; exact kk_new eP_249
  rw [← ez_248]
  replace h := ck_e h
  obtain ⟨hk_250, h⟩ := h
  replace h := lt_e h
  obtain ⟨P_251, eP_251, h⟩ := h
  refine cw_putR cx hsub w kT10 hk_250 39 (v := (some z_248)) eP_251 (by decide) (by first | exact Or.inl ⟨_, rfl⟩ | exact Or.inr ⟨_, rfl⟩) (Or.inr ⟨rfl, hnm, rfl⟩) ⟨hsub _ uf_RX9_130, Or.inl rfl⟩ dX9_init_306 (fun H locs w => ?_)
  refine W.widen (k := 27) (n := 2321) (Nat.le_of_ble_eq_true rfl) (Nat.le_of_ble_eq_true rfl) ?_
  exact cw_vret cx (rt_e h) w dX9_init_309
