-- the law: its switch, its loop, its entry
section PSW
variable {p : Program} {l : Launch} {e : Env} {s : State} {m : MethodId} {below : List Frame} {meth : Method} {c : Code} {H : Heap} {locs : List Loc} {cells slots : Nat} {Q : State → Prop} {ls : Array Slot}
variable {D : va_G} {cs : Nat → ClassId} {t0 : TS} {A : Nat → Prop} {P : PS} {ty : Option FieldType} {adm : Nat → Nat} {S : MS} {da : DD} {Aa : AA} {b L i : Nat} {xs : Nat → Int32}
theorem gt6 {i L : Nat} (hi : i ≤ 400) (hL : L ≤ 384) : nI L - 6 < nI i ↔ L < i + 6 := by
  rw [Int32.lt_iff_toInt_lt, Int32.toInt_sub, nI_toInt (by omega), nI_toInt (by omega), show (6 : Int32).toInt = 6 from rfl, Int.bmod_eq_of_le (by omega) (by omega)]
  omega
theorem and31 (x : Int32) : ∃ k, k < 32 ∧ x &&& 31 = nI k := by
  refine ⟨x.toBitVec.toNat % 32, Nat.mod_lt _ (by decide), ?_⟩
  apply Int32.toBitVec_inj.mp
  apply BitVec.eq_of_toNat_eq
  have h1 : (x &&& 31).toBitVec.toNat = x.toBitVec.toNat &&& 31 := by
    rw [Int32.toBitVec_and, BitVec.toNat_and]
    rfl
  have h2 : (nI (x.toBitVec.toNat % 32)).toBitVec.toNat = (x.toBitVec.toNat % 32) % 2 ^ 32 := by
    show (BitVec.ofNat 32 _).toNat = _
    rw [BitVec.toNat_ofNat]
  rw [h1, h2, Nat.mod_eq_of_lt (a := x.toBitVec.toNat % 32) (by omega)]
  exact Nat.and_two_pow_sub_one_eq_mod _ 5
set_option maxHeartbeats 4000000 in
set_option maxRecDepth 100000 in
theorem law_case (cx : mCx p s m #[Value.ref b] meth c RL code (Cond.classLink RL 7 RX8 :: wsL_law) 4 ty) (hX : va_X b L xs s s.heap) (hbl : b < s.heap.size) (hbA : ¬ A b) (hi : 6 * i + 6 ≤ L) (hL : L ≤ 384) (hf1 : cells + 1513 ≤ 600000) (hf2 : slots + 96832 ≤ 7302250) (hl : lv_has ls 4 [(0, .ref b), (1, .ref (da 0)), (2, .ref (adm 100)), (3, .int (nI (6 * i)))]) (w : cWd D cs t0 A s P H locs) (hm : mX D cs adm A S P H) (hc : CC t0 da Aa P) (hM : MM Aa S) (hW : WF Aa) (next : LNx p l e s m b below meth c cells slots Q ls D cs t0 A adm da) {k : Nat} (hk : k < 32) : W p l e room_1 s m #[Value.ref b] below meth c H locs cells slots Q (F0 m 33 ls [.int (nI k)]) := by
  have hx := cx.1
  have hb := cx.2.1
  have go : ∀ (off : Int) (tgt : Nat), (#[143, 176, 219, 252, 285, 308, 341, 364, 387, 440, 483, 526, 579, 612, 665, 698, 721, 754, 797, 840, 873, 896, 909, 942, 1005, 1048, 1071, 1104, 1127, 1170, 1243, 1277] : Array Int)[k]? = some off → ((33 : Nat) : Int) + off = (tgt : Int) → W p l e room_1 s m #[Value.ref b] below meth c H locs cells slots Q (F0 m tgt ls []) → W p l e room_1 s m #[Value.ref b] below meth c H locs cells slots Q (F0 m 33 ls [.int (nI k)]) := fun off tgt h1 h2 kk => lv_tableIn hx hb dL_law_33 (by rw [nI_toInt (by omega)]; omega) (by rw [nI_toInt (by omega)]; omega) (by rw [nI_toInt (by omega), Int.sub_zero, Int.toNat_natCast]; exact h1) h2 kk
  match k, hk with
  | 0, _ => exact go 143 176 rfl (by decide) (lk_0 cx hX hbl hbA hi hL hf1 hf2 hl w hm hc hM hW next)
  | 1, _ => exact go 176 209 rfl (by decide) (lk_1 cx hX hbl hbA hi hL hf1 hf2 hl w hm hc hM hW next)
  | 2, _ => exact go 219 252 rfl (by decide) (lk_2 cx hX hbl hbA hi hL hf1 hf2 hl w hm hc hM hW next)
  | 3, _ => exact go 252 285 rfl (by decide) (lk_3 cx hX hbl hbA hi hL hf1 hf2 hl w hm hc hM hW next)
  | 4, _ => exact go 285 318 rfl (by decide) (lk_4 cx hX hbl hbA hi hL hf1 hf2 hl w hm hc hM hW next)
  | 5, _ => exact go 308 341 rfl (by decide) (lk_5 cx hX hbl hbA hi hL hf1 hf2 hl w hm hc hM hW next)
  | 6, _ => exact go 341 374 rfl (by decide) (lk_6 cx hX hbl hbA hi hL hf1 hf2 hl w hm hc hM hW next)
  | 7, _ => exact go 364 397 rfl (by decide) (lk_7 cx hX hbl hbA hi hL hf1 hf2 hl w hm hc hM hW next)
  | 8, _ => exact go 387 420 rfl (by decide) (lk_8 cx hX hbl hbA hi hL hf1 hf2 hl w hm hc hM hW next)
  | 9, _ => exact go 440 473 rfl (by decide) (lk_9 cx hX hbl hbA hi hL hf1 hf2 hl w hm hc hM hW next)
  | 10, _ => exact go 483 516 rfl (by decide) (lk_10 cx hX hbl hbA hi hL hf1 hf2 hl w hm hc hM hW next)
  | 11, _ => exact go 526 559 rfl (by decide) (lk_11 cx hX hbl hbA hi hL hf1 hf2 hl w hm hc hM hW next)
  | 12, _ => exact go 579 612 rfl (by decide) (lk_12 cx hX hbl hbA hi hL hf1 hf2 hl w hm hc hM hW next)
  | 13, _ => exact go 612 645 rfl (by decide) (lk_13 cx hX hbl hbA hi hL hf1 hf2 hl w hm hc hM hW next)
  | 14, _ => exact go 665 698 rfl (by decide) (lk_14 cx hX hbl hbA hi hL hf1 hf2 hl w hm hc hM hW next)
  | 15, _ => exact go 698 731 rfl (by decide) (lk_15 cx hX hbl hbA hi hL hf1 hf2 hl w hm hc hM hW next)
  | 16, _ => exact go 721 754 rfl (by decide) (lk_16 cx hX hbl hbA hi hL hf1 hf2 hl w hm hc hM hW next)
  | 17, _ => exact go 754 787 rfl (by decide) (lk_17 cx hX hbl hbA hi hL hf1 hf2 hl w hm hc hM hW next)
  | 18, _ => exact go 797 830 rfl (by decide) (lk_18 cx hX hbl hbA hi hL hf1 hf2 hl w hm hc hM hW next)
  | 19, _ => exact go 840 873 rfl (by decide) (lk_19 cx hX hbl hbA hi hL hf1 hf2 hl w hm hc hM hW next)
  | 20, _ => exact go 873 906 rfl (by decide) (lk_20 cx hX hbl hbA hi hL hf1 hf2 hl w hm hc hM hW next)
  | 21, _ => exact go 896 929 rfl (by decide) (lk_21 cx hX hbl hbA hi hL hf1 hf2 hl w hm hc hM hW next)
  | 22, _ => exact go 909 942 rfl (by decide) (lk_22 cx hX hbl hbA hi hL hf1 hf2 hl w hm hc hM hW next)
  | 23, _ => exact go 942 975 rfl (by decide) (lk_23 cx hX hbl hbA hi hL hf1 hf2 hl w hm hc hM hW next)
  | 24, _ => exact go 1005 1038 rfl (by decide) (lk_24 cx hX hbl hbA hi hL hf1 hf2 hl w hm hc hM hW next)
  | 25, _ => exact go 1048 1081 rfl (by decide) (lk_25 cx hX hbl hbA hi hL hf1 hf2 hl w hm hc hM hW next)
  | 26, _ => exact go 1071 1104 rfl (by decide) (lk_26 cx hX hbl hbA hi hL hf1 hf2 hl w hm hc hM hW next)
  | 27, _ => exact go 1104 1137 rfl (by decide) (lk_27 cx hX hbl hbA hi hL hf1 hf2 hl w hm hc hM hW next)
  | 28, _ => exact go 1127 1160 rfl (by decide) (lk_28 cx hX hbl hbA hi hL hf1 hf2 hl w hm hc hM hW next)
  | 29, _ => exact go 1170 1203 rfl (by decide) (lk_29 cx hX hbl hbA hi hL hf1 hf2 hl w hm hc hM hW next)
  | 30, _ => exact go 1243 1276 rfl (by decide) (lk_30 cx hX hbl hbA hi hL hf1 hf2 hl w hm hc hM hW next)
  | 31, _ => exact go 1277 1310 rfl (by decide) (lk_31 cx hX hbl hbA hi hL hf1 hf2 hl w hm hc hM hW next)
  | k + 32, hk => exact absurd hk (by omega)
def LHd (p : Program) (l : Launch) (e : Env) (s : State) (m : MethodId) (b : Nat) (below : List Frame) (meth : Method) (c : Code) (D : va_G) (cs : Nat → ClassId) (t0 : TS) (adm : Nat → Nat) (x i : Nat) : Prop := ∀ (Aa : AA) (da : DD) (P : PS) (S : MS) (H : Heap) (locs : List Loc) (ls : Array Slot), da 0 = x → lv_has ls 4 [(0, .ref b), (1, .ref (da 0)), (2, .ref (adm 100)), (3, .int (nI (6 * i)))] → cWd D cs t0 (fun q : Nat => s.heap.size ≤ q) s P H locs → mX D cs adm (fun q : Nat => s.heap.size ≤ q) S P H → CC t0 da Aa P → MM Aa S → WF Aa → W p l e room_1 s m #[Value.ref b] below meth c H locs (200 + 1513 * i) (5000 + 96832 * i) (lw_Z below #[Value.ref b] s) (F0 m 18 ls [])
set_option maxHeartbeats 4000000 in
set_option maxRecDepth 100000 in
theorem law_step (cx : mCx p s m #[Value.ref b] meth c RL code (Cond.classLink RL 7 RX8 :: wsL_law) 4 ret) (hX : va_X b L xs s s.heap) (hbl : b < s.heap.size) (hL : L ≤ 384) {x : Nat} (hi : i ≤ 64) (nx : i < 64 → LHd p l e s m b below meth c D cs t0 adm x (i + 1)) : LHd p l e s m b below meth c D cs t0 adm x i := by
  intro Aa da P S H locs ls hd hl w hm hc hM hW
  obtain ⟨hx, hb, hr, hts, hown, hlocks, hml⟩ := id cx
  have hbA : ¬ (fun q : Nat => s.heap.size ≤ q) b := Nat.not_le.mpr hbl
  refine lv_iload_n hx hb dL_law_18 rfl (lv_at hl 3 rfl) ?_
  refine lv_aload_n hx hb dL_law_19 rfl (lv_at hl 0 rfl) ?_
  refine va_slen hx hb hX hbl hbA w.2.2.2.2.1 dL_law_20 ?_
  refine lv_bipush (v := 6) hx hb dL_law_21 (by decide) ?_
  refine lv_isub hx hb dL_law_23 ?_
  refine lv_icmp_gt (tgt := 1379) hx hb dL_law_24 (by decide) (fun q => ?_) (fun q => ?_)
  · refine lv_iconst (v := 1) hx hb dL_law_1379 (by decide) ?_
    refine va_forget (fun q hq => w.2.2.2.2.1.2.2 q hq) ?_
    refine W.widen (k := 600000) (n := 7302250) (by omega) (by omega) ?_
    exact lw_ret hx hb hr hlocks dL_law_1380
  · have q' : ¬ nI L - 6 < nI (6 * i) := q
    rw [gt6 (by omega) hL] at q'
    have hi6 : 6 * i + 6 ≤ L := by omega
    refine lv_aload_n hx hb dL_law_27 rfl (lv_at hl 0 rfl) ?_
    refine lv_iload_n hx hb dL_law_28 rfl (lv_at hl 3 rfl) ?_
    refine va_sld hx hb hX hbl hbA w.2.2.2.2.1 (vp_in_nI (show 6 * i < L by omega) (by omega)) dL_law_29 ?_
    refine lv_bipush (v := 31) hx hb dL_law_30 (by decide) ?_
    refine lv_iand hx hb dL_law_32 ?_
    obtain ⟨k, hk, ek⟩ := and31 (xs (nI (6 * i)).toNatClampNeg)
    rw [ek]
    refine law_case cx hX hbl hbA hi6 hL (by omega) (by omega) hl w hm hc hM hW ?_ hk
    intro A' da' P' S' H' locs' hda w hm hc hM hW
    refine lv_iinc (v := nI (6 * (i + 1))) (lv' := [(3, .int (nI (6 * (i + 1)))), (0, .ref b), (1, .ref (da 0)), (2, .ref (adm 100))]) hx hb dL_law_1373 hl (k := 3) rfl (by rw [show Int32.ofInt 6 = nI 6 from rfl, nI_add]; rfl) (by decide) rfl (fun ls hl => ?_)
    refine lv_goto (tgt := 18) hx hb dL_law_1376 (by decide) ?_
    refine W.widen (k := 200 + 1513 * (i + 1)) (n := 5000 + 96832 * (i + 1)) (by omega) (by omega) ?_
    have hl' : lv_has ls 4 [(0, .ref b), (1, .ref (da 0)), (2, .ref (adm 100)), (3, .int (nI (6 * (i + 1))))] := lv_sub hl [1, 2, 3, 0] rfl
    rw [← hda] at hl'
    exact nx (by omega) A' da' P' S' H' locs' ls (hda.trans hd) hl' w hm hc hM hW
theorem law_loop (cx : mCx p s m #[Value.ref b] meth c RL code (Cond.classLink RL 7 RX8 :: wsL_law) 4 ret) (hX : va_X b L xs s s.heap) (hbl : b < s.heap.size) (hL : L ≤ 384) {x : Nat} : ∀ (n i : Nat), i ≤ 64 → 64 ≤ i + n → LHd p l e s m b below meth c D cs t0 adm x i := by
  intro n
  induction n with
  | zero => exact fun i hi hn => law_step cx hX hbl hL hi (fun h => absurd h (by omega))
  | succ n ih => exact fun i hi hn => law_step cx hX hbl hL hi (fun h => ih (i + 1) (by omega) (by omega))
end PSW
set_option maxHeartbeats 4000000 in
set_option maxRecDepth 100000 in
/-- from the entry, for every script of at most 384 ints, the law comes to its end with true -/
theorem whole_start {p : Program} {e : Env} {s : State} {m : MethodId} {below : List Frame} {meth : Method} {c : Code} (l : Launch) (hflags : l.flags = flags0) {b L : Nat} {xs : Nat → Int32} (hL : L ≤ 384) (C0 : lw_At p s m meth c b L xs) : W p l e room_1 s m #[Value.ref b] below meth c s.heap [] 0 0 (lw_Z below #[Value.ref b] s) (entryFrame m ([Value.ref b] : List Value).toArray 4) := by
  obtain ⟨hx, hb, hr, hml, hown, htbl, hX, hbl, hlocks, hgv⟩ := id C0
  have hts : ∀ w ∈ (Cond.classLink RL 7 RX8 :: wsL_law), w.before #[Value.ref b] s = true := fun w h => htbl w ((List.mem_cons.mp h).elim (fun q => q ▸ wsL_in _ ucl_RL_7) (wsL_in w))
  have hsub : ∀ w ∈ wsL_law, w ∈ (Cond.classLink RL 7 RX8 :: wsL_law) := fun w h => List.mem_cons_of_mem _ h
  have cx : mCx p s m #[Value.ref b] meth c RL code (Cond.classLink RL 7 RX8 :: wsL_law) 4 ret := ⟨hx, hb, hr, hts, hown, hlocks, hml⟩
  obtain ⟨D, cs, t0, P, w, hz, hZ⟩ := st_all (l := []) rfl htbl hgv
  have hl := lv_entry ([.ref b]) (n := 4) (Nat.le_of_ble_eq_true rfl)
  rw [lg_entry_eq]
  generalize (lg_sl ([.ref b]) ++ List.replicate (4 - (lg_sl ([.ref b])).length) Slot.unset).toArray = ls at hl ⊢
  have hl : lv_has ls 4 [(0, .ref b)] := hl
  -- the class
  obtain ⟨Pn, ePn⟩ : ∃ T, T = pNew P 9 0 := ⟨_, rfl⟩
  refine cw_new cx hsub w kT9 ePn (by decide +kernel) (hsub _ ucl_RL_7) (hsub _ uin_RX8) (hsub _ un_RX8) (Nat.le_of_ble_eq_true rfl) (Nat.le_of_ble_eq_true rfl) dL_law_0 (fun H w => ?_)
  refine lv_dup hx hb dL_law_3 rfl ?_
  have n1 : kk Pn (pZ P) 9 = true := by rw [ePn]; exact pNew_kz
  have n2 : CZ t0 Pn := by rw [ePn]; exact hz.new
  have n3 : pZ Pn = pZ P + 1 := by rw [ePn, pNew_Z]
  have n4 : pR Pn (pZ P) = fun _ => none := by rw [ePn]; exact pNew_Rz
  clear ePn
  obtain ⟨P1, e1, hc⟩ := c_init8 n1 n2 n3 n4
  refine cc_v (cr_I (As := []) (rest := [.ref (pZ P)]) cx (hcc_X8_init l D cs t0 Pn P1 (pZ P) 0 e1) (cwI 0 hts (uGB uw_X8_init) rfl rfl rfl (hts _ (hsub _ un_RX8)) (hts _ (hsub _ ul_RL_9)) (hts _ (hsub _ ui_X8_init)) rfl ud_X8_init.2 ⟨Nat.le_of_ble_eq_true rfl, Nat.le_of_ble_eq_true rfl⟩) w rfl hl.1 rfl (Nat.le_of_ble_eq_true rfl) dL_law_4 ⟨Nat.le_of_ble_eq_true rfl, Nat.le_of_ble_eq_true rfl⟩) (fun H locs w => ?_)
  refine lv_astore_n (lv' := [(1, .ref (pZ P)), (0, .ref b)]) hx hb dL_law_7 rfl hl (by decide) rfl (fun ls hl => ?_)
  have hz1 : CZ t0 P1 := hc.2.2.2.2.2.2.2.2.2.2
  have hD1 := w.2.2.2.1
  have hs1 : s.heap.size ≤ pZ P1 := by rw [← w.1]; exact w.2.2.2.2.1.1
  -- the reference
  obtain ⟨Pm, ePm⟩ : ∃ T, T = pNew P1 10 0 := ⟨_, rfl⟩
  refine cw_new cx hsub w kT10 ePm (by decide +kernel) (hsub _ ucl_RL_10) (hsub _ uin_RX9) (hsub _ un_RX9) (Nat.le_of_ble_eq_true rfl) (Nat.le_of_ble_eq_true rfl) dL_law_8 (fun H w => ?_)
  refine lv_dup hx hb dL_law_11 rfl ?_
  obtain ⟨P2, e2, k2, -, z2, f2, i2, a2⟩ := m_init9 (t0 := t0) (th := pZ P1) (P := Pm) (by rw [ePm]; exact pNew_kz) (by rw [ePm]; exact hz1.new) (by rw [ePm, pNew_Z]) (by rw [ePm]; exact pNew_Iz)
  refine cc_v (cr_I (As := []) (rest := [.ref (pZ P1)]) cx (hcc_X9_init l D cs t0 Pm P2 (pZ P1) 0 e2) (cwI 0 hts (uGB uw_X9_init) rfl rfl rfl (hts _ (hsub _ un_RX9)) (hts _ (hsub _ ul_RL_12)) (hts _ (hsub _ ui_X9_init)) rfl ud_X9_init.2 ⟨Nat.le_of_ble_eq_true rfl, Nat.le_of_ble_eq_true rfl⟩) w rfl hl.1 rfl (Nat.le_of_ble_eq_true rfl) dL_law_12 ⟨Nat.le_of_ble_eq_true rfl, Nat.le_of_ble_eq_true rfl⟩) (fun H locs w => ?_)
  refine lv_astore_n (lv' := [(2, .ref (pZ P1)), (1, .ref (pZ P)), (0, .ref b)]) hx hb dL_law_15 rfl hl (by decide) rfl (fun ls hl => ?_)
  obtain ⟨w, hm, hc, hM⟩ := p3_all hD1 hz1 rfl hs1 ePm k2 z2 f2 i2 a2 hc w
  refine lv_iconst (v := 0) hx hb dL_law_16 (by decide) ?_
  refine lv_istore_n (lv' := [(3, .int 0), (2, .ref (pZ P1)), (1, .ref (pZ P)), (0, .ref b)]) hx hb dL_law_17 rfl hl (by decide) rfl (fun ls hl => ?_)
  refine W.widen (k := 200 + 1513 * 0) (n := 5000 + 96832 * 0) (by decide) (by decide) ?_
  exact law_loop cx hX hbl hL 64 0 (by decide) (by decide) A00 _ _ _ H locs ls rfl (lv_sub hl [3, 2, 1, 0] rfl) w hm hc hM wf00
