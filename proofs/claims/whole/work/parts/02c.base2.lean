section MWR
variable {p : Program} {l : Launch} {e : Env} {R : Room} {s : State} {m : MethodId} {args : Array Value} {below : List Frame} {meth : Method} {c : Code} {H : Heap} {locs : List Loc} {cells slots : Nat} {Q : State → Prop}
variable {cc : ByteArray} {pc : Nat} {ls : Array Slot} {rest : List Value} {D : va_G} {cs : Nat → ClassId} {ad : Nat → Nat} {S T : MS} {Ts : List Cond} {nL : Nat} {ty : Option FieldType}
theorem top_i {e2 : Env} {x y : Int32} (e : y = x) (k : W p l e2 R s m args below meth c H locs cells slots Q (F0 m pc ls (.int y :: rest))) : W p l e2 R s m args below meth c H locs cells slots Q (F0 m pc ls (.int x :: rest)) := e ▸ k
theorem top_l {e2 : Env} {x y : Int64} (e : y = x) (k : W p l e2 R s m args below meth c H locs cells slots Q (F0 m pc ls (.long y :: rest))) : W p l e2 R s m args below meth c H locs cells slots Q (F0 m pc ls (.long x :: rest)) := e ▸ k
theorem lv_tableH (hx : p.tables.exec = Jvm.exec) (hb : c.code = cc) {dflt lo hi : Int} {offs : Array Int} {len : Nat} {x : Int32} {tgt : Nat} (hdg : decode cc pc = .ok (.tableswitch dflt lo hi offs, len)) (h : (x.toInt < lo ∨ hi < x.toInt) ∨ (¬ x.toInt < lo ∧ ¬ hi < x.toInt ∧ offs[(x.toInt - lo).toNat]? = some dflt)) (ht : (pc : Int) + dflt = (tgt : Int))
    (k : W p l e R s m args below meth c H locs cells slots Q (F0 m tgt ls rest)) : W p l e R s m args below meth c H locs cells slots Q (F0 m pc ls (.int x :: rest)) := by
  rcases h with h | ⟨h1, h2, h3⟩
  · exact lv_tableOut hx hb hdg h ht k
  · exact lv_tableIn hx hb hdg h1 h2 h3 ht k
theorem mw_getI (cx : mCx p s m args meth c RX9 cc Ts nL ty) (hin : ∀ w ∈ wsX90, w ∈ Ts) (w : mWd D cs ad s S H locs) (k : Nat) (hk : k < 40 ∧ mIsR k = false ∧ (TX9 k).1 = RX9) {index : Nat} (hlink : Cond.fieldLink RX9 index RX9 (TX9 k).2.1 (TX9 k).2.2.1 ∈ Ts) (hdg : decode cc pc = .ok (.getfield index, 3))
    (kk : W p l e R s m args below meth c H locs cells slots Q (F0 m (pc + 3) ls (.int (S.1 k) :: rest))) : W p l e R s m args below meth c H locs cells slots Q (F0 m pc ls (.ref (ad 100) :: rest)) := by
  obtain ⟨hx, hb, -, hts, hown, -⟩ := cx
  exact va_get (D := D) (cl := vwCl) (ws := mW cs ad S) (ci := 10) (C := RX9) (T := TX9) (N := 40) hx hb hts hin hown w.2.1 w.1 0 mW_0 rfl k hk.1 (hts _ hlink) (fun x h => by rw [hk.2.2] at h; exact h) (by rw [mF_get hk.1]; simp [mV, hk.2.1]) hdg kk
theorem mw_getR (cx : mCx p s m args meth c RX9 cc Ts nL ty) (hin : ∀ w ∈ wsX90, w ∈ Ts) (w : mWd D cs ad s S H locs) (k : Nat) (hk : k < 40 ∧ mIsR k = true ∧ (TX9 k).1 = RX9) {index : Nat} (hlink : Cond.fieldLink RX9 index RX9 (TX9 k).2.1 (TX9 k).2.2.1 ∈ Ts) (hdg : decode cc pc = .ok (.getfield index, 3))
    (kk : W p l e R s m args below meth c H locs cells slots Q (F0 m (pc + 3) ls (.ref (ad k) :: rest))) : W p l e R s m args below meth c H locs cells slots Q (F0 m pc ls (.ref (ad 100) :: rest)) := by
  obtain ⟨hx, hb, -, hts, hown, -⟩ := cx
  exact va_get (D := D) (cl := vwCl) (ws := mW cs ad S) (ci := 10) (C := RX9) (T := TX9) (N := 40) hx hb hts hin hown w.2.1 w.1 0 mW_0 rfl k hk.1 (hts _ hlink) (fun x h => by rw [hk.2.2] at h; exact h) (by rw [mF_get hk.1]; simp [mV, hk.2.1]) hdg kk
theorem mw_putI (cx : mCx p s m args meth c RX9 cc Ts nL ty) (hin : ∀ w ∈ wsX90, w ∈ Ts) (w : mWd D cs ad s S H locs) (k : Nat) {v : Int32} (hT : T = mP S k v) (hk : k < 40 ∧ mIsR k = false ∧ (TX9 k).1 = RX9 ∧ (TX9 k).2.2.2 = false ∧ parseFieldDescriptor (TX9 k).2.2.1 = some .int) {index : Nat} (hlink : Cond.fieldLink RX9 index RX9 (TX9 k).2.1 (TX9 k).2.2.1 ∈ Ts) (hdg : decode cc pc = .ok (.putfield index, 3))
    (kk : ∀ (H1 : Heap) (locs1 : List Loc), mWd D cs ad s T H1 locs1 → W p l e R s m args below meth c H1 locs1 cells slots Q (F0 m (pc + 3) ls rest)) : W p l e R s m args below meth c H locs cells slots Q (F0 m pc ls (.int v :: .ref (ad 100) :: rest)) := by
  obtain ⟨hx, hb, -, hts, hown, -⟩ := cx
  refine va_put (D := D) (cl := vwCl) (ws := mW cs ad S) (ci := 10) (v := .int v) (ty := .int) (C := RX9) (T := TX9) (N := 40) hx hb hts hin tyX9 tyX9_ok nmX9 hown w.2.1 w.1 w.2.2.1 w.2.2.2 0 mW_0 rfl k hk.1 (hts _ hlink) (fun x h => by rw [hk.2.2.1] at h; exact h) hk.2.2.2.1 hk.2.2.2.2 rfl rfl (by simp [mF, hk.1]) hdg (fun H1 locs1 hP hD hS => ?_)
  rw [mW_setI hk.1 hk.2.1, ← hT] at hP hD
  exact kk H1 locs1 ⟨hP, w.2.1, hD, hS⟩
theorem mw_iald (cx : mCx p s m args meth c RX9 cc Ts nL ty) (w : mWd D cs ad s S H locs) (j k n : Nat) (hj : mSl[j]? = some k ∧ mTy k = 0 ∧ mLen k = n) {i : Int32} (hi : vin i n = true) (hdg : decode cc pc = .ok (.iaload, 1))
    (kk : W p l e R s m args below meth c H locs cells slots Q (F0 m (pc + 1) ls (.int (S.2.1 k i.toNatClampNeg) :: rest))) : W p l e R s m args below meth c H locs cells slots Q (F0 m pc ls (.int i :: .ref (ad k) :: rest)) := by
  obtain ⟨hx, hb, -⟩ := cx
  exact va_iald hx hb w.2.1 w.1 (j + 1) 1 (cA := cs 1) (n := n) (f := S.2.1 k) (by rw [mW_k hj.1]; simp [mE, hj.2.1, hj.2.2]) rfl (vin_e hi) hdg kk
theorem mw_zald (cx : mCx p s m args meth c RX9 cc Ts nL ty) (w : mWd D cs ad s S H locs) (j k n : Nat) (hj : mSl[j]? = some k ∧ mTy k = 1 ∧ mLen k = n) {i : Int32} (hi : vin i n = true) (hdg : decode cc pc = .ok (.baload, 1))
    (kk : W p l e R s m args below meth c H locs cells slots Q (F0 m (pc + 1) ls (.int (S.2.1 k i.toNatClampNeg) :: rest))) : W p l e R s m args below meth c H locs cells slots Q (F0 m pc ls (.int i :: .ref (ad k) :: rest)) := by
  obtain ⟨hx, hb, -⟩ := cx
  exact va_zald hx hb w.2.1 w.1 (j + 1) 3 (cA := cs 3) (n := n) (f := S.2.1 k) (by rw [mW_k hj.1]; simp [mE, hj.2.1, hj.2.2]) rfl (vin_e hi) hdg kk
theorem mw_lald (cx : mCx p s m args meth c RX9 cc Ts nL ty) (w : mWd D cs ad s S H locs) (j k n : Nat) (hj : mSl[j]? = some k ∧ mTy k = 2 ∧ mLen k = n) {i : Int32} (hi : vin i n = true) (hdg : decode cc pc = .ok (.laload, 1))
    (kk : W p l e R s m args below meth c H locs cells slots Q (F0 m (pc + 1) ls (.long (S.2.2 k i.toNatClampNeg) :: rest))) : W p l e R s m args below meth c H locs cells slots Q (F0 m pc ls (.int i :: .ref (ad k) :: rest)) := by
  obtain ⟨hx, hb, -⟩ := cx
  exact va_lald hx hb w.2.1 w.1 (j + 1) 2 (cA := cs 2) (n := n) (f := S.2.2 k) (by rw [mW_k hj.1]; simp [mE, hj.2.1, hj.2.2]) rfl (vin_e hi) hdg kk
theorem mw_iast (cx : mCx p s m args meth c RX9 cc Ts nL ty) (w : mWd D cs ad s S H locs) (j k n : Nat) (hj : mSl[j]? = some k ∧ mTy k = 0 ∧ mLen k = n) {i v : Int32} (hi : vin i n = true) (hT : T = mR S k i.toNatClampNeg v) (hdg : decode cc pc = .ok (.iastore, 1))
    (kk : ∀ (H1 : Heap) (locs1 : List Loc), mWd D cs ad s T H1 locs1 → W p l e R s m args below meth c H1 locs1 cells slots Q (F0 m (pc + 1) ls rest)) : W p l e R s m args below meth c H locs cells slots Q (F0 m pc ls (.int v :: .int i :: .ref (ad k) :: rest)) := by
  obtain ⟨hx, hb, -⟩ := cx
  refine va_iast hx hb w.2.1 w.1 w.2.2.1 w.2.2.2 (j + 1) 1 (cA := cs 1) (n := n) (f := S.2.1 k) (by rw [mW_k hj.1]; simp [mE, hj.2.1, hj.2.2]) rfl (vin_e hi) hdg (fun H1 locs1 hP hD hS => ?_)
  rw [mW_setA (T := T) hj.1 (by rw [hT]; rfl) (by rw [hT]; simp [mE, mR, hj.2.1, hj.2.2, va_up_self]) (fun x hx => by rw [hT]; simp [mE, mR, va_up_ne _ _ hx])] at hP hD
  exact kk H1 locs1 ⟨hP, w.2.1, hD, hS⟩
theorem mw_zast (cx : mCx p s m args meth c RX9 cc Ts nL ty) (w : mWd D cs ad s S H locs) (j k n : Nat) (hj : mSl[j]? = some k ∧ mTy k = 1 ∧ mLen k = n) {i v : Int32} (hi : vin i n = true) (hT : T = mR S k i.toNatClampNeg (vp_nar .boolean v)) (hdg : decode cc pc = .ok (.bastore, 1))
    (kk : ∀ (H1 : Heap) (locs1 : List Loc), mWd D cs ad s T H1 locs1 → W p l e R s m args below meth c H1 locs1 cells slots Q (F0 m (pc + 1) ls rest)) : W p l e R s m args below meth c H locs cells slots Q (F0 m pc ls (.int v :: .int i :: .ref (ad k) :: rest)) := by
  obtain ⟨hx, hb, -⟩ := cx
  refine va_zast hx hb w.2.1 w.1 w.2.2.1 w.2.2.2 (j + 1) 3 (cA := cs 3) (n := n) (f := S.2.1 k) (by rw [mW_k hj.1]; simp [mE, hj.2.1, hj.2.2]) rfl (vin_e hi) hdg (fun H1 locs1 hP hD hS => ?_)
  rw [mW_setA (T := T) hj.1 (by rw [hT]; rfl) (by rw [hT]; simp [mE, mR, hj.2.1, hj.2.2, va_up_self]) (fun x hx => by rw [hT]; simp [mE, mR, va_up_ne _ _ hx])] at hP hD
  exact kk H1 locs1 ⟨hP, w.2.1, hD, hS⟩
theorem mw_last (cx : mCx p s m args meth c RX9 cc Ts nL ty) (w : mWd D cs ad s S H locs) (j k n : Nat) (hj : mSl[j]? = some k ∧ mTy k = 2 ∧ mLen k = n) {i : Int32} {v : Int64} (hi : vin i n = true) (hT : T = mJ S k i.toNatClampNeg v) (hdg : decode cc pc = .ok (.lastore, 1))
    (kk : ∀ (H1 : Heap) (locs1 : List Loc), mWd D cs ad s T H1 locs1 → W p l e R s m args below meth c H1 locs1 cells slots Q (F0 m (pc + 1) ls rest)) : W p l e R s m args below meth c H locs cells slots Q (F0 m pc ls (.long v :: .int i :: .ref (ad k) :: rest)) := by
  obtain ⟨hx, hb, -⟩ := cx
  refine va_last hx hb w.2.1 w.1 w.2.2.1 w.2.2.2 (j + 1) 2 (cA := cs 2) (n := n) (f := S.2.2 k) (by rw [mW_k hj.1]; simp [mE, hj.2.1, hj.2.2]) rfl (vin_e hi) hdg (fun H1 locs1 hP hD hS => ?_)
  rw [mW_setA (T := T) hj.1 (by rw [hT]; rfl) (by rw [hT]; simp [mE, mJ, hj.2.1, hj.2.2, va_up_self]) (fun x hx => by rw [hT]; simp [mE, mJ, va_up_ne _ _ hx])] at hP hD
  exact kk H1 locs1 ⟨hP, w.2.1, hD, hS⟩
theorem mw_iret (cx : mCx p s m args meth c RX9 cc Ts nL (some .int)) {v r0 : Int32} (hv : v = r0 ∧ S = T) (w : mWd D cs ad s S H locs) (hdg : decode cc pc = .ok (.ireturn, 1)) : W p l e R s m args below meth c H locs 0 0 (mQI below D cs ad args s r0 T) (F0 m pc ls [.int v]) := by
  obtain ⟨hx, hb, hr, -, -, hlocks, -⟩ := cx
  obtain ⟨rfl, rfl⟩ := hv
  exact W.iret hx hb hr (fun t ht hW => ⟨⟨v, (), rfl, rfl, by rw [ht]; exact w.1, va_K.moved hW.alike w.2.1, w.2.2.1⟩, w.2.2.2.F ht⟩) w.2.2.2.2.2 hdg
theorem mw_zret (cx : mCx p s m args meth c RX9 cc Ts nL (some .boolean)) {v r0 : Int32} (hz : v = 0 ∨ v = 1) (hv : v = r0 ∧ S = T) (w : mWd D cs ad s S H locs) (hdg : decode cc pc = .ok (.ireturn, 1)) : W p l e R s m args below meth c H locs 0 0 (mQI below D cs ad args s r0 T) (F0 m pc ls [.int v]) := by
  obtain ⟨hx, hb, hr, -, -, hlocks, -⟩ := cx
  obtain ⟨rfl, rfl⟩ := hv
  exact W.zret hx hb hr (z01_n hz) (fun t ht hW => ⟨⟨v, (), rfl, rfl, by rw [ht]; exact w.1, va_K.moved hW.alike w.2.1, w.2.2.1⟩, w.2.2.2.F ht⟩) w.2.2.2.2.2 hdg
theorem mw_lret (cx : mCx p s m args meth c RX9 cc Ts nL (some .long)) {v r0 : Int64} (hv : v = r0 ∧ S = T) (w : mWd D cs ad s S H locs) (hdg : decode cc pc = .ok (.lreturn, 1)) : W p l e R s m args below meth c H locs 0 0 (mQL below D cs ad args s r0 T) (F0 m pc ls [.long v]) := by
  obtain ⟨hx, hb, hr, -, -, hlocks, -⟩ := cx
  obtain ⟨rfl, rfl⟩ := hv
  exact W.lret hx hb hr (fun t ht hW => ⟨⟨v, (), rfl, rfl, by rw [ht]; exact w.1, va_K.moved hW.alike w.2.1, w.2.2.1⟩, w.2.2.2.F ht⟩) w.2.2.2.2.2 hdg
theorem mw_vret (cx : mCx p s m args meth c RX9 cc Ts nL none) {r0 : Int32} (hv : (0 : Int32) = r0 ∧ S = T) (w : mWd D cs ad s S H locs) (hdg : decode cc pc = .ok (.return_, 1)) : W p l e R s m args below meth c H locs 0 0 (mQV below D cs ad args s r0 T) (F0 m pc ls []) := by
  obtain ⟨hx, hb, hr, -, -, hlocks, -⟩ := cx
  obtain ⟨rfl, rfl⟩ := hv
  exact W.vret hx hb hr (fun t ht hW => ⟨⟨(), rfl, rfl, by rw [ht]; exact w.1, va_K.moved hW.alike w.2.1, w.2.2.1⟩, w.2.2.2.F ht⟩) w.2.2.2.2.2 hdg
theorem mrecv (w : mWd D cs ad s S H locs) : ∃ cell : Cell, H[ad 100]? = some cell ∧ cell.vm.isStatics = false ∧ s.vm.findClass RX9 = some cell.cls := va_recv w.2.1 w.1 (ci := 10) (q0 := 0) (q := (RX9, TX9, 40)) rfl mW_0
theorem mpre (w : mWd D cs ad s S H locs) (As : List Value) : PreV s H RX9 (ad 100) (va_Pc (.ref (ad 100) :: As) (mB D cs ad S)) As := ⟨mB_blind, mrecv w, fun U hU hW => ⟨rfl, by rw [hU]; exact w.1, va_K.moved hW.alike w.2.1, w.2.2.1⟩⟩
variable {y : MethodName} {ws : List Cond} {rm : Room} {bytes : ByteArray} {maxL n index : Nat} {rty : Option FieldType} {st0 As : List Value}
theorem mw_calli (cx : mCx p s m args meth c RX9 cc Ts nL ty) {r0 : Int32} (hM : MetI l y ws rm D cs ad As S T r0) (cw : CallW R s args RX9 RX9 index y bytes maxL rty ws rm 0 0 n) (w : mWd D cs ad s S H locs) (hn : As.length = n) (hsz : ls.size = nL) (hst : st0 = As.reverse ++ .ref (ad 100) :: rest) (hcat : (rest.map fun v => v.category).sum ≤ 8) (hdg : decode cc pc = .ok (.invokevirtual index, 3))
    (kk : ∀ (H1 : Heap) (locs1 : List Loc), mWd D cs ad s T H1 locs1 → W p l e R s m args below meth c H1 locs1 0 0 Q (F0 m (pc + 3) ls (.int r0 :: rest))) : W p l e R s m args below meth c H locs 0 0 Q (F0 m pc ls st0) := by
  obtain ⟨hx, hb, -, hts, hown, -, hml⟩ := cx
  refine va_calli (va_runV (As := As) (rest := rest) ⟨hx, hb, hml, hown, hts⟩ hM cw (mpre w As) rfl hn hsz hst (lv_room hcat) hdg ⟨Nat.zero_le _, Nat.zero_le _⟩) w.2.2.2 (fun q _ h => h) (fun q h => h) (fun r u t H1 locs1 ht hvm hw hB hz1 hk1 hS => ?_)
  obtain rfl := hw
  obtain ⟨b1, b2, b3⟩ := hB
  rw [ht] at b1
  exact kk H1 locs1 ⟨b1, w.2.1, b3, hS⟩
theorem mw_calll (cx : mCx p s m args meth c RX9 cc Ts nL ty) {r0 : Int64} (hM : MetL l y ws rm D cs ad As S T r0) (cw : CallW R s args RX9 RX9 index y bytes maxL rty ws rm 0 0 n) (w : mWd D cs ad s S H locs) (hn : As.length = n) (hsz : ls.size = nL) (hst : st0 = As.reverse ++ .ref (ad 100) :: rest) (hcat : (rest.map fun v => v.category).sum ≤ 8) (hdg : decode cc pc = .ok (.invokevirtual index, 3))
    (kk : ∀ (H1 : Heap) (locs1 : List Loc), mWd D cs ad s T H1 locs1 → W p l e R s m args below meth c H1 locs1 0 0 Q (F0 m (pc + 3) ls (.long r0 :: rest))) : W p l e R s m args below meth c H locs 0 0 Q (F0 m pc ls st0) := by
  obtain ⟨hx, hb, -, hts, hown, -, hml⟩ := cx
  refine va_calll (va_runV (As := As) (rest := rest) ⟨hx, hb, hml, hown, hts⟩ hM cw (mpre w As) rfl hn hsz hst (lv_room hcat) hdg ⟨Nat.zero_le _, Nat.zero_le _⟩) w.2.2.2 (fun q _ h => h) (fun q h => h) (fun r u t H1 locs1 ht hvm hw hB hz1 hk1 hS => ?_)
  obtain rfl := hw
  obtain ⟨b1, b2, b3⟩ := hB
  rw [ht] at b1
  exact kk H1 locs1 ⟨b1, w.2.1, b3, hS⟩
theorem mw_callv (cx : mCx p s m args meth c RX9 cc Ts nL ty) {r0 : Int32} (hM : MetV l y ws rm D cs ad As S T r0) (cw : CallW R s args RX9 RX9 index y bytes maxL rty ws rm 0 0 n) (w : mWd D cs ad s S H locs) (hn : As.length = n) (hsz : ls.size = nL) (hst : st0 = As.reverse ++ .ref (ad 100) :: rest) (hcat : (rest.map fun v => v.category).sum ≤ 8) (hdg : decode cc pc = .ok (.invokevirtual index, 3))
    (kk : ∀ (H1 : Heap) (locs1 : List Loc), mWd D cs ad s T H1 locs1 → W p l e R s m args below meth c H1 locs1 0 0 Q (F0 m (pc + 3) ls rest)) : W p l e R s m args below meth c H locs 0 0 Q (F0 m pc ls st0) := by
  obtain ⟨hx, hb, -, hts, hown, -, hml⟩ := cx
  refine va_callv (va_runV (As := As) (rest := rest) ⟨hx, hb, hml, hown, hts⟩ hM cw (mpre w As) rfl hn hsz hst (lv_room hcat) hdg ⟨Nat.zero_le _, Nat.zero_le _⟩) w.2.2.2 (fun q _ h => h) (fun q h => h) (fun u t H1 locs1 ht hvm hw hB hz1 hk1 hS => ?_)
  obtain ⟨b1, b2, b3⟩ := hB
  rw [ht] at b1
  exact kk H1 locs1 ⟨b1, w.2.1, b3, hS⟩
end MWR
section MOP
variable {l : Launch} {y : MethodName} {ws ws' : List Cond} {rm : Room} {cc : ByteArray} {maxL : Nat} {D : va_G} {cs : Nat → ClassId} {ad : Nat → Nat} {As : List Value} {S T : MS}
theorem mo_I {r0 : Int32} {ty : FieldType} (hy : plainName y.cls = true ∧ y.cls = RX9) (hw : ws = Cond.code y cc maxL (some ty) :: ws') (hl : (lg_sl (.ref (ad 100) :: As)).length ≤ maxL)
    (body : ∀ p e s m args below meth c ls, mCx p s m args meth c RX9 cc ws maxL (some ty) → lv_has ls maxL (lv_args 0 (.ref (ad 100) :: As)) → mWd D cs ad s S s.heap [] → W p l e rm s m args below meth c s.heap [] 0 0 (mQI below D cs ad args s r0 T) (F0 m 0 ls [])) : MetI l y ws rm D cs ad As S T r0 := by
  refine Met.ofW (cc := cc) (maxL := maxL) (ret := some ty) hy.1 hw ?_
  intro p e s m args below meth c s₁ B hml hv
  obtain ⟨rfl, hP, hK, hD⟩ := hv
  have hown : s.vm.findClass RX9 = some m.cls := by rw [← hy.2]; exact findClass_of_methodNamed B.named
  rw [lg_entry_eq]
  exact body p e s m _ below meth c _ ⟨B.exec, B.bytes, B.returns, atoms_spec (ws := ws) B.pre, hown, B.notSynchronized, hml⟩ (lv_entry (.ref (ad 100) :: As) hl) ⟨hP, hK, hD, va_S.rf⟩
theorem mo_L {r0 : Int64} {ty : FieldType} (hy : plainName y.cls = true ∧ y.cls = RX9) (hw : ws = Cond.code y cc maxL (some ty) :: ws') (hl : (lg_sl (.ref (ad 100) :: As)).length ≤ maxL)
    (body : ∀ p e s m args below meth c ls, mCx p s m args meth c RX9 cc ws maxL (some ty) → lv_has ls maxL (lv_args 0 (.ref (ad 100) :: As)) → mWd D cs ad s S s.heap [] → W p l e rm s m args below meth c s.heap [] 0 0 (mQL below D cs ad args s r0 T) (F0 m 0 ls [])) : MetL l y ws rm D cs ad As S T r0 := by
  refine Met.ofW (cc := cc) (maxL := maxL) (ret := some ty) hy.1 hw ?_
  intro p e s m args below meth c s₁ B hml hv
  obtain ⟨rfl, hP, hK, hD⟩ := hv
  have hown : s.vm.findClass RX9 = some m.cls := by rw [← hy.2]; exact findClass_of_methodNamed B.named
  rw [lg_entry_eq]
  exact body p e s m _ below meth c _ ⟨B.exec, B.bytes, B.returns, atoms_spec (ws := ws) B.pre, hown, B.notSynchronized, hml⟩ (lv_entry (.ref (ad 100) :: As) hl) ⟨hP, hK, hD, va_S.rf⟩
theorem mo_V {r0 : Int32} (hy : plainName y.cls = true ∧ y.cls = RX9) (hw : ws = Cond.code y cc maxL none :: ws') (hl : (lg_sl (.ref (ad 100) :: As)).length ≤ maxL)
    (body : ∀ p e s m args below meth c ls, mCx p s m args meth c RX9 cc ws maxL none → lv_has ls maxL (lv_args 0 (.ref (ad 100) :: As)) → mWd D cs ad s S s.heap [] → W p l e rm s m args below meth c s.heap [] 0 0 (mQV below D cs ad args s r0 T) (F0 m 0 ls [])) : MetV l y ws rm D cs ad As S T r0 := by
  refine Met.ofW (cc := cc) (maxL := maxL) (ret := none) hy.1 hw ?_
  intro p e s m args below meth c s₁ B hml hv
  obtain ⟨rfl, hP, hK, hD⟩ := hv
  have hown : s.vm.findClass RX9 = some m.cls := by rw [← hy.2]; exact findClass_of_methodNamed B.named
  rw [lg_entry_eq]
  exact body p e s m _ below meth c _ ⟨B.exec, B.bytes, B.returns, atoms_spec (ws := ws) B.pre, hown, B.notSynchronized, hml⟩ (lv_entry (.ref (ad 100) :: As) hl) ⟨hP, hK, hD, va_S.rf⟩
end MOP
