-- the law: the class's world and the reference's side by side
section LW2
variable {p : Program} {l : Launch} {e : Env} {R : Room} {s : State} {m : MethodId} {args : Array Value} {below : List Frame} {meth : Method} {c : Code} {H : Heap} {locs : List Loc} {cells slots : Nat} {Q : State → Prop}
variable {cc : ByteArray} {pc : Nat} {ls : Array Slot} {rest : List Value} {D : va_G} {cs : Nat → ClassId} {t0 : TS} {A : Nat → Prop} {P T : PS} {Ts : List Cond} {nL : Nat} {ty : Option FieldType} {own : String} {ad : Nat → Nat} {S S' : MS}
variable {y : MethodName} {ws : List Cond} {rm : Room} {bytes : ByteArray} {maxL n index mc ms : Nat} {rty : Option FieldType} {st0 As : List Value}
def mX (D : va_G) (cs : Nat → ClassId) (ad : Nat → Nat) (A : Nat → Prop) (S : MS) (P : PS) (H : Heap) : Prop := va_P D vwCl (mW cs ad S) H ∧ va_D (mA ad) (mW cs ad S) ∧ ∀ q, mA ad q → A q ∧ q ∉ pL P ∧ q < pZ P
def setZ (P : PS) (z : Nat) : PS := (pL P, pK P, pN P, pI P, pJ P, pR P, z)
theorem CC.setZ {da : DD} {Aa : AA} (h : CC t0 da Aa P) {z : Nat} (hz : pZ P ≤ z) : CC t0 da Aa (setZ P z) := by
  obtain ⟨h1, h2, h3, h4, h5, h6, h7, h8, h9, h10, c1, c2, c3⟩ := h
  refine ⟨h1, h2, h3, h4, h5, h6, h7, h8, h9, h10, fun a ha => ?_, ?_, c3⟩
  · exact Nat.lt_of_lt_of_le (c1 a ha) hz
  · exact Nat.lt_of_lt_of_le c2 hz
theorem mX.keep {H1 : Heap} (hm : mX D cs ad A S P H) (hH : H.size = pZ P) (hk : ∀ q : Nat, q < H.size → ¬ pA P q → H1[q]? = H[q]?) (hD : va_D (pA P) (pW cs T)) (hz : pZ P ≤ pZ T) : mX D cs ad A S T H1 := by
  obtain ⟨m1, m2, m3⟩ := hm
  have hn : ∀ q, mA ad q → ¬ pA P q := fun q hq h => by
    obtain ⟨-, a2, a3⟩ := m3 q hq
    rcases h with h | h
    · exact a2 h
    · omega
  refine ⟨m1.kept (fun k q hq => hk q.1 (by have := (m3 _ (m2.2 k q hq)).2.2; omega) (hn _ (m2.2 k q hq))), m2, fun q hq => ⟨(m3 q hq).1, fun h => ?_, Nat.lt_of_lt_of_le (m3 q hq).2.2 hz⟩⟩
  obtain ⟨i, hi⟩ := pW_get (cs := cs) h
  exact hn q hq (hD.2 i _ hi)
theorem lc_i {al : List Value} {r0 : Int32} (h : cRun p l e R s m args below meth c P D cs t0 A H locs cells slots mc ms pc ls st0 rest (va_Qi (fun r (_ : Unit) => r = r0) (fun _ t => cBq D cs P T t) (pA P)) al) (hm : mX D cs ad A S P H)
    (kk : ∀ (H1 : Heap) (locs1 : List Loc), cWd D cs t0 A s T H1 locs1 → mX D cs ad A S T H1 → W p l e R s m args below meth c H1 locs1 (cells + mc) (slots + ms) Q (F0 m (pc + 3) ls (.int r0 :: rest))) : W p l e R s m args below meth c H locs cells slots Q (F0 m pc ls st0) := by
  obtain ⟨w, hr⟩ := h
  refine va_calli hr w.2.2.2.2.1 (fun q _ h => pA_A w q h) (pA_A w) (fun r u t H1 locs1 ht hvm hw hB hz1 hk1 hS => ?_)
  subst hw
  have w1 := cpost w ht hB hS
  exact kk H1 locs1 w1 (hm.keep w.1 hk1 hB.2.2 (by rw [← w.1, ← w1.1]; exact hz1))
theorem lc_l {al : List Value} {r0 : Int64} (h : cRun p l e R s m args below meth c P D cs t0 A H locs cells slots mc ms pc ls st0 rest (va_Ql (fun r (_ : Unit) => r = r0) (fun _ t => cBq D cs P T t) (pA P)) al) (hm : mX D cs ad A S P H)
    (kk : ∀ (H1 : Heap) (locs1 : List Loc), cWd D cs t0 A s T H1 locs1 → mX D cs ad A S T H1 → W p l e R s m args below meth c H1 locs1 (cells + mc) (slots + ms) Q (F0 m (pc + 3) ls (.long r0 :: rest))) : W p l e R s m args below meth c H locs cells slots Q (F0 m pc ls st0) := by
  obtain ⟨w, hr⟩ := h
  refine va_calll hr w.2.2.2.2.1 (fun q _ h => pA_A w q h) (pA_A w) (fun r u t H1 locs1 ht hvm hw hB hz1 hk1 hS => ?_)
  subst hw
  have w1 := cpost w ht hB hS
  exact kk H1 locs1 w1 (hm.keep w.1 hk1 hB.2.2 (by rw [← w.1, ← w1.1]; exact hz1))
theorem lm_pre (w : cWd D cs t0 A s P H locs) (hm : mX D cs ad A S P H) (As : List Value) : PreV s H RX9 (ad 100) (va_Pc (.ref (ad 100) :: As) (mB D cs ad S)) As := ⟨mB_blind, va_recv w.2.2.1 hm.1 (ci := 10) (q0 := 0) (q := (RX9, TX9, 40)) rfl mW_0, fun U hU hW => ⟨rfl, by rw [hU]; exact hm.1, va_K.moved hW.alike w.2.2.1, hm.2.1⟩⟩
theorem lm_post {t : State} {H1 : Heap} {locs1 : List Loc} (w : cWd D cs t0 A s P H locs) (hm : mX D cs ad A S P H) (ht : t.heap = H1) (hB : mB D cs ad S' t) (hz1 : H.size ≤ H1.size) (hk1 : ∀ q : Nat, q < H.size → ¬ mA ad q → H1[q]? = H[q]?) (hS : va_S A s.heap H1 locs1) : cWd D cs t0 A s (setZ P H1.size) H1 locs1 ∧ mX D cs ad A S' (setZ P H1.size) H1 := by
  obtain ⟨w1, w2, w3, w4, w5, w6, w7⟩ := w
  obtain ⟨b1, b2, b3⟩ := hB
  rw [ht] at b1
  refine ⟨⟨rfl, ?_, w3, w4, hS, w6, w7⟩, b1, b3, fun q hq => ⟨(hm.2.2 q hq).1, (hm.2.2 q hq).2.1, ?_⟩⟩
  · exact w2.kept (fun k q hq => hk1 q.1 ((w2 k q hq).lt) (fun z => by
      have hmem : q ∈ pW cs P := List.mem_of_getElem? hq
      obtain ⟨a, ha, rfl⟩ := List.mem_map.mp hmem
      exact (hm.2.2 a z).2.1 ha))
  · have := (hm.2.2 q hq).2.2
    show q < H1.size
    omega
theorem lm_i (cx : mCx p s m args meth c own cc Ts nL ty) {r0 : Int32} (hM : MetI l y ws rm D cs ad As S S' r0) (cw : CallW R s args own RX9 index y bytes maxL rty ws rm 0 0 n) (w : cWd D cs t0 A s P H locs) (hm : mX D cs ad A S P H) (hn : As.length = n) (hsz : ls.size = nL) (hst : st0 = As.reverse ++ .ref (ad 100) :: rest) (hcat : (rest.map fun v => v.category).sum ≤ 8) (hdg : decode cc pc = .ok (.invokevirtual index, 3)) (hf : cells + 0 ≤ R.cells ∧ slots + 0 ≤ R.slots)
    (kk : ∀ (H1 : Heap) (locs1 : List Loc), cWd D cs t0 A s (setZ P H1.size) H1 locs1 → mX D cs ad A S' (setZ P H1.size) H1 → pZ P ≤ H1.size → W p l e R s m args below meth c H1 locs1 (cells + 0) (slots + 0) Q (F0 m (pc + 3) ls (.int r0 :: rest))) : W p l e R s m args below meth c H locs cells slots Q (F0 m pc ls st0) := by
  obtain ⟨hx, hb, -, hts, hown, -, hml⟩ := cx
  refine va_calli (va_runV (As := As) (rest := rest) ⟨hx, hb, hml, hown, hts⟩ hM cw (lm_pre w hm As) rfl hn hsz hst (lv_room hcat) hdg hf) w.2.2.2.2.1 (fun q _ h => (hm.2.2 q h).1) (fun q h => (hm.2.2 q h).1) (fun r u t H1 locs1 ht hvm hw hB hz1 hk1 hS => ?_)
  obtain rfl := hw
  obtain ⟨a1, a2⟩ := lm_post w hm ht hB hz1 hk1 hS
  exact kk H1 locs1 a1 a2 (by rw [← w.1]; exact hz1)
theorem lm_l (cx : mCx p s m args meth c own cc Ts nL ty) {r0 : Int64} (hM : MetL l y ws rm D cs ad As S S' r0) (cw : CallW R s args own RX9 index y bytes maxL rty ws rm 0 0 n) (w : cWd D cs t0 A s P H locs) (hm : mX D cs ad A S P H) (hn : As.length = n) (hsz : ls.size = nL) (hst : st0 = As.reverse ++ .ref (ad 100) :: rest) (hcat : (rest.map fun v => v.category).sum ≤ 8) (hdg : decode cc pc = .ok (.invokevirtual index, 3)) (hf : cells + 0 ≤ R.cells ∧ slots + 0 ≤ R.slots)
    (kk : ∀ (H1 : Heap) (locs1 : List Loc), cWd D cs t0 A s (setZ P H1.size) H1 locs1 → mX D cs ad A S' (setZ P H1.size) H1 → pZ P ≤ H1.size → W p l e R s m args below meth c H1 locs1 (cells + 0) (slots + 0) Q (F0 m (pc + 3) ls (.long r0 :: rest))) : W p l e R s m args below meth c H locs cells slots Q (F0 m pc ls st0) := by
  obtain ⟨hx, hb, -, hts, hown, -, hml⟩ := cx
  refine va_calll (va_runV (As := As) (rest := rest) ⟨hx, hb, hml, hown, hts⟩ hM cw (lm_pre w hm As) rfl hn hsz hst (lv_room hcat) hdg hf) w.2.2.2.2.1 (fun q _ h => (hm.2.2 q h).1) (fun q h => (hm.2.2 q h).1) (fun r u t H1 locs1 ht hvm hw hB hz1 hk1 hS => ?_)
  obtain rfl := hw
  obtain ⟨a1, a2⟩ := lm_post w hm ht hB hz1 hk1 hS
  exact kk H1 locs1 a1 a2 (by rw [← w.1]; exact hz1)
-- a number of the script
theorem lw_arg (cx : mCx p s m args meth c own code Ts 4 ty) {b L : Nat} {xs : Nat → Int32} (hX : va_X b L xs s s.heap) (hbl : b < s.heap.size) (hbA : ¬ A b) (hS : va_S A s.heap H locs) {i j : Nat} (hin : i + j < L) (hL : L ≤ 384) {o1 o2 : Value} (hl : lv_has ls 4 [(0, .ref b), (1, o1), (2, o2), (3, .int (nI i))]) {k : Int} (hk : Int32.ofInt k = nI j) (d0 : decode code pc = .ok (.aload_n 0, 1)) (d1 : decode code (pc + 1) = .ok (.iload_n 3, 1)) (d2 : decode code (pc + 1 + 1) = .ok (.iconst k, 1)) (d3 : decode code (pc + 1 + 1 + 1) = .ok (.iadd, 1)) (d4 : decode code (pc + 1 + 1 + 1 + 1) = .ok (.iaload, 1))
    (kk : W p l e R s m args below meth c H locs cells slots Q (F0 m (pc + 1 + 1 + 1 + 1 + 1) ls (.int (xs (i + j)) :: rest))) : W p l e R s m args below meth c H locs cells slots Q (F0 m pc ls rest) := by
  obtain ⟨hx, hb, -⟩ := cx
  refine lv_aload_n hx hb d0 rfl (lv_at hl 0 rfl) ?_
  refine lv_iload_n hx hb d1 rfl (lv_at hl 3 rfl) ?_
  refine lv_iconst (v := nI j) hx hb d2 hk ?_
  refine lv_iadd hx hb d3 ?_
  rw [nI_add]
  refine va_sld hx hb hX hbl hbA hS (vp_in_nI hin (by omega)) d4 ?_
  rw [nI_clamp (by omega)]
  exact kk
end LW2
