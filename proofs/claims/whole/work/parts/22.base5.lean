theorem cZ_same {t0 : TS} {A : Nat → Prop} {u U : State} {H : Heap} (hv : u.vm = U.vm) (h : cZ t0 A u H) : cZ t0 A U H := ⟨⟨fun q hq => (h.1.1 q hq).same rfl hv, fun q hq => (h.1.2.1 q hq).same rfl hv, fun q hq => (h.1.2.2.1 q hq).moved (hv ▸ Vm.Alike.refl u.vm), fun q hq => (h.1.2.2.2.1 q hq).same rfl hv, h.1.2.2.2.2.moved (hv ▸ Vm.Alike.refl u.vm)⟩, h.2.1.moved (hv ▸ Vm.Alike.refl u.vm), h.2.2.1.moved (hv ▸ Vm.Alike.refl u.vm), h.2.2.2.1.moved (hv ▸ Vm.Alike.refl u.vm), h.2.2.2.2.1.moved (hv ▸ Vm.Alike.refl u.vm), h.2.2.2.2.2.1.moved (hv ▸ Vm.Alike.refl u.vm), h.2.2.2.2.2.2.1.moved (hv ▸ Vm.Alike.refl u.vm), fun i q hq => (h.2.2.2.2.2.2.2 i q hq).same hv.symm⟩
theorem cZ_warm {t0 : TS} {A : Nat → Prop} {s U : State} {H : Heap} (hW : s.WarmedH U.vm) (h : cZ t0 A s H) : cZ t0 A U H := ⟨pNw_warm hW h.1, h.2.1.moved hW.alike, h.2.2.1.moved hW.alike, h.2.2.2.1.moved hW.alike, h.2.2.2.2.1.moved hW.alike, h.2.2.2.2.2.1.moved hW.alike, h.2.2.2.2.2.2.1.moved hW.alike, fun i q hq => (h.2.2.2.2.2.2.2 i q hq).warm hW⟩
theorem cZ_kept {t0 : TS} {A : Nat → Prop} {s : State} {H H1 : Heap} (h : cZ t0 A s H) (hq : ∀ a : Nat, a < H.size → ¬ A a → H1[a]? = H[a]?) : cZ t0 A s H1 := ⟨h.1, h.2.1.kept hq, h.2.2.1.kept hq, h.2.2.2.1, h.2.2.2.2.1.kept hq, h.2.2.2.2.2.1.kept hq, h.2.2.2.2.2.2.1.kept hq, h.2.2.2.2.2.2.2⟩
theorem cZ_narrow {t0 : TS} {A B : Nat → Prop} {s : State} {H : Heap} (h : cZ t0 A s H) (hAB : ∀ q, B q → A q) : cZ t0 B s H := ⟨h.1, h.2.1.narrow hAB, h.2.2.1.narrow hAB, h.2.2.2.1, h.2.2.2.2.1.narrow hAB, h.2.2.2.2.2.1.narrow hAB, h.2.2.2.2.2.2.1.narrow hAB, h.2.2.2.2.2.2.2⟩
def MetCI (l : Launch) (y : MethodName) (ws : List Cond) (rm : Room) (D : va_G) (cs : Nat → ClassId) (t0 : TS) (As : List Value) (P T : PS) (r0 : Int32) (mc ms : Nat) : Prop := Met l y ws rm (va_Pc As (cB D cs t0 P)) (va_Qi (fun r (_ : Unit) => r = r0) (fun _ t => cBq D cs P T t) (pA P)) mc ms (pA P)
def MetCL (l : Launch) (y : MethodName) (ws : List Cond) (rm : Room) (D : va_G) (cs : Nat → ClassId) (t0 : TS) (As : List Value) (P T : PS) (r0 : Int64) (mc ms : Nat) : Prop := Met l y ws rm (va_Pc As (cB D cs t0 P)) (va_Ql (fun r (_ : Unit) => r = r0) (fun _ t => cBq D cs P T t) (pA P)) mc ms (pA P)
def MetCV (l : Launch) (y : MethodName) (ws : List Cond) (rm : Room) (D : va_G) (cs : Nat → ClassId) (t0 : TS) (As : List Value) (P T : PS) (r0 : Int32) (mc ms : Nat) : Prop := Met l y ws rm (va_Pc As (cB D cs t0 P)) (va_Qv (fun (_ : Unit) => r0 = 0) (fun _ t => cBq D cs P T t) (pA P)) mc ms (pA P)
def MetCQ (l : Launch) (y : MethodName) (ws : List Cond) (rm : Room) (D : va_G) (cs : Nat → ClassId) (t0 : TS) (As : List Value) (P T : PS) (r0 : Option Nat) (mc ms : Nat) : Prop := Met l y ws rm (va_Pc As (cB D cs t0 P)) (va_Qq (fun r (_ : Unit) => r = r0) (fun _ t => cBq D cs P T t) (pA P)) mc ms (pA P)
def cQI (below : List Frame) (D : va_G) (cs : Nat → ClassId) (P : PS) (args : Array Value) (s : State) (mc ms : Nat) (r0 : Int32) (T : PS) : State → Prop := MQ below (va_Qi (fun r (_ : Unit) => r = r0) (fun _ t => cBq D cs P T t) (pA P)) args s mc ms (pA P)
def cQL (below : List Frame) (D : va_G) (cs : Nat → ClassId) (P : PS) (args : Array Value) (s : State) (mc ms : Nat) (r0 : Int64) (T : PS) : State → Prop := MQ below (va_Ql (fun r (_ : Unit) => r = r0) (fun _ t => cBq D cs P T t) (pA P)) args s mc ms (pA P)
def cQV (below : List Frame) (D : va_G) (cs : Nat → ClassId) (P : PS) (args : Array Value) (s : State) (mc ms : Nat) (r0 : Int32) (T : PS) : State → Prop := MQ below (va_Qv (fun (_ : Unit) => r0 = 0) (fun _ t => cBq D cs P T t) (pA P)) args s mc ms (pA P)
def cQQ (below : List Frame) (D : va_G) (cs : Nat → ClassId) (P : PS) (args : Array Value) (s : State) (mc ms : Nat) (r0 : Option Nat) (T : PS) : State → Prop := MQ below (va_Qq (fun r (_ : Unit) => r = r0) (fun _ t => cBq D cs P T t) (pA P)) args s mc ms (pA P)
theorem cB_blind {av : List Value} {D : va_G} {cs : Nat → ClassId} {t0 : TS} {P : PS} : FrameBlind (va_Pc av (cB D cs t0 P)) := fun a U g mk q => ⟨q.1, q.2.1, q.2.2.1, va_K.moved (u := U) (U := U.calling g mk a) (Vm.Alike.refl U.vm) q.2.2.2.1, q.2.2.2.2.1, cZ_same (u := U) (U := U.calling g mk a) rfl q.2.2.2.2.2⟩
theorem pA_A {D : va_G} {cs : Nat → ClassId} {t0 : TS} {A : Nat → Prop} {s : State} {P : PS} {H : Heap} {locs : List Loc} (w : cWd D cs t0 A s P H locs) (q : Nat) (h : pA P q) : A q := by
  obtain ⟨w1, w2, w3, w4, w5, w6, w7⟩ := w
  rcases h with h | h
  · obtain ⟨i, hi⟩ := pW_get (cs := cs) h
    exact w4.2 i _ hi
  · exact w6 q (Nat.le_trans w5.1 (by omega))
theorem cpre {D : va_G} {cs : Nat → ClassId} {t0 : TS} {A : Nat → Prop} {s : State} {P : PS} {H : Heap} {locs : List Loc} (w : cWd D cs t0 A s P H locs) (U : State) (hU : U.heap = H) (hW : s.WarmedH U.vm) : cB D cs t0 P U := by
  have hq := pA_A w
  obtain ⟨w1, w2, w3, w4, w5, w6, w7⟩ := w
  exact ⟨by rw [hU]; exact w1, by rw [hU]; exact w2, w3.moved hW.alike, w4.weaken (fun _ _ _ _ => trivial), by rw [hU]; exact cZ_warm hW (cZ_narrow (cZ_kept w7 w5.2.1) hq)⟩
theorem cpost {D : va_G} {cs : Nat → ClassId} {t0 : TS} {A : Nat → Prop} {s t : State} {P T : PS} {H H1 : Heap} {locs locs1 : List Loc} (w : cWd D cs t0 A s P H locs) (ht : t.heap = H1) (hB : cBq D cs P T t) (hS : va_S A s.heap H1 locs1) : cWd D cs t0 A s T H1 locs1 := by
  have hq := pA_A w
  obtain ⟨b1, b2, b3⟩ := hB
  rw [ht] at b1 b2
  exact ⟨b1, b2, w.2.2.1, b3.weaken (fun _ q _ h => hq q.1 h), hS, w.2.2.2.2.2.1, w.2.2.2.2.2.2⟩
theorem crecv {D : va_G} {cs : Nat → ClassId} {t0 : TS} {A : Nat → Prop} {s : State} {P : PS} {H : Heap} {locs : List Loc} (w : cWd D cs t0 A s P H locs) {d N a : Nat} {C : String} {Tb : u_T} {tyF : Nat → FieldType} (hT : kT d C Tb N tyF) (ha : kk P a d = true) : ∃ cell : Cell, H[a]? = some cell ∧ cell.vm.isStatics = false ∧ s.vm.findClass C = some cell.cls := by
  obtain ⟨h1, h2, -⟩ := hT
  obtain ⟨ha1, ha2⟩ := kk_e ha
  obtain ⟨i, hi⟩ := pW_get (cs := cs) ha1
  rw [pE_obj ha2 h2] at hi
  exact va_recv w.2.2.1 w.2.1 h1 hi
section CCL
variable {p : Program} {l : Launch} {e : Env} {R : Room} {s : State} {m : MethodId} {args : Array Value} {below : List Frame} {meth : Method} {c : Code} {H : Heap} {locs : List Loc} {cells slots : Nat} {Q : State → Prop}
variable {cc : ByteArray} {pc : Nat} {ls : Array Slot} {rest : List Value} {D : va_G} {cs : Nat → ClassId} {t0 : TS} {A : Nat → Prop} {P T : PS} {Ts : List Cond} {nL : Nat} {ty : Option FieldType} {own : String}
variable {y : MethodName} {ws : List Cond} {rm : Room} {bytes : ByteArray} {maxL n index mc ms : Nat} {rty : Option FieldType} {st0 As : List Value}
-- a call is ready: what va_callx wants
def cRun (p : Program) (l : Launch) (e : Env) (R : Room) (s : State) (m : MethodId) (args : Array Value) (below : List Frame) (meth : Method) (c : Code) (P : PS) (D : va_G) (cs : Nat → ClassId) (t0 : TS) (A : Nat → Prop) (H : Heap) (locs : List Loc) (cells slots mc ms pc : Nat) (ls : Array Slot) (st0 rest : List Value) (Qc : Array Value → State → Outcome → State → Prop) (al : List Value) : Prop := cWd D cs t0 A s P H locs ∧ va_Run p l e R s m args below meth c H locs cells slots mc ms (F0 m pc ls st0) rest (Qc al.toArray) (pA P)
theorem cr_V {b : Nat} (cx : mCx p s m args meth c own cc Ts nL ty) {Qc : Array Value → State → Outcome → State → Prop} (hM : Met l y ws rm (va_Pc (.ref b :: As) (cB D cs t0 P)) Qc mc ms (pA P)) {d N : Nat} {C : String} {Tb : u_T} {tyF : Nat → FieldType} (hT : kT d C Tb N tyF) (hb : kk P b d = true) (cw : CallW R s args own C index y bytes maxL rty ws rm mc ms n) (w : cWd D cs t0 A s P H locs) (hn : As.length = n) (hsz : ls.size = nL) (hst : st0 = As.reverse ++ .ref b :: rest) (hcat : (rest.map fun v => v.category).sum ≤ 8) (hdg : decode cc pc = .ok (.invokevirtual index, 3)) (hf : cells + mc ≤ R.cells ∧ slots + ms ≤ R.slots) : cRun p l e R s m args below meth c P D cs t0 A H locs cells slots mc ms pc ls st0 rest Qc (.ref b :: As) := by
  obtain ⟨hx, hb1, -, hts, hown, -, hml⟩ := cx
  exact ⟨w, va_runV (As := As) (rest := rest) ⟨hx, hb1, hml, hown, hts⟩ hM cw ⟨cB_blind, crecv w hT hb, fun U hU hW => ⟨rfl, cpre w U hU hW⟩⟩ rfl hn hsz hst (lv_room hcat) hdg hf⟩
theorem cr_S (cx : mCx p s m args meth c own cc Ts nL ty) {Qc : Array Value → State → Outcome → State → Prop} (hM : Met l y ws rm (va_Pc As (cB D cs t0 P)) Qc mc ms (pA P)) (cw : CallB R s args own index y bytes maxL rty ws rm mc ms n ∧ (Cond.static y).before args s = true) (w : cWd D cs t0 A s P H locs) (hn : As.length = n) (hsz : ls.size = nL) (hst : st0 = As.reverse ++ rest) (hcat : (rest.map fun v => v.category).sum ≤ 8) (hdg : decode cc pc = .ok (.invokestatic index, 3)) (hf : cells + mc ≤ R.cells ∧ slots + ms ≤ R.slots) : cRun p l e R s m args below meth c P D cs t0 A H locs cells slots mc ms pc ls st0 rest Qc As := by
  obtain ⟨hx, hb1, -, hts, hown, -, hml⟩ := cx
  exact ⟨w, va_runS (As := As) (rest := rest) ⟨hx, hb1, hml, hown, hts⟩ hM cw ⟨cB_blind, fun U hU hW => ⟨rfl, cpre w U hU hW⟩⟩ rfl hn hsz hst (lv_room hcat) hdg hf⟩
theorem cr_I {b : Nat} (cx : mCx p s m args meth c own cc Ts nL ty) {Qc : Array Value → State → Outcome → State → Prop} (hM : Met l y ws rm (va_Pc (.ref b :: As) (cB D cs t0 P)) Qc mc ms (pA P)) (cw : CallB R s args own index y bytes maxL none ws rm mc ms n ∧ y.name = "<init>" ∧ (Cond.instanceMethod y).before args s = true) (w : cWd D cs t0 A s P H locs) (hn : As.length = n) (hsz : ls.size = nL) (hst : st0 = As.reverse ++ .ref b :: rest) (hcat : (rest.map fun v => v.category).sum ≤ 8) (hdg : decode cc pc = .ok (.invokespecial index, 3)) (hf : cells + mc ≤ R.cells ∧ slots + ms ≤ R.slots) : cRun p l e R s m args below meth c P D cs t0 A H locs cells slots mc ms pc ls st0 rest Qc (.ref b :: As) := by
  obtain ⟨hx, hb1, -, hts, hown, -, hml⟩ := cx
  exact ⟨w, va_runI (As := As) (rest := rest) ⟨hx, hb1, hml, hown, hts⟩ hM cw ⟨cB_blind, fun U hU hW => ⟨rfl, cpre w U hU hW⟩⟩ rfl hn hsz hst (lv_room hcat) hdg hf⟩
theorem cr_VN {b : Nat} (cx : mCx p s m args meth c own cc Ts nL ty) {Qc : Array Value → State → Outcome → State → Prop} (hM : Met l y ws rm (va_Pc (.ref b :: As) (cB D cs t0 P)) Qc mc ms (pA P)) {d N : Nat} {C host : String} {Tb : u_T} {tyF : Nat → FieldType} (hT : kT d C Tb N tyF) (hb : kk P b d = true) (cw : va_CN R s args own index y host bytes maxL rty ws rm mc ms n ∧ (Cond.instanceMethod y).before args s = true ∧ (Cond.selects C y y).before args s = true) (w : cWd D cs t0 A s P H locs) (hn : As.length = n) (hsz : ls.size = nL) (hst : st0 = As.reverse ++ .ref b :: rest) (hcat : (rest.map fun v => v.category).sum ≤ 8) (hdg : decode cc pc = .ok (.invokevirtual index, 3)) (hf : cells + mc ≤ R.cells ∧ slots + ms ≤ R.slots) : cRun p l e R s m args below meth c P D cs t0 A H locs cells slots mc ms pc ls st0 rest Qc (.ref b :: As) := by
  obtain ⟨hx, hb1, -, hts, hown, -, hml⟩ := cx
  exact ⟨w, va_runVN (As := As) (rest := rest) ⟨hx, hb1, hml, hown, hts⟩ hM cw ⟨cB_blind, crecv w hT hb, fun U hU hW => ⟨rfl, cpre w U hU hW⟩⟩ rfl hn hsz hst (lv_room hcat) hdg hf⟩
theorem cr_SN (cx : mCx p s m args meth c own cc Ts nL ty) {Qc : Array Value → State → Outcome → State → Prop} (hM : Met l y ws rm (va_Pc As (cB D cs t0 P)) Qc mc ms (pA P)) {host : String} (cw : va_CN R s args own index y host bytes maxL rty ws rm mc ms n ∧ (Cond.static y).before args s = true ∧ True) (w : cWd D cs t0 A s P H locs) (hn : As.length = n) (hsz : ls.size = nL) (hst : st0 = As.reverse ++ rest) (hcat : (rest.map fun v => v.category).sum ≤ 8) (hdg : decode cc pc = .ok (.invokestatic index, 3)) (hf : cells + mc ≤ R.cells ∧ slots + ms ≤ R.slots) : cRun p l e R s m args below meth c P D cs t0 A H locs cells slots mc ms pc ls st0 rest Qc As := by
  obtain ⟨hx, hb1, -, hts, hown, -, hml⟩ := cx
  exact ⟨w, va_runSN (As := As) (rest := rest) ⟨hx, hb1, hml, hown, hts⟩ hM cw ⟨cB_blind, fun U hU hW => ⟨rfl, cpre w U hU hW⟩⟩ rfl hn hsz hst (lv_room hcat) hdg hf⟩
theorem cr_IN {b : Nat} (cx : mCx p s m args meth c own cc Ts nL ty) {Qc : Array Value → State → Outcome → State → Prop} (hM : Met l y ws rm (va_Pc (.ref b :: As) (cB D cs t0 P)) Qc mc ms (pA P)) {host : String} (cw : va_CN R s args own index y host bytes maxL none ws rm mc ms n ∧ y.name = "<init>" ∧ (Cond.instanceMethod y).before args s = true) (w : cWd D cs t0 A s P H locs) (hn : As.length = n) (hsz : ls.size = nL) (hst : st0 = As.reverse ++ .ref b :: rest) (hcat : (rest.map fun v => v.category).sum ≤ 8) (hdg : decode cc pc = .ok (.invokespecial index, 3)) (hf : cells + mc ≤ R.cells ∧ slots + ms ≤ R.slots) : cRun p l e R s m args below meth c P D cs t0 A H locs cells slots mc ms pc ls st0 rest Qc (.ref b :: As) := by
  obtain ⟨hx, hb1, -, hts, hown, -, hml⟩ := cx
  exact ⟨w, va_runIN (As := As) (rest := rest) ⟨hx, hb1, hml, hown, hts⟩ hM cw ⟨cB_blind, fun U hU hW => ⟨rfl, cpre w U hU hW⟩⟩ rfl hn hsz hst (lv_room hcat) hdg hf⟩
theorem cc_i {al : List Value} {r0 : Int32} (h : cRun p l e R s m args below meth c P D cs t0 A H locs cells slots mc ms pc ls st0 rest (va_Qi (fun r (_ : Unit) => r = r0) (fun _ t => cBq D cs P T t) (pA P)) al)
    (kk : ∀ (H1 : Heap) (locs1 : List Loc), cWd D cs t0 A s T H1 locs1 → W p l e R s m args below meth c H1 locs1 (cells + mc) (slots + ms) Q (F0 m (pc + 3) ls (.int r0 :: rest))) : W p l e R s m args below meth c H locs cells slots Q (F0 m pc ls st0) := by
  obtain ⟨w, hr⟩ := h
  exact va_calli hr w.2.2.2.2.1 (fun q _ h => pA_A w q h) (pA_A w) (fun r u t H1 locs1 ht hvm hw hB hz1 hk1 hS => by subst hw; exact kk H1 locs1 (cpost w ht hB hS))
theorem cc_l {al : List Value} {r0 : Int64} (h : cRun p l e R s m args below meth c P D cs t0 A H locs cells slots mc ms pc ls st0 rest (va_Ql (fun r (_ : Unit) => r = r0) (fun _ t => cBq D cs P T t) (pA P)) al)
    (kk : ∀ (H1 : Heap) (locs1 : List Loc), cWd D cs t0 A s T H1 locs1 → W p l e R s m args below meth c H1 locs1 (cells + mc) (slots + ms) Q (F0 m (pc + 3) ls (.long r0 :: rest))) : W p l e R s m args below meth c H locs cells slots Q (F0 m pc ls st0) := by
  obtain ⟨w, hr⟩ := h
  exact va_calll hr w.2.2.2.2.1 (fun q _ h => pA_A w q h) (pA_A w) (fun r u t H1 locs1 ht hvm hw hB hz1 hk1 hS => by subst hw; exact kk H1 locs1 (cpost w ht hB hS))
theorem cc_v {al : List Value} {r0 : Int32} (h : cRun p l e R s m args below meth c P D cs t0 A H locs cells slots mc ms pc ls st0 rest (va_Qv (fun (_ : Unit) => r0 = 0) (fun _ t => cBq D cs P T t) (pA P)) al)
    (kk : ∀ (H1 : Heap) (locs1 : List Loc), cWd D cs t0 A s T H1 locs1 → W p l e R s m args below meth c H1 locs1 (cells + mc) (slots + ms) Q (F0 m (pc + 3) ls rest)) : W p l e R s m args below meth c H locs cells slots Q (F0 m pc ls st0) := by
  obtain ⟨w, hr⟩ := h
  exact va_callv hr w.2.2.2.2.1 (fun q _ h => pA_A w q h) (pA_A w) (fun u t H1 locs1 ht hvm hw hB hz1 hk1 hS => kk H1 locs1 (cpost w ht hB hS))
theorem cc_q {al : List Value} {r0 : Option Nat} (h : cRun p l e R s m args below meth c P D cs t0 A H locs cells slots mc ms pc ls st0 rest (va_Qq (fun r (_ : Unit) => r = r0) (fun _ t => cBq D cs P T t) (pA P)) al)
    (kk : ∀ (H1 : Heap) (locs1 : List Loc), cWd D cs t0 A s T H1 locs1 → W p l e R s m args below meth c H1 locs1 (cells + mc) (slots + ms) Q (F0 m (pc + 3) ls (va_rf r0 :: rest))) : W p l e R s m args below meth c H locs cells slots Q (F0 m pc ls st0) := by
  obtain ⟨w, hr⟩ := h
  exact va_callq hr w.2.2.2.2.1 (fun q _ h => pA_A w q h) (pA_A w) (fun r u t H1 locs1 ht hvm hw hB hz1 hk1 hS => by subst hw; exact kk H1 locs1 (cpost w ht hB hS))
-- returns
theorem cend {A : Nat → Prop} {P0 : PS} {t : State} (hA : A = pA P0) (w : cWd D cs t0 A s P H locs) (ht : t.heap = H) : cBq D cs P0 P t := by
  subst hA
  exact ⟨by rw [ht]; exact w.1, by rw [ht]; exact w.2.1, w.2.2.2.1⟩
theorem cw_iret {P0 : PS} (cx : mCx p s m args meth c own cc Ts nL (some .int)) {v r0 : Int32} (hv : v = r0 ∧ P = T) (w : cWd D cs t0 (pA P0) s P H locs) (hdg : decode cc pc = .ok (.ireturn, 1)) : W p l e R s m args below meth c H locs cells slots (cQI below D cs P0 args s cells slots r0 T) (F0 m pc ls [.int v]) := by
  obtain ⟨hx, hb, hr, -, -, hlocks, -⟩ := cx
  obtain ⟨rfl, rfl⟩ := hv
  exact W.iret hx hb hr (fun t ht hW => ⟨⟨v, (), rfl, rfl, cend rfl w ht⟩, w.2.2.2.2.1.F ht⟩) w.2.2.2.2.1.2.2 hdg
theorem cw_zret {P0 : PS} (cx : mCx p s m args meth c own cc Ts nL (some .boolean)) {v r0 : Int32} (hz : v = 0 ∨ v = 1) (hv : v = r0 ∧ P = T) (w : cWd D cs t0 (pA P0) s P H locs) (hdg : decode cc pc = .ok (.ireturn, 1)) : W p l e R s m args below meth c H locs cells slots (cQI below D cs P0 args s cells slots r0 T) (F0 m pc ls [.int v]) := by
  obtain ⟨hx, hb, hr, -, -, hlocks, -⟩ := cx
  obtain ⟨rfl, rfl⟩ := hv
  exact W.zret hx hb hr (z01_n hz) (fun t ht hW => ⟨⟨v, (), rfl, rfl, cend rfl w ht⟩, w.2.2.2.2.1.F ht⟩) w.2.2.2.2.1.2.2 hdg
theorem cw_cret {P0 : PS} {rt : FieldType} (cx : mCx p s m args meth c own cc Ts nL (some rt)) {v r0 : Int32} (hz : narrow rt (.int v) = .int v) (hv : v = r0 ∧ P = T) (w : cWd D cs t0 (pA P0) s P H locs) (hdg : decode cc pc = .ok (.ireturn, 1)) : W p l e R s m args below meth c H locs cells slots (cQI below D cs P0 args s cells slots r0 T) (F0 m pc ls [.int v]) := by
  obtain ⟨hx, hb, hr, -, -, hlocks, -⟩ := cx
  obtain ⟨rfl, rfl⟩ := hv
  exact W.zret hx hb hr hz (fun t ht hW => ⟨⟨v, (), rfl, rfl, cend rfl w ht⟩, w.2.2.2.2.1.F ht⟩) w.2.2.2.2.1.2.2 hdg
theorem cw_lret {P0 : PS} (cx : mCx p s m args meth c own cc Ts nL (some .long)) {v r0 : Int64} (hv : v = r0 ∧ P = T) (w : cWd D cs t0 (pA P0) s P H locs) (hdg : decode cc pc = .ok (.lreturn, 1)) : W p l e R s m args below meth c H locs cells slots (cQL below D cs P0 args s cells slots r0 T) (F0 m pc ls [.long v]) := by
  obtain ⟨hx, hb, hr, -, -, hlocks, -⟩ := cx
  obtain ⟨rfl, rfl⟩ := hv
  exact W.lret hx hb hr (fun t ht hW => ⟨⟨v, (), rfl, rfl, cend rfl w ht⟩, w.2.2.2.2.1.F ht⟩) w.2.2.2.2.1.2.2 hdg
theorem cw_vret {P0 : PS} (cx : mCx p s m args meth c own cc Ts nL none) {r0 : Int32} (hv : (0 : Int32) = r0 ∧ P = T) (w : cWd D cs t0 (pA P0) s P H locs) (hdg : decode cc pc = .ok (.return_, 1)) : W p l e R s m args below meth c H locs cells slots (cQV below D cs P0 args s cells slots r0 T) (F0 m pc ls []) := by
  obtain ⟨hx, hb, hr, -, -, hlocks, -⟩ := cx
  obtain ⟨rfl, rfl⟩ := hv
  exact W.vret hx hb hr (fun t ht hW => ⟨⟨(), rfl, rfl, cend rfl w ht⟩, w.2.2.2.2.1.F ht⟩) w.2.2.2.2.1.2.2 hdg
theorem cw_aret {P0 : PS} {rt : FieldType} (cx : mCx p s m args meth c own cc Ts nL (some rt)) (hrt : (∃ n, rt = .object n) ∨ ∃ t, rt = .array t) {v r0 : Option Nat} (hv : v = r0 ∧ P = T) (w : cWd D cs t0 (pA P0) s P H locs) (hdg : decode cc pc = .ok (.areturn, 1)) : W p l e R s m args below meth c H locs cells slots (cQQ below D cs P0 args s cells slots r0 T) (F0 m pc ls [va_rf v]) := by
  obtain ⟨hx, hb, hr, -, -, hlocks, -⟩ := cx
  obtain ⟨rfl, rfl⟩ := hv
  exact W.aret hx hb hr hrt (va_rf_or v) (fun t ht hW => ⟨⟨v, (), rfl, rfl, cend rfl w ht⟩, w.2.2.2.2.1.F ht⟩) w.2.2.2.2.1.2.2 hdg
end CCL
section COP
variable {l : Launch} {y : MethodName} {ws ws' : List Cond} {rm : Room} {cc : ByteArray} {maxL mc ms : Nat} {D : va_G} {cs : Nat → ClassId} {t0 : TS} {As : List Value} {P T : PS} {own : String}
theorem co_start {Qc : Array Value → State → Outcome → State → Prop} {ty : Option FieldType} (hy : plainName y.cls = true ∧ y.cls = own) (hw : ws = Cond.code y cc maxL ty :: ws') (hl : (lg_sl As).length ≤ maxL)
    (body : ∀ p e s m args below meth c ls, mCx p s m args meth c own cc ws maxL ty → meth.name = y.name → lv_has ls maxL (lv_args 0 As) → cWd D cs t0 (pA P) s P s.heap [] → W p l e rm s m args below meth c s.heap [] 0 0 (MQ below Qc args s mc ms (pA P)) (F0 m 0 ls [])) : Met l y ws rm (va_Pc As (cB D cs t0 P)) Qc mc ms (pA P) := by
  refine Met.ofW (cc := cc) (maxL := maxL) (ret := ty) hy.1 hw ?_
  intro p e s m args below meth c s₁ B hml hv
  obtain ⟨rfl, hZ, hP, hK, hD, hz⟩ := hv
  have hown : s.vm.findClass own = some m.cls := by rw [← hy.2]; exact findClass_of_methodNamed B.named
  rw [lg_entry_eq]
  refine body p e s m _ below meth c _ ⟨B.exec, B.bytes, B.returns, atoms_spec (ws := ws) B.pre, hown, B.notSynchronized, hml⟩ (name_of_methodNamed B.named B.method).1 (lv_entry As hl) ⟨hZ, hP, hK, hD.weaken (fun k q hk _ => ?_), va_S.rf, fun q h => Or.inr (by omega), hz⟩
  obtain ⟨h1, h2⟩ := List.getElem?_eq_some_iff.mp hk
  have hm : q ∈ pW cs P := List.mem_of_getElem? hk
  obtain ⟨a, ha, rfl⟩ := List.mem_map.mp hm
  exact Or.inl ha
end COP
