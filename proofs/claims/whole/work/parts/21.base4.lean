section CWR
variable {p : Program} {l : Launch} {e : Env} {R : Room} {s : State} {m : MethodId} {args : Array Value} {below : List Frame} {meth : Method} {c : Code} {H : Heap} {locs : List Loc} {cells slots : Nat} {Q : State → Prop}
variable {cc : ByteArray} {pc : Nat} {ls : Array Slot} {rest : List Value} {D : va_G} {cs : Nat → ClassId} {t0 : TS} {A : Nat → Prop} {P T : PS} {Ts : List Cond} {nL : Nat} {ty : Option FieldType} {own : String} {a : Nat}
-- what the tables say of a class: its place, its fields
def kT (k : Nat) (C : String) (Tb : u_T) (N : Nat) (tyF : Nat → FieldType) : Prop := vwCl[k]? = some (C, Tb, N) ∧ k < 11 ∧ (kF k).length = N ∧ (∀ w ∈ u_ws C Tb N, w ∈ wsL_law) ∧ (∀ i, i < N → parseFieldDescriptor (Tb i).2.2.1 = some (tyF i)) ∧ ∀ x, x < N → ∀ y, y < N → x ≠ y → (Tb x).2.1 ≠ (Tb y).2.1
theorem kT0 : kT 0 RJx4a65c TJx4a65c 3 tyJx4a65c := ⟨rfl, by decide, rfl, inlJx4a65c, tyJx4a65c_ok, nmJx4a65c⟩
theorem kT1 : kT 1 RX0 TX0 2 tyX0 := ⟨rfl, by decide, rfl, inlX0, tyX0_ok, nmX0⟩
theorem kT2 : kT 2 RX1 TX1 3 tyX1 := ⟨rfl, by decide, rfl, inlX1, tyX1_ok, nmX1⟩
theorem kT3 : kT 3 RX2 TX2 3 tyX2 := ⟨rfl, by decide, rfl, inlX2, tyX2_ok, nmX2⟩
theorem kT4 : kT 4 RX3 TX3 7 tyX3 := ⟨rfl, by decide, rfl, inlX3, tyX3_ok, nmX3⟩
theorem kT5 : kT 5 RX4 TX4 7 tyX4 := ⟨rfl, by decide, rfl, inlX4, tyX4_ok, nmX4⟩
theorem kT6 : kT 6 RX5 TX5 3 tyX5 := ⟨rfl, by decide, rfl, inlX5, tyX5_ok, nmX5⟩
theorem kT7 : kT 7 RX6 TX6 3 tyX6 := ⟨rfl, by decide, rfl, inlX6, tyX6_ok, nmX6⟩
theorem kT8 : kT 8 RX7 TX7 7 tyX7 := ⟨rfl, by decide, rfl, inlX7, tyX7_ok, nmX7⟩
theorem kT9 : kT 9 RX8 TX8 10 tyX8 := ⟨rfl, by decide, rfl, inlX8, tyX8_ok, nmX8⟩
theorem kT10 : kT 10 RX9 TX9 40 tyX9 := ⟨rfl, by decide, rfl, inlX9, tyX9_ok, nmX9⟩
-- a link of a field: its own class's, one that a sameField gives, or a nest mate's
def fK (own ref : String) (index k : Nat) (Tb : u_T) (Ts : List Cond) (s : State) : Prop := Cond.fieldLink own index ref (Tb k).2.1 (Tb k).2.2.1 ∈ Ts ∧ ((Tb k).1 = ref ∨ Cond.sameField ref (Tb k).1 (Tb k).2.1 (Tb k).2.2.1 ∈ Ts)
theorem fK_same {ref : String} {index k : Nat} {Tb : u_T} (hts : ∀ w ∈ Ts, w.before args s = true) (h : fK own ref index k Tb Ts s) (x : ClassId × Class × Nat × Field) (hx : s.fieldFound? (Tb k).1 (Tb k).2.1 (Tb k).2.2.1 = some x) : s.fieldFound? ref (Tb k).2.1 (Tb k).2.2.1 = some x := by
  rcases h.2 with q | q
  · rw [← q]; exact hx
  · exact u_same (hts _ q) x hx
theorem cw_get (cx : mCx p s m args meth c own cc Ts nL ty) (hsub : ∀ w ∈ wsL_law, w ∈ Ts) (w : cWd D cs t0 A s P H locs) {d N : Nat} {C : String} {Tb : u_T} {tyF : Nat → FieldType} (hT : kT d C Tb N tyF) (ha : kk P a d = true) (k : Nat) (hk : k < N) {v : Value} (hv : pV P a d k = v) {index : Nat} {ref : String} (hf : fK own ref index k Tb Ts s) (hdg : decode cc pc = .ok (.getfield index, 3))
    (kk : W p l e R s m args below meth c H locs cells slots Q (F0 m (pc + 3) ls (v :: rest))) : W p l e R s m args below meth c H locs cells slots Q (F0 m pc ls (.ref a :: rest)) := by
  obtain ⟨hx, hb, -, hts, hown, -⟩ := cx
  obtain ⟨h1, h2, h3, h4, -⟩ := hT
  obtain ⟨ha1, ha2⟩ := kk_e ha
  obtain ⟨i, hi⟩ := pW_get (cs := cs) ha1
  rw [pE_obj ha2 h2] at hi
  exact va_get (D := D) (cl := vwCl) hx hb hts (fun q h => hsub q (h4 q h)) hown w.2.2.1 w.2.1 i hi h1 k hk (hts _ hf.1) (fK_same hts hf) (by rw [pFs_get (by rw [h3]; exact hk), hv]) hdg kk
theorem cw_getI (cx : mCx p s m args meth c own cc Ts nL ty) (hsub : ∀ w ∈ wsL_law, w ∈ Ts) (w : cWd D cs t0 A s P H locs) {d N : Nat} {C : String} {Tb : u_T} {tyF : Nat → FieldType} (hT : kT d C Tb N tyF) (ha : kk P a d = true) (k : Nat) (hk : k < N ∧ (kF d)[k]? = some false) {index : Nat} {ref : String} (hf : fK own ref index k Tb Ts s) (hdg : decode cc pc = .ok (.getfield index, 3))
    (kk : W p l e R s m args below meth c H locs cells slots Q (F0 m (pc + 3) ls (.int (pI P a k) :: rest))) : W p l e R s m args below meth c H locs cells slots Q (F0 m pc ls (.ref a :: rest)) := cw_get cx hsub w hT ha k hk.1 (by simp [pV, hk.2]) hf hdg kk
theorem cw_getR (cx : mCx p s m args meth c own cc Ts nL ty) (hsub : ∀ w ∈ wsL_law, w ∈ Ts) (w : cWd D cs t0 A s P H locs) {d N : Nat} {C : String} {Tb : u_T} {tyF : Nat → FieldType} (hT : kT d C Tb N tyF) (ha : kk P a d = true) (k : Nat) (hk : k < N ∧ (kF d)[k]? = some true) {v : Option Nat} (hv : v = pR P a k) {index : Nat} {ref : String} (hf : fK own ref index k Tb Ts s) (hdg : decode cc pc = .ok (.getfield index, 3))
    (kk : W p l e R s m args below meth c H locs cells slots Q (F0 m (pc + 3) ls (va_rf v :: rest))) : W p l e R s m args below meth c H locs cells slots Q (F0 m pc ls (.ref a :: rest)) := cw_get cx hsub w hT ha k hk.1 (by rw [hv]; simp [pV, hk.2]) hf hdg kk
theorem cw_getIN (cx : mCx p s m args meth c own cc Ts nL ty) (hsub : ∀ w ∈ wsL_law, w ∈ Ts) (w : cWd D cs t0 A s P H locs) {d N : Nat} {C : String} {Tb : u_T} {tyF : Nat → FieldType} (hT : kT d C Tb N tyF) (ha : kk P a d = true) (k : Nat) (hk : k < N ∧ (kF d)[k]? = some false) {index : Nat} {host : String} (hf : (own, index, (Tb k).1, (Tb k).2.1, (Tb k).2.2.1, host) ∈ nestF) (hdg : decode cc pc = .ok (.getfield index, 3))
    (kk : W p l e R s m args below meth c H locs cells slots Q (F0 m (pc + 3) ls (.int (pI P a k) :: rest))) : W p l e R s m args below meth c H locs cells slots Q (F0 m pc ls (.ref a :: rest)) := by
  obtain ⟨hx, hb, -, hts, hown, -⟩ := cx
  obtain ⟨h1, h2, h3, h4, -⟩ := hT
  obtain ⟨ha1, ha2⟩ := kk_e ha
  obtain ⟨i, hi⟩ := pW_get (cs := cs) ha1
  rw [pE_obj ha2 h2] at hi
  exact va_getN (D := D) (cl := vwCl) (host := host) hx hb hts (fun q h => hsub q (h4 q h)) hown w.2.2.1 w.2.1 i hi h1 k hk.1 (va_Nw.use rfl (w.2.2.2.2.2.2.1.1 _ hf)) (fun _ h => h) (by rw [pFs_get (by rw [h3]; exact hk.1)]; simp [pV, hk.2]) hdg kk
theorem cw_getRN (cx : mCx p s m args meth c own cc Ts nL ty) (hsub : ∀ w ∈ wsL_law, w ∈ Ts) (w : cWd D cs t0 A s P H locs) {d N : Nat} {C : String} {Tb : u_T} {tyF : Nat → FieldType} (hT : kT d C Tb N tyF) (ha : kk P a d = true) (k : Nat) (hk : k < N ∧ (kF d)[k]? = some true) {v : Option Nat} (hv : v = pR P a k) {index : Nat} {host : String} (hf : (own, index, (Tb k).1, (Tb k).2.1, (Tb k).2.2.1, host) ∈ nestF) (hdg : decode cc pc = .ok (.getfield index, 3))
    (kk : W p l e R s m args below meth c H locs cells slots Q (F0 m (pc + 3) ls (va_rf v :: rest))) : W p l e R s m args below meth c H locs cells slots Q (F0 m pc ls (.ref a :: rest)) := by
  obtain ⟨hx, hb, -, hts, hown, -⟩ := cx
  obtain ⟨h1, h2, h3, h4, -⟩ := hT
  obtain ⟨ha1, ha2⟩ := kk_e ha
  obtain ⟨i, hi⟩ := pW_get (cs := cs) ha1
  rw [pE_obj ha2 h2] at hi
  exact va_getN (D := D) (cl := vwCl) (host := host) hx hb hts (fun q h => hsub q (h4 q h)) hown w.2.2.1 w.2.1 i hi h1 k hk.1 (va_Nw.use rfl (w.2.2.2.2.2.2.1.1 _ hf)) (fun _ h => h) (by rw [pFs_get (by rw [h3]; exact hk.1), hv]; simp [pV, hk.2]) hdg kk
-- a store into a field: what the heap holds behind it
theorem cput_at {d N : Nat} {C : String} {Tb : u_T} {tyF : Nat → FieldType} (hT : kT d C Tb N tyF) (hts : ∀ w ∈ Ts, w.before args s = true) (hsub : ∀ w ∈ wsL_law, w ∈ Ts) (w : cWd D cs t0 A s P H locs) (ha : kk P a d = true) (k : Nat) (hk : k < N) (v : Value) : ∃ cell : Cell, H[a]? = some cell ∧ cell.cls = D.1 d ∧ cell.vm = .none ∧ D.2 d k < cell.slots.size ∧ ∀ H1 : Heap, H1[a]? = some (cell.setSlot (D.2 d k) v) → va_at D vwCl (a, .inr (d, (pFs P a d).set k v)) H1 := by
  obtain ⟨h1, h2, h3, h4, h5, h6⟩ := hT
  obtain ⟨ha1, ha2⟩ := kk_e ha
  obtain ⟨i, hi⟩ := pW_get (cs := cs) ha1
  rw [pE_obj ha2 h2] at hi
  have hap := va_apart (own := C) hts (fun q h => hsub q (h4 q h)) tyF h5 h6 w.2.2.1 h1
  obtain ⟨r, q0, cell, q1, q2, q3, q4⟩ := w.2.1 i _ hi
  have hr : r = (C, Tb, N) := Option.some.inj (q0.symm.trans h1)
  subst hr
  have hl : k < (pFs P a d).length := by simp [pFs, h3, hk]
  exact ⟨cell, q1, q2, q3, k2_hasslot (q4 k hk), fun H1 e1 => ⟨_, h1, t_OB.to (V := updV (vp_V (pFs P a d)) k v) ⟨_, e1, q2, q3, t_set q4 hap hk v⟩ (fun j _ => vp_updV_set hl v j)⟩⟩
theorem cw_putG (cx : mCx p s m args meth c own cc Ts nL ty) (hsub : ∀ w ∈ wsL_law, w ∈ Ts) (w : cWd D cs t0 A s P H locs) {d N : Nat} {C : String} {Tb : u_T} {tyF : Nat → FieldType} (hT : kT d C Tb N tyF) (ha : kk P a d = true) (k : Nat) (hk : k < N) (hfin : (Tb k).2.2.2 = false ∨ ((Tb k).2.2.2 = true ∧ meth.name = "<init>" ∧ (Tb k).1 = own)) {v : Value} (hv : narrow (tyF k) v = v ∧ fits (tyF k) v = true) (hE : ∀ b, va_up (pE cs P) a (.inr (d, (pFs P a d).set k v)) b = pE cs T b) (hL : pL T = pL P ∧ pZ T = pZ P) {index : Nat} {ref : String} (hf : fK own ref index k Tb Ts s) (hdg : decode cc pc = .ok (.putfield index, 3))
    (kk : ∀ (H1 : Heap) (locs1 : List Loc), cWd D cs t0 A s T H1 locs1 → W p l e R s m args below meth c H1 locs1 cells slots Q (F0 m (pc + 3) ls rest)) : W p l e R s m args below meth c H locs cells slots Q (F0 m pc ls (v :: .ref a :: rest)) := by
  obtain ⟨hx, hb, -, hts, hown, -⟩ := cx
  obtain ⟨cell, q1, q2, q3, q4, q5⟩ := cput_at hT hts hsub w ha k hk v
  obtain ⟨h1, h2, h3, h4, h5, h6⟩ := hT
  have hin := fun q h => hsub q (h4 q h)
  obtain ⟨hS, hfc, kC, hkC, hkind⟩ := w.2.2.1.1 d _ h1
  obtain ⟨cf, kf, fi, f, hi, hsl⟩ := hS k hk
  have hlay := hts _ (hin _ (u_in_lay hk))
  unfold u_lay at hlay
  have hst := (u_facts hfc hkC (u_lays hts hin hk) hi).1
  rw [← hsl] at q4 q5
  rcases hfin with hfin | ⟨hfin, hin2, hdecl⟩
  · rw [if_neg (by rw [hfin]; decide)] at hlay
    have hs6 := u_store hfc hkC hkind hlay hi (h5 k hk) hv.1 hv.2
    exact W.putK hx hb (f := f) ⟨hown, hts _ hf.1, ⟨_, _, _, fK_same hts hf _ hi⟩, hst⟩ (by rw [q2]; exact hs6) q1 q3 q4 rfl rfl hdg fun H' e1 e2 e3 => kk H' _ (cfin w (kk_e ha).1 hE hL.1 hL.2 (q5 H' e1) e2 e3)
  · rw [if_pos hfin] at hlay
    have hcf : m.cls = cf := by
      obtain ⟨_, _, c', _, _, _, -, -, hf', -, -, -, hown2, -⟩ := Cond.laysFinal_spec hlay
      have e1 : c' = cf := by have := hi.symm.trans hf'; simp at this; exact this.1.symm
      rw [hdecl] at hown2
      rw [← e1]; exact Option.some.inj (hown.symm.trans hown2)
    have hs6 := u_fits hfc hkC hkind (Or.inr hlay) hi (h5 k hk) hv.1 hv.2
    exact W.putFinK hx hb hown (hts _ hf.1) (fK_same hts hf _ hi) hst hcf hin2 (by rw [q2]; exact hs6) q1 q3 q4 rfl rfl hdg fun H' e1 e2 e3 => kk H' _ (cfin w (kk_e ha).1 hE hL.1 hL.2 (q5 H' e1) e2 e3)
theorem cw_putI (cx : mCx p s m args meth c own cc Ts nL ty) (hsub : ∀ w ∈ wsL_law, w ∈ Ts) (w : cWd D cs t0 A s P H locs) {d N : Nat} {C : String} {Tb : u_T} {tyF : Nat → FieldType} (hT : kT d C Tb N tyF) (ha : kk P a d = true) (k : Nat) {v : Int32} (hU : T = pIu P a k v) (hk : k < N ∧ (kF d)[k]? = some false ∧ tyF k = .int) (hfin : (Tb k).2.2.2 = false ∨ ((Tb k).2.2.2 = true ∧ meth.name = "<init>" ∧ (Tb k).1 = own)) {index : Nat} {ref : String} (hf : fK own ref index k Tb Ts s) (hdg : decode cc pc = .ok (.putfield index, 3))
    (kk : ∀ (H1 : Heap) (locs1 : List Loc), cWd D cs t0 A s T H1 locs1 → W p l e R s m args below meth c H1 locs1 cells slots Q (F0 m (pc + 3) ls rest)) : W p l e R s m args below meth c H locs cells slots Q (F0 m pc ls (.int v :: .ref a :: rest)) := by
  subst hU
  exact cw_putG cx hsub w hT ha k hk.1 hfin (by rw [hk.2.2]; exact fit_i) (upI_E (kk_e ha).2 hT.2.1 (by rw [hT.2.2.1]; exact hk.1) hk.2.1) ⟨rfl, rfl⟩ hf hdg kk
theorem cw_putZ (cx : mCx p s m args meth c own cc Ts nL ty) (hsub : ∀ w ∈ wsL_law, w ∈ Ts) (w : cWd D cs t0 A s P H locs) {d N : Nat} {C : String} {Tb : u_T} {tyF : Nat → FieldType} (hT : kT d C Tb N tyF) (ha : kk P a d = true) (k : Nat) {v : Int32} (hz : v = 0 ∨ v = 1) (hU : T = pIu P a k v) (hk : k < N ∧ (kF d)[k]? = some false ∧ tyF k = .boolean) (hfin : (Tb k).2.2.2 = false ∨ ((Tb k).2.2.2 = true ∧ meth.name = "<init>" ∧ (Tb k).1 = own)) {index : Nat} {ref : String} (hf : fK own ref index k Tb Ts s) (hdg : decode cc pc = .ok (.putfield index, 3))
    (kk : ∀ (H1 : Heap) (locs1 : List Loc), cWd D cs t0 A s T H1 locs1 → W p l e R s m args below meth c H1 locs1 cells slots Q (F0 m (pc + 3) ls rest)) : W p l e R s m args below meth c H locs cells slots Q (F0 m pc ls (.int v :: .ref a :: rest)) := by
  subst hU
  exact cw_putG cx hsub w hT ha k hk.1 hfin (by rw [hk.2.2]; exact fit_z hz) (upI_E (kk_e ha).2 hT.2.1 (by rw [hT.2.2.1]; exact hk.1) hk.2.1) ⟨rfl, rfl⟩ hf hdg kk
theorem cw_putR (cx : mCx p s m args meth c own cc Ts nL ty) (hsub : ∀ w ∈ wsL_law, w ∈ Ts) (w : cWd D cs t0 A s P H locs) {d N : Nat} {C : String} {Tb : u_T} {tyF : Nat → FieldType} (hT : kT d C Tb N tyF) (ha : kk P a d = true) (k : Nat) {v : Option Nat} (hU : T = pRu P a k v) (hk : k < N ∧ (kF d)[k]? = some true) (hr : (∃ n, tyF k = .object n) ∨ ∃ t, tyF k = .array t) (hfin : (Tb k).2.2.2 = false ∨ ((Tb k).2.2.2 = true ∧ meth.name = "<init>" ∧ (Tb k).1 = own)) {index : Nat} {ref : String} (hf : fK own ref index k Tb Ts s) (hdg : decode cc pc = .ok (.putfield index, 3))
    (kk : ∀ (H1 : Heap) (locs1 : List Loc), cWd D cs t0 A s T H1 locs1 → W p l e R s m args below meth c H1 locs1 cells slots Q (F0 m (pc + 3) ls rest)) : W p l e R s m args below meth c H locs cells slots Q (F0 m pc ls (va_rf v :: .ref a :: rest)) := by
  subst hU
  exact cw_putG cx hsub w hT ha k hk.1 hfin (fit_r hr v) (upR_E (kk_e ha).2 hT.2.1 (by rw [hT.2.2.1]; exact hk.1) hk.2) ⟨rfl, rfl⟩ hf hdg kk
theorem cw_putIN (cx : mCx p s m args meth c own cc Ts nL ty) (hsub : ∀ w ∈ wsL_law, w ∈ Ts) (w : cWd D cs t0 A s P H locs) {d N : Nat} {C : String} {Tb : u_T} {tyF : Nat → FieldType} (hT : kT d C Tb N tyF) (ha : kk P a d = true) (k : Nat) {v : Int32} (hU : T = pIu P a k v) (hk : k < N ∧ (kF d)[k]? = some false ∧ tyF k = .int ∧ (Tb k).2.2.2 = false) {index : Nat} {host : String} (hf : (own, index, (Tb k).1, (Tb k).2.1, (Tb k).2.2.1, host) ∈ nestF) (hdg : decode cc pc = .ok (.putfield index, 3))
    (kk : ∀ (H1 : Heap) (locs1 : List Loc), cWd D cs t0 A s T H1 locs1 → W p l e R s m args below meth c H1 locs1 cells slots Q (F0 m (pc + 3) ls rest)) : W p l e R s m args below meth c H locs cells slots Q (F0 m pc ls (.int v :: .ref a :: rest)) := by
  subst hU
  obtain ⟨hx, hb, -, hts, hown, -⟩ := cx
  obtain ⟨cell, q1, q2, q3, q4, q5⟩ := cput_at hT hts hsub w ha k hk.1 (.int v)
  have hE := upI_E (cs := cs) (v := v) (kk_e ha).2 hT.2.1 (by rw [hT.2.2.1]; exact hk.1) hk.2.1
  obtain ⟨h1, h2, h3, h4, h5, h6⟩ := hT
  have hin := fun q h => hsub q (h4 q h)
  obtain ⟨hS, hfc, kC, hkC, hkind⟩ := w.2.2.1.1 d _ h1
  obtain ⟨cf, kf, fi, f, hi, hsl⟩ := hS k hk.1
  have hlay := hts _ (hin _ (u_in_lay hk.1))
  unfold u_lay at hlay
  have hst := (u_facts hfc hkC (u_lays hts hin hk.1) hi).1
  rw [← hsl] at q4 q5
  rw [if_neg (by rw [hk.2.2.2]; decide)] at hlay
  have hd := h5 k hk.1
  rw [hk.2.2.1] at hd
  have hs6 := u_store hfc hkC hkind hlay hi hd (v := .int v) rfl rfl
  exact va_WputK hx hb (f := f) hown (va_Nw.use rfl (w.2.2.2.2.2.2.1.1 _ hf)) hi hst (by rw [q2]; exact hs6) q1 q3 q4 rfl rfl hdg fun H' e1 e2 e3 => kk H' _ (cfin w (kk_e ha).1 hE rfl rfl (q5 H' e1) e2 e3)
end CWR
