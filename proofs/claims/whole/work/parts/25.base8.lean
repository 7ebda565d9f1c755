section CAO
variable {p : Program} {l : Launch} {e : Env} {R : Room} {s : State} {m : MethodId} {args : Array Value} {below : List Frame} {meth : Method} {c : Code} {H : Heap} {locs : List Loc} {cells slots : Nat} {Q : State → Prop}
variable {cc : ByteArray} {pc : Nat} {ls : Array Slot} {rest : List Value} {D : va_G} {cs : Nat → ClassId} {t0 : TS} {A : Nat → Prop} {P T : PS} {Ts : List Cond} {nL : Nat} {ty : Option FieldType} {own : String} {a : Nat}
-- a list's row: the static empty one, or one of the pool's
def kkO (t0 : TS) (P : PS) (a : Nat) : Bool := decide (a = t0.1) || kk P a 17
def lenO (t0 : TS) (P : PS) (a : Nat) : Nat := if a = t0.1 then 0 else pN P a
def isO (P : PS) (a : Nat) : Bool := kk P a 8 || kk P a 5 || kk P a 2
theorem cw_dflt (cx : mCx p s m args meth c own cc Ts nL ty) (hsub : ∀ w ∈ wsL_law, w ∈ Ts) (w : cWd D cs t0 A s P H locs) {index : Nat} (hf : Cond.fieldLink own index "java/util/ArrayList" "DEFAULTCAPACITY_EMPTY_ELEMENTDATA" "[Ljava/lang/Object;" ∈ wsL_law) (hdg : decode cc pc = .ok (.getstatic index, 3))
    (kk : W p l e R s m args below meth c H locs cells slots Q (F0 m (pc + 3) ls (.ref t0.1 :: rest))) : W p l e R s m args below meth c H locs cells slots Q (F0 m pc ls rest) := by
  obtain ⟨hx, hb, -, hts, hown, -⟩ := cx
  exact va_gets hx hb w.2.2.2.2.2.2.2.1 w.2.2.2.2.1 hown (hts _ (hsub _ hf)) (fun _ h => h) hdg kk
theorem cw_alenO (cx : mCx p s m args meth c own cc Ts nL ty) (w : cWd D cs t0 A s P H locs) (ha : kkO t0 P a = true) (hdg : decode cc pc = .ok (.arraylength, 1))
    (kk : W p l e R s m args below meth c H locs cells slots Q (F0 m (pc + 1) ls (.int (nI (lenO t0 P a)) :: rest))) : W p l e R s m args below meth c H locs cells slots Q (F0 m pc ls (.ref a :: rest)) := by
  by_cases ht : a = t0.1
  · rw [lenO, if_pos ht] at kk
    subst ht
    obtain ⟨hx, hb, -⟩ := cx
    exact va_tlen hx hb w.2.2.2.2.2.2.2.2.1 w.2.2.2.2.1 rfl hdg kk
  · rw [lenO, if_neg ht] at kk
    simp only [kkO, ht, decide_false, Bool.false_or] at ha
    exact cw_alen cx w ha rfl hdg kk
theorem isO_any (w : cWd D cs t0 A s P H locs) (h : isO P a = true) : va_Any "java/lang/Object" s H a := by
  have key : ∀ {d N : Nat} {C : String} {Tb : u_T} {tyF : Nat → FieldType}, kT d C Tb N tyF → (C, "java/lang/Object") ∈ nestC → kk P a d = true → va_Any "java/lang/Object" s H a := by
    intro d N C Tb tyF hT hC ha
    obtain ⟨h1, h2, -⟩ := hT
    obtain ⟨ha1, ha2⟩ := kk_e ha
    obtain ⟨i, hi⟩ := pW_get (cs := cs) ha1
    rw [pE_obj ha2 h2] at hi
    exact va_rAny w.2.2.1 w.2.1 hi h1 (fun comp c0 g1 g2 => vb_asgC (w.2.2.2.2.2.2.1.2.2.2.1 _ hC) comp c0 g1 g2)
  unfold isO at h
  rcases Bool.or_eq_true _ _ |>.mp h with h | h
  · rcases Bool.or_eq_true _ _ |>.mp h with h | h
    · exact key kT8 (by decide) h
    · exact key kT5 (by decide) h
  · exact key kT2 (by decide) h
theorem cw_oast (cx : mCx p s m args meth c own cc Ts nL ty) (w : cWd D cs t0 A s P H locs) (ha : kk P a 17 = true) {i : Int32} {v : Nat} (hi : vin i (pN P a) = true) (hv : isO P v = true) (hT : T = pRu P a i.toNatClampNeg (some v)) (hdg : decode cc pc = .ok (.aastore, 1))
    (kk : ∀ (H1 : Heap) (locs1 : List Loc), cWd D cs t0 A s T H1 locs1 → W p l e R s m args below meth c H1 locs1 cells slots Q (F0 m (pc + 1) ls rest)) : W p l e R s m args below meth c H locs cells slots Q (F0 m pc ls (.ref v :: .int i :: .ref a :: rest)) := by
  obtain ⟨cellV, g1, g3, ⟨kC, hkC⟩, hasg⟩ := isO_any w hv
  obtain ⟨hx, hb, -⟩ := cx
  obtain ⟨h1, h2⟩ := kk_e ha
  obtain ⟨q, hq⟩ := pW_getE (cs := cs) ha pE_o
  obtain ⟨kA, comp, k1, k2, k3, -⟩ := (w.2.2.1.2 6 _ rfl).2
  obtain ⟨kE, hkE, -⟩ := Vm.findClass_spec k3
  have hin := vin_e hi
  subst hT
  exact W.aast hx hb (w.2.1 q _ hq) (fun q h => by cases h) (fun h => by cases h) k1 k2 rfl hkE ⟨fun z => hin (Or.inl z), by show _ < (arrV _ _ _).slots.size; rw [arrV_size]; exact Nat.not_le.mp fun z => hin (Or.inr z)⟩ g1 (fun q h => by rw [h] at g3; cases g3) hkC (hasg _ k3) rfl rfl hdg fun H1 e1 z oq => kk H1 _ (cfin w h1 (upA_E (pE_o (P := pRu P a i.toNatClampNeg (some v)) h2 ▸ (by simp [pRu, pN, pR, va_up_self])) pRu_E) rfl rfl (st_q (f := pR P a) (x := some v) e1) z oq)
theorem cw_past (cx : mCx p s m args meth c own cc Ts nL ty) (w : cWd D cs t0 A s P H locs) (ha : kk P a 15 = true) {i : Int32} {v : Nat} (hi : vin i (pN P a) = true) (hv : kk P v 3 = true) (hT : T = pRu P a i.toNatClampNeg (some v)) (hdg : decode cc pc = .ok (.aastore, 1))
    (kk : ∀ (H1 : Heap) (locs1 : List Loc), cWd D cs t0 A s T H1 locs1 → W p l e R s m args below meth c H1 locs1 cells slots Q (F0 m (pc + 1) ls rest)) : W p l e R s m args below meth c H locs cells slots Q (F0 m pc ls (.ref v :: .int i :: .ref a :: rest)) := by
  obtain ⟨cellV, g1, g3, hcl⟩ := crecv w kT3 hv
  have hcA := (w.2.2.1.1 3 _ rfl).2
  have hcc : cellV.cls = D.1 3 := Option.some.inj (hcl.symm.trans hcA.1)
  obtain ⟨hx, hb, -⟩ := cx
  obtain ⟨h1, h2⟩ := kk_e ha
  obtain ⟨q, hq⟩ := pW_getE (cs := cs) ha pE_p
  obtain ⟨kA, comp, k1, k2, k3, -⟩ := (w.2.2.1.2 4 _ rfl).2
  obtain ⟨kE, hkE, -⟩ := Vm.findClass_spec k3
  have hin := vin_e hi
  have hcm : comp = D.1 3 := Option.some.inj (k3.symm.trans hcA.1)
  subst hT
  exact W.aast hx hb (w.2.1 q _ hq) (fun q h => by cases h) (fun h => by cases h) k1 k2 rfl hkE ⟨fun z => hin (Or.inl z), by show _ < (arrV _ _ _).slots.size; rw [arrV_size]; exact Nat.not_le.mp fun z => hin (Or.inr z)⟩ g1 (fun q h => by rw [h] at g3; cases g3) (by rw [hcc, ← hcm]; exact hkE) (by rw [hcc, hcm]; exact va_assign hcA) rfl rfl hdg fun H1 e1 z oq => kk H1 _ (cfin w h1 (upA_E (pE_p (P := pRu P a i.toNatClampNeg (some v)) h2 ▸ (by simp [pRu, pN, pR, va_up_self])) pRu_E) rfl rfl (st_q (f := pR P a) (x := some v) e1) z oq)
theorem cw_tast (cx : mCx p s m args meth c own cc Ts nL ty) (w : cWd D cs t0 A s P H locs) (ha : kk P a 16 = true) {i : Int32} {v : Nat} (hi : vin i (pN P a) = true) (hv : kk P v 7 = true) (hT : T = pRu P a i.toNatClampNeg (some v)) (hdg : decode cc pc = .ok (.aastore, 1))
    (kk : ∀ (H1 : Heap) (locs1 : List Loc), cWd D cs t0 A s T H1 locs1 → W p l e R s m args below meth c H1 locs1 cells slots Q (F0 m (pc + 1) ls rest)) : W p l e R s m args below meth c H locs cells slots Q (F0 m pc ls (.ref v :: .int i :: .ref a :: rest)) := by
  obtain ⟨cellV, g1, g3, hcl⟩ := crecv w kT7 hv
  have hcA := (w.2.2.1.1 7 _ rfl).2
  have hcc : cellV.cls = D.1 7 := Option.some.inj (hcl.symm.trans hcA.1)
  obtain ⟨hx, hb, -⟩ := cx
  obtain ⟨h1, h2⟩ := kk_e ha
  obtain ⟨q, hq⟩ := pW_getE (cs := cs) ha pE_t
  obtain ⟨kA, comp, k1, k2, k3, -⟩ := (w.2.2.1.2 5 _ rfl).2
  obtain ⟨kE, hkE, -⟩ := Vm.findClass_spec k3
  have hin := vin_e hi
  have hcm : comp = D.1 7 := Option.some.inj (k3.symm.trans hcA.1)
  subst hT
  exact W.aast hx hb (w.2.1 q _ hq) (fun q h => by cases h) (fun h => by cases h) k1 k2 rfl hkE ⟨fun z => hin (Or.inl z), by show _ < (arrV _ _ _).slots.size; rw [arrV_size]; exact Nat.not_le.mp fun z => hin (Or.inr z)⟩ g1 (fun q h => by rw [h] at g3; cases g3) (by rw [hcc, ← hcm]; exact hkE) (by rw [hcc, hcm]; exact va_assign hcA) rfl rfl hdg fun H1 e1 z oq => kk H1 _ (cfin w h1 (upA_E (pE_t (P := pRu P a i.toNatClampNeg (some v)) h2 ▸ (by simp [pRu, pN, pR, va_up_self])) pRu_E) rfl rfl (st_q (f := pR P a) (x := some v) e1) z oq)
theorem cw_oastN (cx : mCx p s m args meth c own cc Ts nL ty) (w : cWd D cs t0 A s P H locs) (ha : kk P a 17 = true) {i : Int32} (hi : vin i (pN P a) = true) (hT : T = pRu P a i.toNatClampNeg none) (hdg : decode cc pc = .ok (.aastore, 1))
    (kk : ∀ (H1 : Heap) (locs1 : List Loc), cWd D cs t0 A s T H1 locs1 → W p l e R s m args below meth c H1 locs1 cells slots Q (F0 m (pc + 1) ls rest)) : W p l e R s m args below meth c H locs cells slots Q (F0 m pc ls (.null :: .int i :: .ref a :: rest)) := by
  obtain ⟨hx, hb, -⟩ := cx
  obtain ⟨h1, h2⟩ := kk_e ha
  obtain ⟨q, hq⟩ := pW_getE (cs := cs) ha pE_o
  subst hT
  exact va_WaastN hx hb (w.2.1 q _ hq) ((w.2.2.1.2 6 _ rfl).1 (pN P a) (fun j => va_rf (pR P a j))) (fun q => by cases q) (by show ¬ (i < 0 ∨ (arrV _ _ _).slots.size ≤ _); rw [arrV_size]; exact vin_e hi) rfl rfl hdg fun H1 e1 z oq => kk H1 _ (cfin w h1 (upA_E (pE_o (P := pRu P a i.toNatClampNeg none) h2 ▸ (by simp [pRu, pN, pR, va_up_self])) pRu_E) rfl rfl (st_q (f := pR P a) (x := none) e1) z oq)
-- a new row of references, of kind d (15, 16, 17: the j-th of ptys), of Cs
theorem cw_newq (cx : mCx p s m args meth c own cc Ts nL ty) (hsub : ∀ w ∈ wsL_law, w ∈ Ts) (w : cWd D cs t0 A s P H locs) {d j : Nat} {C : String} (hd : (ptys cs)[j]? = some (cs j, .object C)) (hE : ∀ (P : PS) (a : Nat), pK P a = d → pE cs P a = .inl (cs j, pN P a, .inr (.inr (.inr (.inr (pR P a)))))) (hC : C ∈ nestA) {n : Int32} (hn : ¬ n < 0) (hN : n.toNatClampNeg ≤ 2048) (hU : T = pNew P d n.toNatClampNeg) {index : Nat} (hcl : Cond.classLink own index C ∈ Ts) (hcells : cells + 1 ≤ R.cells) (hslots : slots + n.toNatClampNeg ≤ R.slots) (hdg : decode cc pc = .ok (.anewarray index, 3))
    (kk : ∀ (H1 : Heap), cWd D cs t0 A s T H1 locs → W p l e R s m args below meth c H1 locs (cells + 1) (slots + n.toNatClampNeg) Q (F0 m (pc + 3) ls (.ref (pZ P) :: rest))) : W p l e R s m args below meth c H locs cells slots Q (F0 m pc ls (.int n :: rest)) := by
  obtain ⟨hx, hb, -, hts, hown, -⟩ := cx
  refine W.anew hx hb hown (hts _ hcl) (va_AO.use (w.2.2.2.2.2.2.1.2.2.1 _ hC)) rfl hdg rfl hn (by omega) hcells hslots fun cA kA comp f1 f2 f3 f4 => ?_
  have hcA : cA = cs j := by
    obtain ⟨_, _, -, -, -, g4⟩ := (w.2.2.1.2 j _ hd).2
    exact Option.some.inj (f1.symm.trans g4)
  rw [w.1]
  have hsz : (H.push ({ cls := cA, slots := Array.replicate n.toNatClampNeg .null, vm := .none } : Cell)).size = H.size + 1 := Array.size_push _
  refine kk _ (cnew w hU rfl ?_ hsz (fun q hq => by rw [Array.getElem?_push, if_neg (Nat.ne_of_lt hq)]))
  rw [hU, hE (pNew P d n.toNatClampNeg) (pZ P) (va_up_self _ _ _)]
  show _ = some (vp_cell _ _)
  rw [← w.1, Array.getElem?_push_size, arrV_new, hcA, vp_cell_q]
  simp [pNew, pN, pR, va_up_self, va_rf, w.1]
theorem cw_max (cx : mCx p s m args meth c own cc Ts nL ty) (hsub : ∀ w ∈ wsL_law, w ∈ Ts) (hsz : ls.size = nL) {index : Nat} (hlink : Cond.methodLink own index Lib.Math.max.name ∈ wsL_law) (hframes : 1 ≤ R.frames) (hlocals : (rest.map fun v => v.category).sum + 13 ≤ R.locals) (hc : cells ≤ R.cells) (hs : slots ≤ R.slots) {x y : Int32} (hdg : decode cc pc = .ok (.invokestatic index, 3))
    (kk : W p l e R s m args below meth c H locs cells slots Q (F0 m (pc + 3) ls (.int (if x < y then y else x) :: rest))) : W p l e R s m args below meth c H locs cells slots Q (F0 m pc ls (.int y :: .int x :: rest)) := by
  obtain ⟨hx, hb, -, hts, hown, -, hml⟩ := cx
  exact va_mmax hx hb (by rw [hml, hsz]) hown (hts _ (hsub _ hlink)) (hts _ (hsub _ umx_s)) (hts _ (hsub _ umx_i)) (hts _ (hsub _ umx_c)) hframes hlocals hc hs hdg kk
theorem cw_min (cx : mCx p s m args meth c own cc Ts nL ty) (hsub : ∀ w ∈ wsL_law, w ∈ Ts) (hsz : ls.size = nL) {index : Nat} (hlink : Cond.methodLink own index Lib.Math.min.name ∈ wsL_law) (hframes : 1 ≤ R.frames) (hlocals : (rest.map fun v => v.category).sum + 13 ≤ R.locals) (hc : cells ≤ R.cells) (hs : slots ≤ R.slots) {x y : Int32} (hdg : decode cc pc = .ok (.invokestatic index, 3))
    (kk : W p l e R s m args below meth c H locs cells slots Q (F0 m (pc + 3) ls (.int (if y < x then y else x) :: rest))) : W p l e R s m args below meth c H locs cells slots Q (F0 m pc ls (.int y :: .int x :: rest)) := by
  obtain ⟨hx, hb, -, hts, hown, -, hml⟩ := cx
  exact va_mmin hx hb (by rw [hml, hsz]) hown (hts _ (hsub _ hlink)) (hts _ (hsub _ umn_s)) (hts _ (hsub _ umx_i)) (hts _ (hsub _ umn_c)) hframes hlocals hc hs hdg kk
end CAO
def vle (n : Int32) (b : Nat) : Bool := decide (¬ n < 0 ∧ n.toNatClampNeg ≤ b)
theorem vle_n {n : Int32} {b : Nat} (h : vle n b = true) : ¬ n < 0 := (of_decide_eq_true (p := ¬ n < 0 ∧ n.toNatClampNeg ≤ b) h).1
theorem vle_b {n : Int32} {b : Nat} (h : vle n b = true) : n.toNatClampNeg ≤ b := (of_decide_eq_true (p := ¬ n < 0 ∧ n.toNatClampNeg ≤ b) h).2
