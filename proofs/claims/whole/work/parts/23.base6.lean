section CAR
variable {p : Program} {l : Launch} {e : Env} {R : Room} {s : State} {m : MethodId} {args : Array Value} {below : List Frame} {meth : Method} {c : Code} {H : Heap} {locs : List Loc} {cells slots : Nat} {Q : State → Prop}
variable {cc : ByteArray} {pc : Nat} {ls : Array Slot} {rest : List Value} {D : va_G} {cs : Nat → ClassId} {t0 : TS} {A : Nat → Prop} {P T : PS} {Ts : List Cond} {nL : Nat} {ty : Option FieldType} {own : String} {a : Nat}
theorem pE_b (h : pK P a = 11) : pE cs P a = .inl (cs 0, pN P a, .inl (pI P a)) := by simp [pE, h]
theorem pE_i (h : pK P a = 12) : pE cs P a = .inl (cs 1, pN P a, .inl (pI P a)) := by simp [pE, h]
theorem pE_l (h : pK P a = 13) : pE cs P a = .inl (cs 2, pN P a, .inr (.inl (pJ P a))) := by simp [pE, h]
theorem pE_z (h : pK P a = 14) : pE cs P a = .inl (cs 3, pN P a, .inl (pI P a)) := by simp [pE, h]
theorem pE_p (h : pK P a = 15) : pE cs P a = .inl (cs 4, pN P a, .inr (.inr (.inr (.inr (pR P a))))) := by simp [pE, h]
theorem pE_t (h : pK P a = 16) : pE cs P a = .inl (cs 5, pN P a, .inr (.inr (.inr (.inr (pR P a))))) := by simp [pE, h]
theorem pE_o (h : pK P a = 17) : pE cs P a = .inl (cs 6, pN P a, .inr (.inr (.inr (.inr (pR P a))))) := by simp [pE, h]
theorem pW_getE {k : Nat} {x : va_E} (ha : kk P a k = true) (hE : pK P a = k → pE cs P a = x) : ∃ i : Nat, (pW cs P)[i]? = some (a, x) := by
  obtain ⟨h1, h2⟩ := kk_e ha
  obtain ⟨i, hi⟩ := pW_get (cs := cs) h1
  exact ⟨i, by rw [hi, hE h2]⟩
theorem cw_bald (cx : mCx p s m args meth c own cc Ts nL ty) (w : cWd D cs t0 A s P H locs) (ha : kk P a 11 = true) {i : Int32} (hi : vin i (pN P a) = true) (hdg : decode cc pc = .ok (.baload, 1))
    (kk : W p l e R s m args below meth c H locs cells slots Q (F0 m (pc + 1) ls (.int (pI P a i.toNatClampNeg) :: rest))) : W p l e R s m args below meth c H locs cells slots Q (F0 m pc ls (.int i :: .ref a :: rest)) := by
  obtain ⟨hx, hb, -⟩ := cx
  obtain ⟨q, hq⟩ := pW_getE (cs := cs) ha pE_b
  exact va_bald hx hb w.2.2.1 w.2.1 q 0 hq rfl (vin_e hi) hdg kk
theorem cw_iald (cx : mCx p s m args meth c own cc Ts nL ty) (w : cWd D cs t0 A s P H locs) (ha : kk P a 12 = true) {i : Int32} (hi : vin i (pN P a) = true) (hdg : decode cc pc = .ok (.iaload, 1))
    (kk : W p l e R s m args below meth c H locs cells slots Q (F0 m (pc + 1) ls (.int (pI P a i.toNatClampNeg) :: rest))) : W p l e R s m args below meth c H locs cells slots Q (F0 m pc ls (.int i :: .ref a :: rest)) := by
  obtain ⟨hx, hb, -⟩ := cx
  obtain ⟨q, hq⟩ := pW_getE (cs := cs) ha pE_i
  exact va_iald hx hb w.2.2.1 w.2.1 q 1 hq rfl (vin_e hi) hdg kk
theorem cw_lald (cx : mCx p s m args meth c own cc Ts nL ty) (w : cWd D cs t0 A s P H locs) (ha : kk P a 13 = true) {i : Int32} (hi : vin i (pN P a) = true) (hdg : decode cc pc = .ok (.laload, 1))
    (kk : W p l e R s m args below meth c H locs cells slots Q (F0 m (pc + 1) ls (.long (pJ P a i.toNatClampNeg) :: rest))) : W p l e R s m args below meth c H locs cells slots Q (F0 m pc ls (.int i :: .ref a :: rest)) := by
  obtain ⟨hx, hb, -⟩ := cx
  obtain ⟨q, hq⟩ := pW_getE (cs := cs) ha pE_l
  exact va_lald hx hb w.2.2.1 w.2.1 q 2 hq rfl (vin_e hi) hdg kk
theorem cw_pald (cx : mCx p s m args meth c own cc Ts nL ty) (w : cWd D cs t0 A s P H locs) (ha : kk P a 15 = true) {i : Int32} (hi : vin i (pN P a) = true) {v : Option Nat} (hv : v = pR P a i.toNatClampNeg) (hdg : decode cc pc = .ok (.aaload, 1))
    (kk : W p l e R s m args below meth c H locs cells slots Q (F0 m (pc + 1) ls (va_rf v :: rest))) : W p l e R s m args below meth c H locs cells slots Q (F0 m pc ls (.int i :: .ref a :: rest)) := by
  obtain ⟨hx, hb, -⟩ := cx
  obtain ⟨q, hq⟩ := pW_getE (cs := cs) ha pE_p
  subst hv
  exact va_aldq hx hb w.2.2.1 w.2.1 q 4 hq rfl (vin_e hi) hdg kk
theorem cw_tald (cx : mCx p s m args meth c own cc Ts nL ty) (w : cWd D cs t0 A s P H locs) (ha : kk P a 16 = true) {i : Int32} (hi : vin i (pN P a) = true) {v : Option Nat} (hv : v = pR P a i.toNatClampNeg) (hdg : decode cc pc = .ok (.aaload, 1))
    (kk : W p l e R s m args below meth c H locs cells slots Q (F0 m (pc + 1) ls (va_rf v :: rest))) : W p l e R s m args below meth c H locs cells slots Q (F0 m pc ls (.int i :: .ref a :: rest)) := by
  obtain ⟨hx, hb, -⟩ := cx
  obtain ⟨q, hq⟩ := pW_getE (cs := cs) ha pE_t
  subst hv
  exact va_aldq hx hb w.2.2.1 w.2.1 q 5 hq rfl (vin_e hi) hdg kk
theorem cw_oald (cx : mCx p s m args meth c own cc Ts nL ty) (w : cWd D cs t0 A s P H locs) (ha : kk P a 17 = true) {i : Int32} (hi : vin i (pN P a) = true) {v : Option Nat} (hv : v = pR P a i.toNatClampNeg) (hdg : decode cc pc = .ok (.aaload, 1))
    (kk : W p l e R s m args below meth c H locs cells slots Q (F0 m (pc + 1) ls (va_rf v :: rest))) : W p l e R s m args below meth c H locs cells slots Q (F0 m pc ls (.int i :: .ref a :: rest)) := by
  obtain ⟨hx, hb, -⟩ := cx
  obtain ⟨q, hq⟩ := pW_getE (cs := cs) ha pE_o
  subst hv
  exact va_aldq hx hb w.2.2.1 w.2.1 q 6 hq rfl (vin_e hi) hdg kk
def isArr (k : Nat) : Bool := k == 11 || k == 12 || k == 13 || k == 15 || k == 16 || k == 17
theorem cw_alen (cx : mCx p s m args meth c own cc Ts nL ty) (w : cWd D cs t0 A s P H locs) {k : Nat} (ha : kk P a k = true) (hk : isArr k = true) (hdg : decode cc pc = .ok (.arraylength, 1))
    (kk : W p l e R s m args below meth c H locs cells slots Q (F0 m (pc + 1) ls (.int (nI (pN P a)) :: rest))) : W p l e R s m args below meth c H locs cells slots Q (F0 m pc ls (.ref a :: rest)) := by
  obtain ⟨hx, hb, -⟩ := cx
  simp only [isArr, Bool.or_eq_true, beq_iff_eq] at hk
  rcases hk with ((((rfl | rfl) | rfl) | rfl) | rfl) | rfl
  · obtain ⟨q, hq⟩ := pW_getE (cs := cs) ha pE_b
    exact va_alen hx hb w.2.2.1 w.2.1 q 0 hq rfl rfl hdg kk
  · obtain ⟨q, hq⟩ := pW_getE (cs := cs) ha pE_i
    exact va_alen hx hb w.2.2.1 w.2.1 q 1 hq rfl rfl hdg kk
  · obtain ⟨q, hq⟩ := pW_getE (cs := cs) ha pE_l
    exact va_alen hx hb w.2.2.1 w.2.1 q 2 hq rfl rfl hdg kk
  · obtain ⟨q, hq⟩ := pW_getE (cs := cs) ha pE_p
    exact va_alen hx hb w.2.2.1 w.2.1 q 4 hq rfl rfl hdg kk
  · obtain ⟨q, hq⟩ := pW_getE (cs := cs) ha pE_t
    exact va_alen hx hb w.2.2.1 w.2.1 q 5 hq rfl rfl hdg kk
  · obtain ⟨q, hq⟩ := pW_getE (cs := cs) ha pE_o
    exact va_alen hx hb w.2.2.1 w.2.1 q 6 hq rfl rfl hdg kk
theorem st_i {cA : ClassId} {n k : Nat} {f : Nat → Int32} {x : Int32} {H1 : Heap} (h : H1[a]? = some ((vp_cell cA (n, .inl f)).setSlot k (.int x))) : va_at D vwCl (a, .inl (cA, n, .inl (upd f k x))) H1 := by
  show H1[a]? = some (vp_cell _ _)
  rw [h]
  rw [vp_cell_i, vp_cell_i, arrV_store]
  congr 2
  funext q
  by_cases hq : q = k
  · subst hq
    simp [updV, upd]
  · simp [updV, upd, hq]
theorem st_l {cA : ClassId} {n k : Nat} {f : Nat → Int64} {x : Int64} {H1 : Heap} (h : H1[a]? = some ((vp_cell cA (n, .inr (.inl f))).setSlot k (.long x))) : va_at D vwCl (a, .inl (cA, n, .inr (.inl (vp_updL f k x)))) H1 := by
  show H1[a]? = some (vp_cell _ _)
  rw [h]
  rw [vp_cell_l, vp_cell_l, arrV_store]
  congr 2
  funext q
  by_cases hq : q = k
  · subst hq
    simp [updV, vp_updL]
  · simp [updV, vp_updL, hq]
theorem st_q {cA : ClassId} {n k : Nat} {f : Nat → Option Nat} {x : Option Nat} {H1 : Heap} (h : H1[a]? = some ((vp_cell cA (n, .inr (.inr (.inr (.inr f))))).setSlot k (va_rf x))) : va_at D vwCl (a, .inl (cA, n, .inr (.inr (.inr (.inr (va_up f k x)))))) H1 := by
  show H1[a]? = some (vp_cell _ _)
  rw [h]
  rw [vp_cell_q, vp_cell_q, arrV_store]
  congr 2
  funext q
  by_cases hq : q = k
  · subst hq
    simp [updV, va_up]
  · simp [updV, va_up, hq]
theorem cw_iast (cx : mCx p s m args meth c own cc Ts nL ty) (w : cWd D cs t0 A s P H locs) (ha : kk P a 12 = true) {i v : Int32} (hi : vin i (pN P a) = true) (hT : T = pIu P a i.toNatClampNeg v) (hdg : decode cc pc = .ok (.iastore, 1))
    (kk : ∀ (H1 : Heap) (locs1 : List Loc), cWd D cs t0 A s T H1 locs1 → W p l e R s m args below meth c H1 locs1 cells slots Q (F0 m (pc + 1) ls rest)) : W p l e R s m args below meth c H locs cells slots Q (F0 m pc ls (.int v :: .int i :: .ref a :: rest)) := by
  obtain ⟨hx, hb, -⟩ := cx
  obtain ⟨h1, h2⟩ := kk_e ha
  obtain ⟨q, hq⟩ := pW_getE (cs := cs) ha pE_i
  subst hT
  exact W.iast hx hb (w.2.1 q _ hq) ((w.2.2.1.2 1 _ rfl).1 (pN P a) (fun j => .int (pI P a j))) (fun q => by cases q) (by show ¬ (i < 0 ∨ (arrV _ _ _).slots.size ≤ _); rw [arrV_size]; exact vin_e hi) rfl rfl hdg fun H1 e1 z oq => kk H1 _ (cfin w h1 (upA_E (pE_i (P := pIu P a i.toNatClampNeg v) h2 ▸ (by simp [pIu, pN, pI, va_up_self])) pIu_E) rfl rfl (st_i (f := pI P a) e1) z oq)
theorem cw_bast (cx : mCx p s m args meth c own cc Ts nL ty) (w : cWd D cs t0 A s P H locs) (ha : kk P a 11 = true) {i v : Int32} (hi : vin i (pN P a) = true) (hT : T = pIu P a i.toNatClampNeg v.toInt8.toInt32) (hdg : decode cc pc = .ok (.bastore, 1))
    (kk : ∀ (H1 : Heap) (locs1 : List Loc), cWd D cs t0 A s T H1 locs1 → W p l e R s m args below meth c H1 locs1 cells slots Q (F0 m (pc + 1) ls rest)) : W p l e R s m args below meth c H locs cells slots Q (F0 m pc ls (.int v :: .int i :: .ref a :: rest)) := by
  obtain ⟨hx, hb, -⟩ := cx
  obtain ⟨h1, h2⟩ := kk_e ha
  obtain ⟨q, hq⟩ := pW_getE (cs := cs) ha pE_b
  subst hT
  exact W.bast hx hb (w.2.1 q _ hq) ((w.2.2.1.2 0 _ rfl).1 (pN P a) (fun j => .int (pI P a j))) (fun q => by cases q) (by show ¬ (i < 0 ∨ (arrV _ _ _).slots.size ≤ _); rw [arrV_size]; exact vin_e hi) rfl rfl hdg fun H1 e1 z oq => kk H1 _ (cfin w h1 (upA_E (pE_b (P := pIu P a i.toNatClampNeg v.toInt8.toInt32) h2 ▸ (by simp [pIu, pN, pI, va_up_self])) pIu_E) rfl rfl (st_i (f := pI P a) (x := v.toInt8.toInt32) e1) z oq)
theorem cw_last (cx : mCx p s m args meth c own cc Ts nL ty) (w : cWd D cs t0 A s P H locs) (ha : kk P a 13 = true) {i : Int32} {v : Int64} (hi : vin i (pN P a) = true) (hT : T = pJu P a i.toNatClampNeg v) (hdg : decode cc pc = .ok (.lastore, 1))
    (kk : ∀ (H1 : Heap) (locs1 : List Loc), cWd D cs t0 A s T H1 locs1 → W p l e R s m args below meth c H1 locs1 cells slots Q (F0 m (pc + 1) ls rest)) : W p l e R s m args below meth c H locs cells slots Q (F0 m pc ls (.long v :: .int i :: .ref a :: rest)) := by
  obtain ⟨hx, hb, -⟩ := cx
  obtain ⟨h1, h2⟩ := kk_e ha
  obtain ⟨q, hq⟩ := pW_getE (cs := cs) ha pE_l
  subst hT
  exact W.last hx hb (w.2.1 q _ hq) ((w.2.2.1.2 2 _ rfl).1 (pN P a) (fun j => .long (pJ P a j))) (fun q => by cases q) (by show ¬ (i < 0 ∨ (arrV _ _ _).slots.size ≤ _); rw [arrV_size]; exact vin_e hi) rfl rfl hdg fun H1 e1 z oq => kk H1 _ (cfin w h1 (upA_E (pE_l (P := pJu P a i.toNatClampNeg v) h2 ▸ (by simp [pJu, pN, pJ, va_up_self])) pJu_E) rfl rfl (st_l (f := pJ P a) e1) z oq)
-- a new cell
theorem cnew {n d : Nat} {x : va_E} {H1 : Heap} (w : cWd D cs t0 A s P H locs) (hT : T = pNew P d n) (he : x = pE cs T (pZ P)) (hat : va_at D vwCl (pZ P, x) H1) (z1 : H1.size = H.size + 1) (o1 : ∀ q : Nat, q < H.size → H1[q]? = H[q]?) : cWd D cs t0 A s T H1 locs := by
  obtain ⟨w1, w2, w3, w4, w5, w6, w7⟩ := w
  have hfr : pZ P ∉ pL P := va_pl_fresh (X := []) w2 (by omega)
  have e1 : pW cs P ++ [(pZ P, x)] = pW cs T := by
    have h1 : pW cs P ++ [(pZ P, x)] = va_pl (pL P ++ [pZ P]) (va_up (pE cs P) (pZ P) x) := va_pl_push hfr
    rw [h1, hT]
    refine va_pl_congr (fun b => ?_)
    by_cases hb : b = pZ P
    · subst hb
      rw [va_up_self, he, hT]
    · rw [va_up_ne _ _ hb]
      exact (pE_off (P := P) (T := pNew P d n) (va_up_ne _ _ hb) (va_up_ne _ _ hb) (va_up_ne _ _ hb) (va_up_ne _ _ hb) (va_up_ne _ _ hb)).symm
  have hk : ∀ (k : Nat) (q : Nat × va_E), (pW cs P)[k]? = some q → H1[q.1]? = H[q.1]? := fun k q hq => o1 q.1 ((w2 k q hq).lt)
  have hP : va_P D vwCl (pW cs P ++ [(pZ P, x)]) H1 := (w2.kept hk).app (fun k q hq => by
    have hz : k < 1 := (List.getElem?_eq_some_iff.mp hq).1
    rw [show k = 0 by omega] at hq
    cases hq
    exact hat)
  have hD : va_D A (pW cs P ++ [(pZ P, x)]) := w4.push w2 w1.symm (w6 _ (Nat.le_trans w5.1 (by omega)))
  rw [e1] at hP hD
  refine ⟨?_, hP, w3, hD, ⟨Nat.le_trans w5.1 (by omega), fun q h1 h2 => (o1 q (Nat.lt_of_lt_of_le h1 w5.1)).trans (w5.2.1 q h1 h2), w5.2.2⟩, w6, w7⟩
  rw [z1, w1, hT]
  rfl
theorem cw_new (cx : mCx p s m args meth c own cc Ts nL ty) (hsub : ∀ w ∈ wsL_law, w ∈ Ts) (w : cWd D cs t0 A s P H locs) {d N : Nat} {C : String} {Tb : u_T} {tyF : Nat → FieldType} (hT : kT d C Tb N tyF) (hU : T = pNew P d 0) (hdef : ∀ j, j < N → defaultValue (tyF j) = if (kF d)[j]? = some true then Value.null else .int 0) {index : Nat} (hcl : Cond.classLink own index C ∈ Ts) (hin : Cond.instantiable C N ∈ Ts) (hini : Cond.initialized C ∈ Ts) (hcells : cells + 1 ≤ R.cells) (hslots : slots + N ≤ R.slots) (hdg : decode cc pc = .ok (.new index, 3))
    (kk : ∀ (H1 : Heap), cWd D cs t0 A s T H1 locs → W p l e R s m args below meth c H1 locs (cells + 1) (slots + N) Q (F0 m (pc + 3) ls (.ref (pZ P) :: rest))) : W p l e R s m args below meth c H locs cells slots Q (F0 m pc ls rest) := by
  obtain ⟨hx, hb, -, hts, hown, -⟩ := cx
  obtain ⟨h1, h2, h3, h4, h5, h6⟩ := hT
  have hKn := w.2.2.1.1 d _ h1
  have hin' := fun q h => hsub q (h4 q h)
  refine W.newcK hx hb hown (hts _ hcl) (hts _ hin) (hts _ hini) rfl hdg hcells hslots hKn.2.1 w.1 fun H1 kC hkC e1 z1 o1 => ?_
  refine kk H1 (cnew w hU rfl ?_ (by rw [z1, w.1]) (fun q hq => o1 q (by rw [← w.1]; exact hq)))
  rw [hU, pE_obj (P := pNew P d 0) (c := d) (va_up_self _ _ _) h2]
  refine ⟨_, h1, (u_born tyF hts hin' hKn hkC e1 h5).to (fun j hj => ?_)⟩
  rw [hdef j hj]
  show _ = ((pFs (pNew P d 0) (pZ P) d).getD j .null)
  rw [List.getD_eq_getElem?_getD, pFs_get (by rw [h3]; exact hj)]
  show _ = pV (pNew P d 0) (pZ P) d j
  by_cases hq : (kF d)[j]? = some true
  · simp [pV, hq, pNew, pR, va_up_self, va_rf]
  · simp [pV, hq, pNew, pI, va_up_self]
theorem cw_newi (cx : mCx p s m args meth c own cc Ts nL ty) (w : cWd D cs t0 A s P H locs) {n : Int32} (hn : ¬ n < 0) (hN : n.toNatClampNeg ≤ 2048) (hU : T = pNew P 12 n.toNatClampNeg) (harr : Cond.arrayClass .int ∈ Ts) (hcells : cells + 1 ≤ R.cells) (hslots : slots + n.toNatClampNeg ≤ R.slots) (hdg : decode cc pc = .ok (.newarray .int, 2))
    (kk : ∀ (H1 : Heap), cWd D cs t0 A s T H1 locs → W p l e R s m args below meth c H1 locs (cells + 1) (slots + n.toNatClampNeg) Q (F0 m (pc + 2) ls (.ref (pZ P) :: rest))) : W p l e R s m args below meth c H locs cells slots Q (F0 m pc ls (.int n :: rest)) := by
  obtain ⟨hx, hb, -, hts, hown, -⟩ := cx
  refine va_newaK (atype := .int) hx hb (hts _ harr) rfl hdg rfl hn rfl (by show _ * 4 ≤ _; omega) hcells hslots w.1 fun H1 cA e1 z1 o1 hAr hNm => ?_
  have hcA : cA = cs 1 := Option.some.inj (hNm.symm.trans (w.2.2.1.2 1 _ rfl).2)
  refine kk H1 (cnew w hU rfl ?_ (by rw [z1, w.1]) (fun q hq => o1 q (by rw [← w.1]; exact hq)))
  rw [hU, pE_i (P := pNew P 12 n.toNatClampNeg) (va_up_self _ _ _)]
  show H1[pZ P]? = some (vp_cell _ _)
  rw [e1, hcA, vp_cell_i]
  simp [pNew, pN, pI, va_up_self, newarray.typeOf, defaultValue]
theorem cw_newb (cx : mCx p s m args meth c own cc Ts nL ty) (w : cWd D cs t0 A s P H locs) {n : Int32} (hn : ¬ n < 0) (hN : n.toNatClampNeg ≤ 2048) (hU : T = pNew P 11 n.toNatClampNeg) (harr : Cond.arrayClass .byte ∈ Ts) (hcells : cells + 1 ≤ R.cells) (hslots : slots + n.toNatClampNeg ≤ R.slots) (hdg : decode cc pc = .ok (.newarray .byte, 2))
    (kk : ∀ (H1 : Heap), cWd D cs t0 A s T H1 locs → W p l e R s m args below meth c H1 locs (cells + 1) (slots + n.toNatClampNeg) Q (F0 m (pc + 2) ls (.ref (pZ P) :: rest))) : W p l e R s m args below meth c H locs cells slots Q (F0 m pc ls (.int n :: rest)) := by
  obtain ⟨hx, hb, -, hts, hown, -⟩ := cx
  refine va_newaK (atype := .byte) hx hb (hts _ harr) rfl hdg rfl hn rfl (by show _ * 1 ≤ _; omega) hcells hslots w.1 fun H1 cA e1 z1 o1 hAr hNm => ?_
  have hcA : cA = cs 0 := Option.some.inj (hNm.symm.trans (w.2.2.1.2 0 _ rfl).2)
  refine kk H1 (cnew w hU rfl ?_ (by rw [z1, w.1]) (fun q hq => o1 q (by rw [← w.1]; exact hq)))
  rw [hU, pE_b (P := pNew P 11 n.toNatClampNeg) (va_up_self _ _ _)]
  show H1[pZ P]? = some (vp_cell _ _)
  rw [e1, hcA, vp_cell_i]
  simp [pNew, pN, pI, va_up_self, newarray.typeOf, defaultValue]
theorem cw_newl (cx : mCx p s m args meth c own cc Ts nL ty) (w : cWd D cs t0 A s P H locs) {n : Int32} (hn : ¬ n < 0) (hN : n.toNatClampNeg ≤ 2048) (hU : T = pNew P 13 n.toNatClampNeg) (harr : Cond.arrayClass .long ∈ Ts) (hcells : cells + 1 ≤ R.cells) (hslots : slots + n.toNatClampNeg ≤ R.slots) (hdg : decode cc pc = .ok (.newarray .long, 2))
    (kk : ∀ (H1 : Heap), cWd D cs t0 A s T H1 locs → W p l e R s m args below meth c H1 locs (cells + 1) (slots + n.toNatClampNeg) Q (F0 m (pc + 2) ls (.ref (pZ P) :: rest))) : W p l e R s m args below meth c H locs cells slots Q (F0 m pc ls (.int n :: rest)) := by
  obtain ⟨hx, hb, -, hts, hown, -⟩ := cx
  refine va_newaK (atype := .long) hx hb (hts _ harr) rfl hdg rfl hn rfl (by show _ * 8 ≤ _; omega) hcells hslots w.1 fun H1 cA e1 z1 o1 hAr hNm => ?_
  have hcA : cA = cs 2 := Option.some.inj (hNm.symm.trans (w.2.2.1.2 2 _ rfl).2)
  refine kk H1 (cnew w hU rfl ?_ (by rw [z1, w.1]) (fun q hq => o1 q (by rw [← w.1]; exact hq)))
  rw [hU, pE_l (P := pNew P 13 n.toNatClampNeg) (va_up_self _ _ _)]
  show H1[pZ P]? = some (vp_cell _ _)
  rw [e1, hcA, vp_cell_l]
  simp [pNew, pN, pJ, va_up_self, newarray.typeOf, defaultValue]
theorem cw_newz (cx : mCx p s m args meth c own cc Ts nL ty) (w : cWd D cs t0 A s P H locs) {n : Int32} (hn : ¬ n < 0) (hN : n.toNatClampNeg ≤ 2048) (hU : T = pNew P 14 n.toNatClampNeg) (harr : Cond.arrayClass .boolean ∈ Ts) (hcells : cells + 1 ≤ R.cells) (hslots : slots + n.toNatClampNeg ≤ R.slots) (hdg : decode cc pc = .ok (.newarray .boolean, 2))
    (kk : ∀ (H1 : Heap), cWd D cs t0 A s T H1 locs → W p l e R s m args below meth c H1 locs (cells + 1) (slots + n.toNatClampNeg) Q (F0 m (pc + 2) ls (.ref (pZ P) :: rest))) : W p l e R s m args below meth c H locs cells slots Q (F0 m pc ls (.int n :: rest)) := by
  obtain ⟨hx, hb, -, hts, hown, -⟩ := cx
  refine va_newaK (atype := .boolean) hx hb (hts _ harr) rfl hdg rfl hn rfl (by show _ * 1 ≤ _; omega) hcells hslots w.1 fun H1 cA e1 z1 o1 hAr hNm => ?_
  have hcA : cA = cs 3 := Option.some.inj (hNm.symm.trans (w.2.2.1.2 3 _ rfl).2)
  refine kk H1 (cnew w hU rfl ?_ (by rw [z1, w.1]) (fun q hq => o1 q (by rw [← w.1]; exact hq)))
  rw [hU, pE_z (P := pNew P 14 n.toNatClampNeg) (va_up_self _ _ _)]
  show H1[pZ P]? = some (vp_cell _ _)
  rw [e1, hcA, vp_cell_i]
  simp [pNew, pN, pI, va_up_self, newarray.typeOf, defaultValue]
theorem cw_cast (cx : mCx p s m args meth c own cc Ts nL ty) (w : cWd D cs t0 A s P H locs) {d N : Nat} {C : String} {Tb : u_T} {tyF : Nat → FieldType} (hT : kT d C Tb N tyF) (ha : kk P a d = true) {index : Nat} (hcl : Cond.classLink own index C ∈ Ts) (hdg : decode cc pc = .ok (.checkcast index, 3))
    (k : W p l e R s m args below meth c H locs cells slots Q (F0 m (pc + 3) ls (.ref a :: rest))) : W p l e R s m args below meth c H locs cells slots Q (F0 m pc ls (.ref a :: rest)) := by
  obtain ⟨hx, hb, -, hts, hown, -⟩ := cx
  obtain ⟨cell, h1, h2, h3⟩ := crecv w hT ha
  have hcA := (w.2.2.1.1 d _ hT.1).2
  have hcc : cell.cls = D.1 d := Option.some.inj (h3.symm.trans hcA.1)
  intro T' hT' X
  obtain ⟨vm', X', st⟩ := X.checkcastYes hx hown (hts _ hcl) (by rw [hT']; exact h1) h2 h3 (by rw [hcc]; exact va_assign hcA) (g := F0 m pc ls (.ref a :: rest)) rfl rfl (by rw [hb]; exact hdg)
  obtain ⟨t, a1, b1⟩ := k (T'.setVm vm') hT' X'
  exact ⟨t, st t a1, b1⟩
end CAR
