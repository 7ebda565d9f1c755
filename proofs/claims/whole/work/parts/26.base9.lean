section CCP
variable {p : Program} {l : Launch} {e : Env} {R : Room} {s : State} {m : MethodId} {args : Array Value} {below : List Frame} {meth : Method} {c : Code} {H : Heap} {locs : List Loc} {cells slots : Nat} {Q : State → Prop}
variable {cc : ByteArray} {pc : Nat} {ls : Array Slot} {rest : List Value} {D : va_G} {cs : Nat → ClassId} {t0 : TS} {A : Nat → Prop} {P T : PS} {Ts : List Cond} {nL : Nat} {ty : Option FieldType} {own : String} {a b : Nat}
def cpk (n0 n1 : Nat) (sp dp n : Int32) : Bool := decide (¬ sp < 0 ∧ ¬ dp < 0 ∧ ¬ n < 0 ∧ sp.toNatClampNeg + n.toNatClampNeg ≤ n0 ∧ dp.toNatClampNeg + n.toNatClampNeg ≤ n1)
theorem cpk_e {n0 n1 : Nat} {sp dp n : Int32} (h : cpk n0 n1 sp dp n = true) : ¬ sp < 0 ∧ ¬ dp < 0 ∧ ¬ n < 0 ∧ sp.toNatClampNeg + n.toNatClampNeg ≤ n0 ∧ dp.toNatClampNeg + n.toNatClampNeg ≤ n1 := of_decide_eq_true (p := ¬ sp < 0 ∧ ¬ dp < 0 ∧ ¬ n < 0 ∧ sp.toNatClampNeg + n.toNatClampNeg ≤ n0 ∧ dp.toNatClampNeg + n.toNatClampNeg ≤ n1) h
theorem cnn (z : Int32) (hz : ¬ z < 0) : z.toInt = (z.toNatClampNeg : Int) := by
  have hz0 : (0 : Int) ≤ z.toInt := by
    have := Int32.not_lt.mp hz
    simpa using Int32.le_iff_toInt_le.mp this
  show z.toInt = ((z.toInt.toNat : Nat) : Int)
  omega
def pCi (P : PS) (a b sp dp n : Nat) : PS := (pL P, pK P, pN P, va_up (pI P) b (va_cpy (pI P a) (pI P b) sp dp n), pJ P, pR P, pZ P)
def pCl (P : PS) (a b sp dp n : Nat) : PS := (pL P, pK P, pN P, pI P, va_up (pJ P) b (va_cpy (pJ P a) (pJ P b) sp dp n), pR P, pZ P)
def pCq (P : PS) (a b sp dp n : Nat) : PS := (pL P, pK P, pN P, pI P, pJ P, va_up (pR P) b (va_cpy (pR P a) (pR P b) sp dp n), pZ P)
def isOs (P : PS) (a sp n : Nat) : Bool := (List.range n).all fun i => match pR P a (sp + i) with
  | some y => isO P y
  | none => true
-- what is copied lies in the heap
theorem ccopied {x : va_E} {H1 : Heap} {L : List Loc} (w : cWd D cs t0 A s P H locs) (hb : b ∈ pL P) (hE : ∀ q, va_up (pE cs P) b x q = pE cs T q) (hL : pL T = pL P) (hZ : pZ T = pZ P) {cl : Cell} (hc : x = x) (he : va_at D vwCl (b, x) H1) (z : H1.size = H.size) (oq : ∀ q : Nat, q ≠ b → H1[q]? = H[q]?) (hLb : ∀ q ∈ L, q.base = b) : cWd D cs t0 A s T H1 (locs ++ L) := by
  have h := cfin (k := 0) w hb hE hL hZ he z oq
  obtain ⟨h1, h2, h3, h4, h5, h6, h7⟩ := h
  have hA : A b := pA_A w b (Or.inl hb)
  exact ⟨h1, h2, h3, h4, ⟨h5.1, h5.2.1, fun q hq => by
    rcases List.mem_append.mp hq with g | g
    · exact w.2.2.2.2.1.2.2 q g
    · rw [hLb q g]; exact hA⟩, h6, h7⟩
theorem cw_copyi (cx : mCx p s m args meth c own cc Ts nL ty) (hsub : ∀ w ∈ wsL_law, w ∈ Ts) (w : cWd D cs t0 A s P H locs) (hsz : ls.size = nL) {index : Nat} (hlink : Cond.methodLink own index arraycopyName ∈ wsL_law) (ha : kk P a 12 = true) (hbk : kk P b 12 = true) {sp dp n : Int32} (hq : cpk (pN P a) (pN P b) sp dp n = true) (hT : T = pCi P a b sp.toNatClampNeg dp.toNatClampNeg n.toNatClampNeg) (hframes : 1 ≤ R.frames) (hlocals : (rest.map fun v => v.category).sum + (nativeFrameWords "java/lang/System" "arraycopy" 5 + 11) ≤ R.locals) (hdg : decode cc pc = .ok (.invokestatic index, 3))
    (kk : ∀ (H1 : Heap) (locs1 : List Loc), cWd D cs t0 A s T H1 locs1 → W p l e R s m args below meth c H1 locs1 cells slots Q (F0 m (pc + 3) ls rest)) : W p l e R s m args below meth c H locs cells slots Q (F0 m pc ls (.int n :: .int dp :: .ref b :: .int sp :: .ref a :: rest)) := by
  obtain ⟨hx, hb, -, hts, hown, -, hml⟩ := cx
  obtain ⟨h1, h2, h3, h4, h5⟩ := cpk_e hq
  obtain ⟨ga, gk⟩ := kk_e ha
  obtain ⟨gb, gl⟩ := kk_e hbk
  obtain ⟨q0, hq0⟩ := pW_getE (cs := cs) ha pE_i
  obtain ⟨q1, hq1⟩ := pW_getE (cs := cs) hbk pE_i
  intro T' hT' X
  have hc0 : H[a]? = some (vp_cell (cs 1) (pN P a, .inl (pI P a))) := w.2.1 q0 _ hq0
  have hc1 : H[b]? = some (vp_cell (cs 1) (pN P b, .inl (pI P b))) := w.2.1 q1 _ hq1
  obtain ⟨-, k0, hk0, cm0, hkk0⟩ := (w.2.2.1.2 1 _ rfl).1 (pN P a) (fun j => .int (pI P a j))
  obtain ⟨-, k1, hk1, cm1, hkk1⟩ := (w.2.2.1.2 1 _ rfl).1 (pN P b) (fun j => .int (pI P b j))
  obtain ⟨vm', X', step⟩ := X.arraycopy hx hown (hts _ (hsub _ hlink)) (hts _ (hsub _ uac_n)) (hts _ (hsub _ uac_s)) (hts _ (hsub _ uac_i)) (src := a) (dst := b) (cs := vp_cell (cs 1) (pN P a, .inl (pI P a))) (cd := vp_cell (cs 1) (pN P b, .inl (pI P b))) (srcPos := sp) (destPos := dp) (n := n) (by rw [hT']; exact hc0) (by rw [hT']; exact hc1)
    (fun _ h => by cases h) (fun _ h => by cases h) (fun h => by cases h) (fun h => by cases h) hk0 hk1 hkk0 hkk1 rfl h1 h2 h3
    (by rw [cnn sp h1, cnn n h3]; show ¬ _ > ((arrV (cs 1) (pN P a) (fun j => .int (pI P a j))).slots.size : Int); rw [arrV_size]; omega)
    (by rw [cnn dp h2, cnn n h3]; show ¬ _ > ((arrV (cs 1) (pN P b) (fun j => .int (pI P b j))).slots.size : Int); rw [arrV_size]; omega)
    (fun vm₁ hal i hi => by
      have e : (vp_cell (cs 1) (pN P a, .inl (pI P a))).slots.getD (sp.toNatClampNeg + i) .null = .int (pI P a (sp.toNatClampNeg + i)) := by
        show (arrV (cs 1) (pN P a) (fun j => .int (pI P a j))).slots.getD _ _ = _
        rw [Array.getD_eq_getD_getElem?, arrV_read _ _ (by omega)]
        rfl
      rw [e]
      exact ⟨rfl, trivial⟩)
    (g := F0 m pc ls (.int n :: .int dp :: .ref b :: .int sp :: .ref a :: rest)) rfl (by rw [hml, hsz]) (rest := rest) rfl (by rw [hb]; exact hdg) hframes (by show 2 * 0 + _ + _ ≤ _; omega)
  have e1 : copied (vp_cell (cs 1) (pN P a, .inl (pI P a))) (vp_cell (cs 1) (pN P b, .inl (pI P b))) sp dp n = vp_cell (cs 1) (pN P b, .inl (va_cpy (pI P a) (pI P b) sp.toNatClampNeg dp.toNatClampNeg n.toNatClampNeg)) := by
    first
      | exact va_copied (fun z => .int z) (cs 1) (cs 1) (pI P a) (pI P b) h4
      | (rw [vp_cell_q, vp_cell_q, vp_cell_q]; exact va_copied (fun z => .int z) (cs 1) (cs 1) (pI P a) (pI P b) h4)
  rw [e1] at X' step
  have hl : b < H.size := (Array.getElem?_eq_some_iff.mp hc1).1
  have hheap : ((T'.setVm vm').setCell b (vp_cell (cs 1) (pN P b, .inl (va_cpy (pI P a) (pI P b) sp.toNatClampNeg dp.toNatClampNeg n.toNatClampNeg)))).heap = H.setIfInBounds b (vp_cell (cs 1) (pN P b, .inl (va_cpy (pI P a) (pI P b) sp.toNatClampNeg dp.toNatClampNeg n.toNatClampNeg))) := by rw [← hT']; rfl
  have oq : ∀ q : Nat, q ≠ b → (H.setIfInBounds b (vp_cell (cs 1) (pN P b, .inl (va_cpy (pI P a) (pI P b) sp.toNatClampNeg dp.toNatClampNeg n.toNatClampNeg))))[q]? = H[q]? := fun q hq => by simp [Array.getElem?_setIfInBounds, Ne.symm hq]
  subst hT
  have hE : ∀ q, va_up (pE cs P) b (.inl (cs 1, pN P b, .inl (va_cpy (pI P a) (pI P b) sp.toNatClampNeg dp.toNatClampNeg n.toNatClampNeg))) q = pE cs (pCi P a b sp.toNatClampNeg dp.toNatClampNeg n.toNatClampNeg) q := upA_E (pE_i (P := pCi P a b sp.toNatClampNeg dp.toNatClampNeg n.toNatClampNeg) gl ▸ (by simp [pCi, pN, pI, va_up_self])) (fun q hq => pE_off (P := P) (T := pCi P a b sp.toNatClampNeg dp.toNatClampNeg n.toNatClampNeg) rfl rfl (va_up_ne _ _ hq) rfl rfl)
  obtain ⟨t, a1, b1⟩ := kk _ _ (ccopied (cl := vp_cell (cs 1) (pN P b, .inl (pI P b))) w gb hE rfl rfl rfl (show (H.setIfInBounds b _)[b]? = some (vp_cell (cs 1) (pN P b, .inl (va_cpy (pI P a) (pI P b) sp.toNatClampNeg dp.toNatClampNeg n.toNatClampNeg))) by simp [Array.getElem?_setIfInBounds, hl]) (by simp) oq (fun q hq => by obtain ⟨z, -, hz⟩ := List.mem_map.mp hq; rw [← hz])) _ hheap X'
  exact ⟨t, step t a1, b1⟩
theorem cw_copyl (cx : mCx p s m args meth c own cc Ts nL ty) (hsub : ∀ w ∈ wsL_law, w ∈ Ts) (w : cWd D cs t0 A s P H locs) (hsz : ls.size = nL) {index : Nat} (hlink : Cond.methodLink own index arraycopyName ∈ wsL_law) (ha : kk P a 13 = true) (hbk : kk P b 13 = true) {sp dp n : Int32} (hq : cpk (pN P a) (pN P b) sp dp n = true) (hT : T = pCl P a b sp.toNatClampNeg dp.toNatClampNeg n.toNatClampNeg) (hframes : 1 ≤ R.frames) (hlocals : (rest.map fun v => v.category).sum + (nativeFrameWords "java/lang/System" "arraycopy" 5 + 11) ≤ R.locals) (hdg : decode cc pc = .ok (.invokestatic index, 3))
    (kk : ∀ (H1 : Heap) (locs1 : List Loc), cWd D cs t0 A s T H1 locs1 → W p l e R s m args below meth c H1 locs1 cells slots Q (F0 m (pc + 3) ls rest)) : W p l e R s m args below meth c H locs cells slots Q (F0 m pc ls (.int n :: .int dp :: .ref b :: .int sp :: .ref a :: rest)) := by
  obtain ⟨hx, hb, -, hts, hown, -, hml⟩ := cx
  obtain ⟨h1, h2, h3, h4, h5⟩ := cpk_e hq
  obtain ⟨ga, gk⟩ := kk_e ha
  obtain ⟨gb, gl⟩ := kk_e hbk
  obtain ⟨q0, hq0⟩ := pW_getE (cs := cs) ha pE_l
  obtain ⟨q1, hq1⟩ := pW_getE (cs := cs) hbk pE_l
  intro T' hT' X
  have hc0 : H[a]? = some (vp_cell (cs 2) (pN P a, .inr (.inl (pJ P a)))) := w.2.1 q0 _ hq0
  have hc1 : H[b]? = some (vp_cell (cs 2) (pN P b, .inr (.inl (pJ P b)))) := w.2.1 q1 _ hq1
  obtain ⟨-, k0, hk0, cm0, hkk0⟩ := (w.2.2.1.2 2 _ rfl).1 (pN P a) (fun j => .long (pJ P a j))
  obtain ⟨-, k1, hk1, cm1, hkk1⟩ := (w.2.2.1.2 2 _ rfl).1 (pN P b) (fun j => .long (pJ P b j))
  obtain ⟨vm', X', step⟩ := X.arraycopy hx hown (hts _ (hsub _ hlink)) (hts _ (hsub _ uac_n)) (hts _ (hsub _ uac_s)) (hts _ (hsub _ uac_i)) (src := a) (dst := b) (cs := vp_cell (cs 2) (pN P a, .inr (.inl (pJ P a)))) (cd := vp_cell (cs 2) (pN P b, .inr (.inl (pJ P b)))) (srcPos := sp) (destPos := dp) (n := n) (by rw [hT']; exact hc0) (by rw [hT']; exact hc1)
    (fun _ h => by cases h) (fun _ h => by cases h) (fun h => by cases h) (fun h => by cases h) hk0 hk1 hkk0 hkk1 rfl h1 h2 h3
    (by rw [cnn sp h1, cnn n h3]; show ¬ _ > ((arrV (cs 2) (pN P a) (fun j => .long (pJ P a j))).slots.size : Int); rw [arrV_size]; omega)
    (by rw [cnn dp h2, cnn n h3]; show ¬ _ > ((arrV (cs 2) (pN P b) (fun j => .long (pJ P b j))).slots.size : Int); rw [arrV_size]; omega)
    (fun vm₁ hal i hi => by
      have e : (vp_cell (cs 2) (pN P a, .inr (.inl (pJ P a)))).slots.getD (sp.toNatClampNeg + i) .null = .long (pJ P a (sp.toNatClampNeg + i)) := by
        show (arrV (cs 2) (pN P a) (fun j => .long (pJ P a j))).slots.getD _ _ = _
        rw [Array.getD_eq_getD_getElem?, arrV_read _ _ (by omega)]
        rfl
      rw [e]
      exact ⟨rfl, trivial⟩)
    (g := F0 m pc ls (.int n :: .int dp :: .ref b :: .int sp :: .ref a :: rest)) rfl (by rw [hml, hsz]) (rest := rest) rfl (by rw [hb]; exact hdg) hframes (by show 2 * 0 + _ + _ ≤ _; omega)
  have e1 : copied (vp_cell (cs 2) (pN P a, .inr (.inl (pJ P a)))) (vp_cell (cs 2) (pN P b, .inr (.inl (pJ P b)))) sp dp n = vp_cell (cs 2) (pN P b, .inr (.inl (va_cpy (pJ P a) (pJ P b) sp.toNatClampNeg dp.toNatClampNeg n.toNatClampNeg))) := by
    first
      | exact va_copied (fun z => .long z) (cs 2) (cs 2) (pJ P a) (pJ P b) h4
      | (rw [vp_cell_q, vp_cell_q, vp_cell_q]; exact va_copied (fun z => .long z) (cs 2) (cs 2) (pJ P a) (pJ P b) h4)
  rw [e1] at X' step
  have hl : b < H.size := (Array.getElem?_eq_some_iff.mp hc1).1
  have hheap : ((T'.setVm vm').setCell b (vp_cell (cs 2) (pN P b, .inr (.inl (va_cpy (pJ P a) (pJ P b) sp.toNatClampNeg dp.toNatClampNeg n.toNatClampNeg))))).heap = H.setIfInBounds b (vp_cell (cs 2) (pN P b, .inr (.inl (va_cpy (pJ P a) (pJ P b) sp.toNatClampNeg dp.toNatClampNeg n.toNatClampNeg)))) := by rw [← hT']; rfl
  have oq : ∀ q : Nat, q ≠ b → (H.setIfInBounds b (vp_cell (cs 2) (pN P b, .inr (.inl (va_cpy (pJ P a) (pJ P b) sp.toNatClampNeg dp.toNatClampNeg n.toNatClampNeg)))))[q]? = H[q]? := fun q hq => by simp [Array.getElem?_setIfInBounds, Ne.symm hq]
  subst hT
  have hE : ∀ q, va_up (pE cs P) b (.inl (cs 2, pN P b, .inr (.inl (va_cpy (pJ P a) (pJ P b) sp.toNatClampNeg dp.toNatClampNeg n.toNatClampNeg)))) q = pE cs (pCl P a b sp.toNatClampNeg dp.toNatClampNeg n.toNatClampNeg) q := upA_E (pE_l (P := pCl P a b sp.toNatClampNeg dp.toNatClampNeg n.toNatClampNeg) gl ▸ (by simp [pCl, pN, pJ, va_up_self])) (fun q hq => pE_off (P := P) (T := pCl P a b sp.toNatClampNeg dp.toNatClampNeg n.toNatClampNeg) rfl rfl rfl (va_up_ne _ _ hq) rfl)
  obtain ⟨t, a1, b1⟩ := kk _ _ (ccopied (cl := vp_cell (cs 2) (pN P b, .inr (.inl (pJ P b)))) w gb hE rfl rfl rfl (show (H.setIfInBounds b _)[b]? = some (vp_cell (cs 2) (pN P b, .inr (.inl (va_cpy (pJ P a) (pJ P b) sp.toNatClampNeg dp.toNatClampNeg n.toNatClampNeg)))) by simp [Array.getElem?_setIfInBounds, hl]) (by simp) oq (fun q hq => by obtain ⟨z, -, hz⟩ := List.mem_map.mp hq; rw [← hz])) _ hheap X'
  exact ⟨t, step t a1, b1⟩
theorem cw_copyq (cx : mCx p s m args meth c own cc Ts nL ty) (hsub : ∀ w ∈ wsL_law, w ∈ Ts) (w : cWd D cs t0 A s P H locs) (hsz : ls.size = nL) {index : Nat} (hlink : Cond.methodLink own index arraycopyName ∈ wsL_law) (ha : kk P a 17 = true) (hbk : kk P b 17 = true) {sp dp n : Int32} (hq : cpk (pN P a) (pN P b) sp dp n = true) (hOs : isOs P a sp.toNatClampNeg n.toNatClampNeg = true) (hT : T = pCq P a b sp.toNatClampNeg dp.toNatClampNeg n.toNatClampNeg) (hframes : 1 ≤ R.frames) (hlocals : (rest.map fun v => v.category).sum + (nativeFrameWords "java/lang/System" "arraycopy" 5 + 11) ≤ R.locals) (hdg : decode cc pc = .ok (.invokestatic index, 3))
    (kk : ∀ (H1 : Heap) (locs1 : List Loc), cWd D cs t0 A s T H1 locs1 → W p l e R s m args below meth c H1 locs1 cells slots Q (F0 m (pc + 3) ls rest)) : W p l e R s m args below meth c H locs cells slots Q (F0 m pc ls (.int n :: .int dp :: .ref b :: .int sp :: .ref a :: rest)) := by
  obtain ⟨hx, hb, -, hts, hown, -, hml⟩ := cx
  obtain ⟨h1, h2, h3, h4, h5⟩ := cpk_e hq
  obtain ⟨ga, gk⟩ := kk_e ha
  obtain ⟨gb, gl⟩ := kk_e hbk
  obtain ⟨q0, hq0⟩ := pW_getE (cs := cs) ha pE_o
  obtain ⟨q1, hq1⟩ := pW_getE (cs := cs) hbk pE_o
  intro T' hT' X
  have hc0 : H[a]? = some (vp_cell (cs 6) (pN P a, .inr (.inr (.inr (.inr (pR P a)))))) := w.2.1 q0 _ hq0
  have hc1 : H[b]? = some (vp_cell (cs 6) (pN P b, .inr (.inr (.inr (.inr (pR P b)))))) := w.2.1 q1 _ hq1
  obtain ⟨-, k0, hk0, cm0, hkk0⟩ := (w.2.2.1.2 6 _ rfl).1 (pN P a) (fun j => va_rf (pR P a j))
  obtain ⟨-, k1, hk1, cm1, hkk1⟩ := (w.2.2.1.2 6 _ rfl).1 (pN P b) (fun j => va_rf (pR P b j))
  obtain ⟨vm', X', step⟩ := X.arraycopy hx hown (hts _ (hsub _ hlink)) (hts _ (hsub _ uac_n)) (hts _ (hsub _ uac_s)) (hts _ (hsub _ uac_i)) (src := a) (dst := b) (cs := vp_cell (cs 6) (pN P a, .inr (.inr (.inr (.inr (pR P a)))))) (cd := vp_cell (cs 6) (pN P b, .inr (.inr (.inr (.inr (pR P b)))))) (srcPos := sp) (destPos := dp) (n := n) (by rw [hT']; exact hc0) (by rw [hT']; exact hc1)
    (fun _ h => by cases h) (fun _ h => by cases h) (fun h => by cases h) (fun h => by cases h) hk0 hk1 hkk0 hkk1 rfl h1 h2 h3
    (by rw [cnn sp h1, cnn n h3]; show ¬ _ > ((arrV (cs 6) (pN P a) (fun j => va_rf (pR P a j))).slots.size : Int); rw [arrV_size]; omega)
    (by rw [cnn dp h2, cnn n h3]; show ¬ _ > ((arrV (cs 6) (pN P b) (fun j => va_rf (pR P b j))).slots.size : Int); rw [arrV_size]; omega)
    (fun vm₁ hal i hi => by
      have e : (vp_cell (cs 6) (pN P a, .inr (.inr (.inr (.inr (pR P a)))))).slots.getD (sp.toNatClampNeg + i) .null = va_rf (pR P a (sp.toNatClampNeg + i)) := by
        show (arrV (cs 6) (pN P a) (fun j => va_rf (pR P a j))).slots.getD _ _ = _
        rw [Array.getD_eq_getD_getElem?, arrV_read _ _ (by omega)]
        rfl
      rw [e]
      cases hy : pR P a (sp.toNatClampNeg + i) with
      | none => exact ⟨rfl, trivial⟩
      | some y =>
        have hO : isO P y = true := by
          have h9 := List.all_eq_true.mp hOs i (List.mem_range.mpr hi)
          rw [hy] at h9
          exact h9
        obtain ⟨cellV, g1, g2, ⟨kC, hkC⟩, hasg⟩ := isO_any w hO
        obtain ⟨kA, comp, r1, r2, r3, -⟩ := (w.2.2.1.2 6 _ rfl).2
        cases hk1.symm.trans r1
        cases hkk1.symm.trans r2
        obtain ⟨kE, hkE, -⟩ := Vm.findClass_spec r3
        obtain ⟨kC', hkC', -⟩ := hal.2.2 _ _ hkC
        obtain ⟨kE', hkE', -⟩ := hal.2.2 _ _ hkE
        refine ⟨rfl, cellV, (show T'.heap[y]? = some cellV by rw [hT']; exact g1), (fun q h => by rw [h] at g2; cases g2), ⟨kC', hkC'⟩, ?_, ?_⟩
        · exact ⟨kE', hkE'⟩
        · show vm₁.assignable _ _ = true
          rw [hal.assignable]
          exact hasg _ r3)
    (g := F0 m pc ls (.int n :: .int dp :: .ref b :: .int sp :: .ref a :: rest)) rfl (by rw [hml, hsz]) (rest := rest) rfl (by rw [hb]; exact hdg) hframes (by show 2 * 0 + _ + _ ≤ _; omega)
  have e1 : copied (vp_cell (cs 6) (pN P a, .inr (.inr (.inr (.inr (pR P a)))))) (vp_cell (cs 6) (pN P b, .inr (.inr (.inr (.inr (pR P b)))))) sp dp n = vp_cell (cs 6) (pN P b, .inr (.inr (.inr (.inr (va_cpy (pR P a) (pR P b) sp.toNatClampNeg dp.toNatClampNeg n.toNatClampNeg))))) := by
    first
      | exact va_copied (fun z => va_rf z) (cs 6) (cs 6) (pR P a) (pR P b) h4
      | (rw [vp_cell_q, vp_cell_q, vp_cell_q]; exact va_copied (fun z => va_rf z) (cs 6) (cs 6) (pR P a) (pR P b) h4)
  rw [e1] at X' step
  have hl : b < H.size := (Array.getElem?_eq_some_iff.mp hc1).1
  have hheap : ((T'.setVm vm').setCell b (vp_cell (cs 6) (pN P b, .inr (.inr (.inr (.inr (va_cpy (pR P a) (pR P b) sp.toNatClampNeg dp.toNatClampNeg n.toNatClampNeg))))))).heap = H.setIfInBounds b (vp_cell (cs 6) (pN P b, .inr (.inr (.inr (.inr (va_cpy (pR P a) (pR P b) sp.toNatClampNeg dp.toNatClampNeg n.toNatClampNeg)))))) := by rw [← hT']; rfl
  have oq : ∀ q : Nat, q ≠ b → (H.setIfInBounds b (vp_cell (cs 6) (pN P b, .inr (.inr (.inr (.inr (va_cpy (pR P a) (pR P b) sp.toNatClampNeg dp.toNatClampNeg n.toNatClampNeg)))))))[q]? = H[q]? := fun q hq => by simp [Array.getElem?_setIfInBounds, Ne.symm hq]
  subst hT
  have hE : ∀ q, va_up (pE cs P) b (.inl (cs 6, pN P b, .inr (.inr (.inr (.inr (va_cpy (pR P a) (pR P b) sp.toNatClampNeg dp.toNatClampNeg n.toNatClampNeg)))))) q = pE cs (pCq P a b sp.toNatClampNeg dp.toNatClampNeg n.toNatClampNeg) q := upA_E (pE_o (P := pCq P a b sp.toNatClampNeg dp.toNatClampNeg n.toNatClampNeg) gl ▸ (by simp [pCq, pN, pR, va_up_self])) (fun q hq => pE_off (P := P) (T := pCq P a b sp.toNatClampNeg dp.toNatClampNeg n.toNatClampNeg) rfl rfl rfl rfl (va_up_ne _ _ hq))
  obtain ⟨t, a1, b1⟩ := kk _ _ (ccopied (cl := vp_cell (cs 6) (pN P b, .inr (.inr (.inr (.inr (pR P b)))))) w gb hE rfl rfl rfl (show (H.setIfInBounds b _)[b]? = some (vp_cell (cs 6) (pN P b, .inr (.inr (.inr (.inr (va_cpy (pR P a) (pR P b) sp.toNatClampNeg dp.toNatClampNeg n.toNatClampNeg)))))) by simp [Array.getElem?_setIfInBounds, hl]) (by simp) oq (fun q hq => by obtain ⟨z, -, hz⟩ := List.mem_map.mp hq; rw [← hz])) _ hheap X'
  exact ⟨t, step t a1, b1⟩
theorem cw_getC (cx : mCx p s m args meth c own cc Ts nL ty) (hsub : ∀ w ∈ wsL_law, w ∈ Ts) (w : cWd D cs t0 A s P H locs) (hsz : ls.size = nL) {index : Nat} (hlink : Cond.methodLink own index ⟨"java/lang/Object", "getClass", "()Ljava/lang/Class;"⟩ ∈ wsL_law) (ha : kk P a 17 = true) (hframes : 1 ≤ R.frames) (hlocals : (rest.map fun v => v.category).sum + 14 ≤ R.locals) (hdg : decode cc pc = .ok (.invokevirtual index, 3))
    (kk : W p l e R s m args below meth c H locs cells slots Q (F0 m (pc + 3) ls (.ref t0.2.1 :: rest))) : W p l e R s m args below meth c H locs cells slots Q (F0 m pc ls (.ref a :: rest)) := by
  obtain ⟨hx, hb, -, hts, hown, -, hml⟩ := cx
  obtain ⟨q0, hq0⟩ := pW_getE (cs := cs) ha pE_o
  obtain ⟨_, _, -, -, -, g4⟩ := (w.2.2.1.2 6 _ rfl).2
  refine va_getC hx hb (by rw [hml, hsz]) hown (hts _ (hsub _ hlink)) (va_Dc.use w.2.2.2.2.2.2.1.2.2.2.2) (hts _ (hsub _ ugc_s)) (hts _ (hsub _ ugc_i)) (hts _ (hsub _ ugc_n)) w.2.2.2.2.2.2.2.2.2.1 ⟨_, w.2.1 q0 _ hq0, rfl, ?_⟩ hframes hlocals hdg kk
  exact g4
theorem cw_ldcM (cx : mCx p s m args meth c own cc Ts nL ty) (hsub : ∀ w ∈ wsL_law, w ∈ Ts) (w : cWd D cs t0 A s P H locs) {index : Nat} (hlink : Cond.classLink own index "[Ljava/lang/Object;" ∈ wsL_law) (hdg : decode cc pc = .ok (.ldc index, 2))
    (kk : W p l e R s m args below meth c H locs cells slots Q (F0 m (pc + 2) ls (.ref t0.2.1 :: rest))) : W p l e R s m args below meth c H locs cells slots Q (F0 m pc ls rest) := by
  obtain ⟨hx, hb, -, hts, hown, -, hml⟩ := cx
  exact va_ldcM hx hb hown (hts _ (hsub _ hlink)) w.2.2.2.2.2.2.2.2.2.1 hdg kk
end CCP
