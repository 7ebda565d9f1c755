-- the class: clauses
section PCR3
variable {t0 : TS} {P P' P'' : PS} {r b s g p q c : Nat} {T o : List Nat} {X Y : Nat → Prop} {z0 : Nat}
def RB (P : PS) (r g p : Nat) : Prop := pI P r 3 = nI p ∧ pI P r 4 = 0 ∧ pI P r 6 = nI g
theorem RQ.rb (h : RQ P r s g p o) : RB P r (g ||| fsm o) p := ⟨h.1, h.2.1, h.2.2.2.1⟩
theorem RB.at (h : RB P r g p) : RB (pIu P r 3 (nI q)) r g q := by
  obtain ⟨h1, h2, h3⟩ := h
  exact ⟨by rw [pIu_eq]; rfl, by rw [pIu_eq]; exact h2, by rw [pIu_eq]; exact h3⟩
theorem nI_any (a : Int32) : ∃ m, a = nI m := by
  refine ⟨a.toBitVec.toNat, ?_⟩
  apply Int32.toBitVec_inj.mp
  apply BitVec.eq_of_toNat_eq
  show a.toBitVec.toNat = a.toBitVec.toNat % 2 ^ 32
  exact (Nat.mod_eq_of_lt a.toBitVec.isLt).symm
theorem RB.bad (h : RB P r g p) : ∃ c, RF (pIu P r 4 1) r p c := by
  obtain ⟨h1, h2, h3⟩ := h
  obtain ⟨c, hc⟩ := nI_any (pI P r 5)
  exact ⟨c, by rw [pIu_eq]; exact h1, by rw [pIu_eq]; rfl, by rw [pIu_eq]; exact hc⟩
theorem c_exBl {i : Nat} (hi : i < 11) : ∀ (n k fuel p : Nat) (P : PS), RDR P r b s T → RB P r g p → p ≤ T.length → k + n = strL.getD i 0 → n < fuel → ∃ P', hm_X3_expectAll_2L t0 fuel r i (nI k) P = some (0, P') ∧ RFr r s P P' ∧ match rdW T ((lwd i).drop k) p with
    | (q, true) => RB P' r g q
    | (q, false) => ∃ c, RF P' r q c := by
  have l : lt11 i = true := decide_eq_true hi
  have h10 : strL.getD i 0 ≤ 10 := by
    have : ∀ i, i < 11 → strL.getD i 0 ≤ 10 := by decide
    exact this i hi
  intro n
  induction n with
  | zero =>
    intro k fuel p P h hq hp hk hfu
    obtain ⟨fu, rfl⟩ : ∃ fu, fuel = fu + 1 := ⟨fuel - 1, by omega⟩
    refine ⟨P, ?_, RFr.rf, ?_⟩
    · show hm_X3_expectAll_2 _ _ _ _ _ _ = _
      unfold hm_X3_expectAll_2
      rw [c_slen P hi, bd_s, l, ck_t, if_pos (by rw [le_n (by omega) (by omega)]; omega)]
    · have hl : ∀ i, i < 11 → (strB.getD i []).length = strL.getD i 0 := by decide
      rw [List.drop_eq_nil_of_le (by unfold lwd; rw [List.length_map, hl i hi]; omega)]
      exact hq
  | succ n ih =>
    intro k fuel p P h hq hp hk hfu
    obtain ⟨fu, rfl⟩ : ∃ fu, fuel = fu + 1 := ⟨fuel - 1, by omega⟩
    have hle : ¬ nI (strL.getD i 0) ≤ nI k := by rw [le_n (by omega) (by omega)]; omega
    have e1 : nI k + (1 : Int32) = nI (k + 1) := by rw [q1, nI_add]
    have hb : ∀ i, i < 11 → ∀ k, k < strL.getD i 0 → ((strB.getD i []).getD k 0).toNatClampNeg < 256 ∧ (strB.getD i []).getD k 0 = nI ((strB.getD i []).getD k 0).toNatClampNeg := by decide +kernel
    obtain ⟨b1, b2⟩ := hb i hi k (by omega)
    have ea := c_acc h hq.1 hq.2.1 hp b1 b2
    rw [lwd_get hi (by omega)]
    unfold rdW
    have step : ∀ Q, hm_X3_expectAll_2L t0 (fu + 1) r i (nI k) P = Q ↔ bd (hm_X3_accept P r ((strB.getD i []).getD k 0)) (fun r_211 P_210 => ck (kk P r 4) (if r_211 = (0 : Int32) then (ck (kk P_210 r 4) (hm_X3_expectAll_2L t0 fu r i (nI (k + 1)) (pIu P_210 r 4 1))) else hm_X3_expectAll_2L t0 fu r i (nI (k + 1)) P_210)) = Q := by
      intro Q
      show hm_X3_expectAll_2 _ _ _ _ _ _ = _ ↔ _
      unfold hm_X3_expectAll_2 hm_X3_expectAll_27
      rw [c_slen P hi, bd_s, l, ck_t, if_neg hle, c_chat t0 P i hi k (by omega), bd_s, ck_t, e1]
      exact Iff.rfl
    by_cases c : T[p]? = some ((strB.getD i []).getD k 0).toNatClampNeg
    · rw [if_pos c] at ea ⊢
      have hp1 := (List.getElem?_eq_some_iff.mp c).1
      have f1 : RFr r s P (pIu P r 3 (nI (p + 1))) := RFr.I (by decide)
      obtain ⟨P', e, f2, hx⟩ := ih (k + 1) fu (p + 1) (pIu P r 3 (nI (p + 1))) (h.fr f1) hq.at (by omega) (by omega) (by omega)
      refine ⟨P', ?_, f1.tr f2, hx⟩
      rw [step, ea, bd_s, h.1, ck_t, if_neg (by decide)]
      exact e
    · rw [if_neg c] at ea ⊢
      have f1 : RFr r s P (pIu P r 4 1) := RFr.I (by decide)
      obtain ⟨cc, hbad⟩ := hq.bad
      obtain ⟨P', e, f2, hf'⟩ := c_exfl (t0 := t0) h hi n (k + 1) fu (pIu P r 4 1) (h.fr f1) hbad (by omega) (by omega)
      refine ⟨P', ?_, f1.tr f2, cc, hf'⟩
      rw [step, ea, bd_s, h.1, ck_t, if_pos rfl, ck_t]
      exact e
theorem c_exB (h : RDR P r b s T) (hq : RB P r g p) (hp : p ≤ T.length) {i : Nat} (hi : i < 11) : ∃ P', hm_X3_expectAll t0 P r i = some (0, P') ∧ RFr r s P P' ∧ match rdW T (lwd i) p with
    | (q, true) => RB P' r g q
    | (q, false) => ∃ c, RF P' r q c := by
  have h10 : strL.getD i 0 ≤ 10 := by
    have : ∀ i, i < 11 → strL.getD i 0 ≤ 10 := by decide
    exact this i hi
  have := c_exBl (t0 := t0) (g := g) hi (strL.getD i 0) 0 4000 p P h hq hp (by omega) (by omega)
  rw [List.drop_zero] at this
  exact this
-- a new clause
theorem RDR.sam (h : RDR P r b s T) (g : SAM t0 z0 X Y P P') (hr : r < z0) (hb : b < z0) (hs : s < z0) (h1 : ¬ X r) (h2 : ¬ X b) (h3 : ¬ Y r) : RDR P' r b s T := by
  obtain ⟨a1, a2, a3, a4, a5, a6, a7, a8, a9, a10, a11, a12, a13⟩ := h
  refine ⟨g.kp a1, g.kp a2, g.kp a3, by rw [g.2.1 r hr h3]; exact a4, by rw [g.2.1 r hr h3]; exact a5, by rw [g.2.2.2.1 b hb]; exact a6, by rw [g.2.2.2.1 s hs]; exact a7, by rw [g.1 r hr h1]; exact a8, fun i c hc => by rw [g.1 b hb h2]; exact a9 i c hc, a10, a11, a12, a13⟩
theorem c_mkC (h : RDR P r b s T) (hz : CZ t0 P) {m : Nat} (hm : pI P r 5 = nI m) (hm1 : m < 100) {x y : Int32} : ∃ P', lt_ (pZ P) (fun z_107 => lt_ (pNew P 2 0) (fun P_108 => ck (kk P_108 r 4) (nn (pR P_108 r 1) (fun b_110 => bd (hm_J7_copyOf_59c91 P_108 b_110 (if (pI P_108 r 5) < (0 : Int32) then (0 : Int32) else (pI P_108 r 5))) (fun o_112 P_111 => nn o_112 (fun b_114 => bd (hm_X1_init P_111 z_107 x y b_114) (fun _ P_115 => some ((some z_107), P_115)))))))) = some (some (pZ P), P') ∧ SAM t0 (pZ P) (fun _ => False) (fun _ => False) P P' ∧ pI P' (pZ P) 0 = x ∧ pI P' (pZ P) 1 = y ∧ pR P' (pZ P) 2 = some (pZ P + 1) ∧ pN P' (pZ P + 1) = m ∧ (∀ i, i < m → pI P' (pZ P + 1) i = pI P s i) ∧ kk P' (pZ P) 2 = true ∧ kk P' (pZ P + 1) 12 = true ∧ pZ P' = pZ P + 2 := by
  have hrl := (kk_lt hz h.1).1
  have hbl := (kk_lt hz h.2.1).1
  have hsl := (kk_lt hz h.2.2.1).1
  have s1 : SAM t0 (pZ P) (fun _ => False) (fun _ => False) P (pNew P 2 0) := SAM.new hz (Nat.le_refl _)
  have k1 : kk (pNew P 2 0) (pZ P) 2 = true := pNew_kz
  have z1 : pZ (pNew P 2 0) = pZ P + 1 := pNew_Z
  generalize hz0 : pZ P = z at *
  simp only [lt_t]
  generalize pNew P 2 0 = N1 at *
  have h1 : RDR N1 r b s T := h.sam s1 hrl hbl hsl id id id
  have m1 : pI N1 r 5 = nI m := by rw [s1.1 r hrl id]; exact hm
  have v1 : pI N1 s = pI P s := s1.1 s hsl id
  have s2 : SAM t0 z (fun _ => False) (fun _ => False) P (pNew N1 12 m) := s1.aN (by omega)
  have k2 : kk (pNew N1 12 m) (pZ N1) 12 = true := pNew_kz
  have k2' : kk (pNew N1 12 m) z 2 = true := pNew_kk s1.cz.1 k1
  have z2 : pZ (pNew N1 12 m) = pZ N1 + 1 := pNew_Z
  have n2 : pN (pNew N1 12 m) (pZ N1) = m := pNew_Nz
  have v2 : pI (pNew N1 12 m) s = pI N1 s := pNew_I (by omega)
  have h2 : RDR (pNew N1 12 m) r b s T := h.sam s2 hrl hbl hsl id id id
  have hneg : ¬ nI m < 0 := nI_pos (n := m) (by omega)
  have hne : ¬ nI m = nI 100 := by rw [ne_n (by omega) (by decide)]; omega
  have hlt : nI m < nI 100 := by rw [lt_n (by omega) (by decide)]; exact hm1
  have hv : vle (nI m) 100 = true := decide_eq_true ⟨hneg, by rw [nI_clamp (by omega)]; omega⟩
  have c0 : (0 : Int32).toNatClampNeg = 0 := rfl
  have hcp : cpk 100 m (0 : Int32) (0 : Int32) (nI m) = true := decide_eq_true ⟨by decide, by decide, hneg, by rw [c0, nI_clamp (by omega)]; omega, by rw [c0, nI_clamp (by omega)]; omega⟩
  have ec : hm_J7_copyOf_59c91 N1 s (nI m) = some (some (pZ N1), pCi (pNew N1 12 m) s (pZ N1) 0 0 m) := by
    unfold hm_J7_copyOf_59c91
    rw [h1.2.2.1, ck_t, h1.2.2.2.2.2.2.1, if_neg hne, lt_t, hv, ck_t, lt_t, nI_clamp (by omega), h2.2.2.1, ck_t, h2.2.2.2.2.2.2.1, n2, if_pos hlt, hcp, ck_t, lt_t, c0, nI_clamp (by omega)]
  rw [z1] at ec k2 n2 z2
  rw [h1.1, ck_t, h1.2.2.2.2.1, nn_s, m1, if_neg hneg, ec, bd_s, nn_s]
  have hsz : s ≠ z + 1 := by omega
  have i3 : ∀ a, a ≠ z + 1 → pI (pCi (pNew N1 12 m) s (z + 1) 0 0 m) a = pI (pNew N1 12 m) a := fun a ha => va_up_ne _ _ ha
  have e3 : ∀ i, i < m → pI (pCi (pNew N1 12 m) s (z + 1) 0 0 m) (z + 1) i = pI P s i := fun i hi => by
    have : pI (pCi (pNew N1 12 m) s (z + 1) 0 0 m) (z + 1) = va_cpy (pI (pNew N1 12 m) s) (pI (pNew N1 12 m) (z + 1)) 0 0 m := va_up_self _ _ _
    rw [this]
    unfold va_cpy
    rw [v2, v1]
    simp [hi]
  have s3 : SAM t0 z (fun _ => False) (fun _ => False) P (pCi (pNew N1 12 m) s (z + 1) 0 0 m) := by
    obtain ⟨g1, g2, g3, g4, g5, g6, g7⟩ := s2
    exact ⟨fun a x y => by rw [i3 a (by omega)]; exact g1 a x y, g2, g3, g4, g5, g6, g7⟩
  have k3 : kk (pCi (pNew N1 12 m) s (z + 1) 0 0 m) (z + 1) 12 = true := k2
  have k3' : kk (pCi (pNew N1 12 m) s (z + 1) 0 0 m) z 2 = true := k2'
  have z3 : pZ (pCi (pNew N1 12 m) s (z + 1) 0 0 m) = z + 1 + 1 := z2
  have n3 : pN (pCi (pNew N1 12 m) s (z + 1) 0 0 m) (z + 1) = m := n2
  generalize pCi (pNew N1 12 m) s (z + 1) 0 0 m = N3 at *
  have hzz : z + 1 ≠ z := by omega
  refine ⟨pRu (pIu (pIu N3 z 0 x) z 1 y) z 2 (some (z + 1)), ?_, ((s3.aI (fun q => absurd q (Nat.lt_irrefl z))).aI (fun q => absurd q (Nat.lt_irrefl z))).aR (fun q => absurd q (Nat.lt_irrefl z)), ?_, ?_, ?_, ?_, fun i hi => ?_, ?_, ?_, ?_⟩
  · unfold hm_X1_init
    rw [k3', ck_t]
    simp only [lt_t]
    rw [bd_s]
  · simp [IR, pIu_eq, upd]
  · simp [IR, pIu_eq, upd]
  · rw [pRu_eq, va_up_self]
  · simp only [NR, NI]; exact n3
  · rw [IR, pIu_ne hzz, pIu_ne hzz]; exact e3 i hi
  · simp only [kkR, kkI]; exact k3'
  · simp only [kkR, kkI]; exact k3
  · simp only [ZR, ZI]; exact z3
-- the heads
theorem ixS0 : ∀ c, c < 256 → ixS 0 c = if c = 111 then some 0 else if c = 105 then some 1 else if c = 110 then some 2 else if c = 109 then some 3 else none := by decide +kernel
def NCl (P P' : PS) (t0 : TS) (r s g : Nat) (T : List Nat) : Nat × Option (Nat × Nat × List Nat) → Prop
  | (q, some cl) => RB P' r (g ||| (if cl.1 = 2 then 2 ^ cl.2.1 else 0) ||| fsm cl.2.2) q ∧ pI P' (pZ P) 0 = nI cl.1 ∧ pI P' (pZ P) 1 = nI cl.2.1 ∧ pR P' (pZ P) 2 = some (pZ P + 1) ∧ pN P' (pZ P + 1) = cl.2.2.length ∧ ∀ i t, cl.2.2[i]? = some t → pI P' (pZ P + 1) i = nI t
  | (q, none) => q ≤ T.length ∧ pI P' r 3 = nI q ∧ pI P' r 4 = 1
theorem c_rk37 (h : RDR P r b s T) (hz : CZ t0 P) (hq : RB P r g p) (hp : p ≤ T.length) (hp3 : 3 ≤ p) {v d : Nat} : ∃ P', hm_X3_readClause_37 t0 r (nI v) (nI d) P = some (some (pZ P), P') ∧ SAM t0 (pZ P) (fun a => a = r ∨ a = s) (fun _ => False) P P' ∧ pI P' r 2 = pI P r 2 ∧ kk P' (pZ P) 2 = true ∧ kk P' (pZ P + 1) 12 = true ∧ pZ P' = pZ P + 2 ∧ match rdC T (rdO T 4) p [] with
    | (q, some o) => RB P' r (g ||| fsm o) q ∧ pI P' (pZ P) 0 = nI v ∧ pI P' (pZ P) 1 = nI d ∧ pR P' (pZ P) 2 = some (pZ P + 1) ∧ pN P' (pZ P + 1) = o.length ∧ ∀ i t, o[i]? = some t → pI P' (pZ P + 1) i = nI t
    | (q, none) => q ≤ T.length ∧ pI P' r 3 = nI q ∧ pI P' r 4 = 1 := by
  have hrl := (kk_lt hz h.1).1
  have hsl := (kk_lt hz h.2.2.1).1
  have h1 : RDR (pIu P r 5 0) r b s T := h.at (by decide)
  have f1 : RFr r s P (pIu P r 5 0) := RFr.I (by decide)
  have hq1 : RQ (pIu P r 5 0) r s g p [] := by
    obtain ⟨a1, a2, a3⟩ := hq
    refine ⟨by rw [pIu_eq]; exact a1, by rw [pIu_eq]; exact a2, by rw [pIu_eq]; rfl, ?_, fun i t hi => by cases hi⟩
    have : fsm [] = 0 := rfl
    rw [pIu_eq, this, Nat.or_zero]
    exact a3
  obtain ⟨P2, e2, f2, hx⟩ := (c_rdc (t0 := t0) (r := r) (b := b) (s := s) (g := g) (T := T)).1 _ p [] h1 hq1 hp (by show 0 + 3 ≤ p; omega)
  have h2 := h1.fr f2
  have f := f1.tr f2
  have hZ : pZ P2 = pZ P := f.2.2.2.2.2.1
  have hz2 : CZ t0 P2 := by
    unfold CZ at *
    rw [f.2.2.2.2.1, hZ]
    exact hz
  have sam2 : SAM t0 (pZ P) (fun a => a = r ∨ a = s) (fun _ => False) P P2 := ⟨fun a _ x => f.2.2.2.2.2.2.1 a (fun z => x (Or.inl z)) (fun z => x (Or.inr z)), fun a _ _ => by rw [f.1], fun a _ => by rw [f.2.1], fun a _ => by rw [f.2.2.1], fun a c z => (f.k2 a c).trans z, by rw [hZ]; exact Nat.le_refl _, hz2⟩
  have fin : ∀ m, pI P2 r 5 = nI m → m < 100 → ∃ P', hm_X3_readClause_37 t0 r (nI v) (nI d) P = some (some (pZ P), P') ∧ SAM t0 (pZ P) (fun a => a = r ∨ a = s) (fun _ => False) P P' ∧ pI P' r 2 = pI P r 2 ∧ kk P' (pZ P) 2 = true ∧ kk P' (pZ P + 1) 12 = true ∧ pZ P' = pZ P + 2 ∧ pI P' r = pI P2 r ∧ pI P' (pZ P) 0 = nI v ∧ pI P' (pZ P) 1 = nI d ∧ pR P' (pZ P) 2 = some (pZ P + 1) ∧ pN P' (pZ P + 1) = m ∧ ∀ i, i < m → pI P' (pZ P + 1) i = pI P2 s i := by
    intro m hm hm1
    obtain ⟨P', e, sm, i0, i1, i2, i3, i4, i5, i6, i7⟩ := c_mkC h2 hz2 hm hm1 (x := nI v) (y := nI d)
    rw [hZ] at i0 i1 i2 i3 i4 i5 i6 i7 e sm
    have hr' : pI P' r = pI P2 r := sm.1 r (by omega) id
    have sm' : SAM t0 (pZ P) (fun a => a = r ∨ a = s) (fun _ => False) P2 P' := ⟨fun a x _ => sm.1 a x id, sm.2⟩
    refine ⟨P', ?_, sam2.tr sm', ?_, i5, i6, i7, hr', i0, i1, i2, i3, i4⟩
    · unfold hm_X3_readClause_37
      rw [h.1, ck_t, lt_t]
      have e2' : hm_X3_rd t0 16 false (pIu P r 5 0) r 0 = some (0, P2) := e2
      rw [e2', bd_s]
      rw [← hZ] at e ⊢
      exact e
    · rw [hr', f.2.2.2.2.2.2.2 2 (by decide)]
  cases hr : rdC T (rdO T 4) p [] with
  | mk q1 x =>
    rw [hr] at hx
    cases x with
    | none =>
      obtain ⟨a1, a2, c, a3, a4⟩ := hx
      have hT := h.tk.1
      have a3' : c + p ≤ 0 + q1 + 1 := a3
      obtain ⟨P', j1, j2, j3, j4, j5, j6, j7, -⟩ := fin c a4.2.2 (by omega)
      exact ⟨P', j1, j2, j3, j4, j5, j6, a2, by rw [j7]; exact a4.1, by rw [j7]; exact a4.2.1⟩
    | some o1 =>
      obtain ⟨a1, a2, a3, -⟩ := rdC_g (rdO_g 4) hr
      have hT := h.tk.1
      have a3' : o1.length + p ≤ 0 + q1 := a3
      obtain ⟨P', j1, j2, j3, j4, j5, j6, j7, j8, j9, j10, j11, j12⟩ := fin o1.length hx.2.2.1 (by omega)
      refine ⟨P', j1, j2, j3, j4, j5, j6, ⟨by rw [j7]; exact hx.1, by rw [j7]; exact hx.2.1, by rw [j7]; exact hx.2.2.2.1⟩, j8, j9, j10, j11, fun i t hi => ?_⟩
      rw [j12 i (List.getElem?_eq_some_iff.mp hi).1]
      exact hx.2.2.2.2 i t hi
theorem c_rk37f (h : RDR P r b s T) (hz : CZ t0 P) (hq : RF P r p c) {v d : Nat} : ∃ P', hm_X3_readClause_37 t0 r (nI v) (nI d) P = some (some (pZ P), P') ∧ SAM t0 (pZ P) (fun a => a = r ∨ a = s) (fun _ => False) P P' ∧ pI P' r 2 = pI P r 2 ∧ kk P' (pZ P) 2 = true ∧ kk P' (pZ P + 1) 12 = true ∧ pZ P' = pZ P + 2 ∧ pI P' r 3 = nI p ∧ pI P' r 4 = 1 := by
  have hrl := (kk_lt hz h.1).1
  have h1 : RDR (pIu P r 5 0) r b s T := h.at (by decide)
  have f1 : RFr r s P (pIu P r 5 0) := RFr.I (by decide)
  have hq1 : RF (pIu P r 5 0) r p 0 := by
    obtain ⟨a1, a2, a3⟩ := hq
    exact ⟨by rw [pIu_eq]; exact a1, by rw [pIu_eq]; exact a2, by rw [pIu_eq]; rfl⟩
  obtain ⟨P2, e2, f2, hx⟩ := (c_rdc (t0 := t0) (r := r) (b := b) (s := s) (g := 0) (T := T)).2 _ p 0 h1 hq1 (by decide)
  have h2 := h1.fr f2
  have f := f1.tr f2
  have hZ : pZ P2 = pZ P := f.2.2.2.2.2.1
  have hz2 : CZ t0 P2 := by
    unfold CZ at *
    rw [f.2.2.2.2.1, hZ]
    exact hz
  have sam2 : SAM t0 (pZ P) (fun a => a = r ∨ a = s) (fun _ => False) P P2 := ⟨fun a _ x => f.2.2.2.2.2.2.1 a (fun z => x (Or.inl z)) (fun z => x (Or.inr z)), fun a _ _ => by rw [f.1], fun a _ => by rw [f.2.1], fun a _ => by rw [f.2.2.1], fun a c z => (f.k2 a c).trans z, by rw [hZ]; exact Nat.le_refl _, hz2⟩
  obtain ⟨P', e, sm, i0, i1, i2, i3, i4, i5, i6, i7⟩ := c_mkC h2 hz2 hx.2.2 (by decide) (x := nI v) (y := nI d)
  rw [hZ] at i5 i6 i7 e sm
  have hr' : pI P' r = pI P2 r := sm.1 r (by omega) id
  have sm' : SAM t0 (pZ P) (fun a => a = r ∨ a = s) (fun _ => False) P2 P' := ⟨fun a x _ => sm.1 a x id, sm.2⟩
  refine ⟨P', ?_, sam2.tr sm', by rw [hr', f.2.2.2.2.2.2.2 2 (by decide)], i5, i6, i7, by rw [hr']; exact hx.1, by rw [hr']; exact hx.2.1⟩
  unfold hm_X3_readClause_37
  rw [h.1, ck_t, lt_t]
  have e2' : hm_X3_rd t0 16 false (pIu P r 5 0) r 0 = some (0, P2) := e2
  rw [e2', bd_s]
  rw [← hZ] at e ⊢
  exact e
end PCR3
