-- the class: way told
section PCWY
variable {t0 : TS} {ad ad' : DD} {A : AA} {P P' : PS} {st : List Nat}
def SK (ad : DD) (P : PS) : List Nat → Prop
  | [] => True
  | v :: st => pR P (ad 16) st.length = some (ad (50 + v)) ∧ SK ad P st
def W9 (t0 : TS) (ad : DD) (A : AA) (P : PS) (st : List Nat) : Prop := LW t0 P (ad 9) (ad 16) st.length ∧ SK ad P st ∧ ∀ v ∈ st, v < aN A
theorem SK_el (hN : aN A ≤ 14) (h : CC t0 ad A P) : ∀ {st : List Nat}, SK ad P st → (∀ v ∈ st, v < aN A) → ∀ k, k < st.length → ∃ y, pR P (ad 16) k = some y ∧ isO P y = true
  | [], _, _, k, hk => absurd hk (Nat.not_lt_zero _)
  | v :: st, hs, hv, k, hk => by
    by_cases c : k = st.length
    · subst c
      refine ⟨_, hs.1, ?_⟩
      unfold isO
      rw [h.kW hN (hv v List.mem_cons_self)]
      rfl
    · exact SK_el hN h hs.2 (fun x hx => hv x (List.mem_cons_of_mem _ hx)) k (by have : k < st.length + 1 := hk; omega)
theorem SK_fr (e : ∀ v, ad' (50 + v) = ad (50 + v)) (hr : ∀ k, k < st.length → pR P' (ad' 16) k = pR P (ad 16) k) (h : SK ad P st) : SK ad' P' st := by
  induction st with
  | nil => trivial
  | cons v st ih =>
    refine ⟨?_, ih (fun k hk => hr k (by show k < st.length + 1; omega)) h.2⟩
    rw [hr st.length (by show st.length < st.length + 1; omega), e v]
    exact h.1
theorem CC.f9 (hW : WF A) (h : CC t0 ad A P) (F : FRM ad ad' A P P' (fun i => i = 9) (fun i => i = 9 ∨ i = 16)) (h9 : C9 t0 ad' P') (cext : CKI t0 ad' A P') (hz : CZ t0 P') : CC t0 ad' A P' := by
  have hN := wfN hW
  have had := F.1
  refine ⟨h.1.fM F (fun i x1 x2 x3 z => by omega), h.2.1.fM F (fun q hq => by omega), ⟨h.ws.fM F (lv_i (by decide)) (Or.inl rfl) (by omega) (by omega) (by omega) (fun j hj => had _ (lv_w hj).1), fun v hv => (h.w hv).fM hW F hv (by omega) (by omega) (by omega) (by omega) (by omega)⟩, ⟨h.rs.fM F (lv_i (by decide)) (Or.inr (Or.inl rfl)) (by omega) (by omega) (by omega) (fun j hj => had _ (lv_r hj).1), fun r hr => (h.ru hr).fM hW F hr (fun i hi => ⟨by omega, by omega⟩)⟩, h.2.2.2.2.1.fM F (by omega) (by omega), h.now.fM F (by omega), h.2.2.2.2.2.2.1.fM F (fun t ht => by omega), h.2.2.2.2.2.2.2.1.fM F (by omega) (by omega), h9, cext, hz⟩
theorem b16 : bk A 16 := Or.inr (Or.inr (Or.inl rfl))
-- nothing new, only the list 9 and its row 16
def Z9 (t0 : TS) (l b : Nat) (P P' : PS) : Prop := (∀ a, a ≠ l → pI P' a = pI P a) ∧ (∀ a, a ≠ b ∨ b = t0.1 → pR P' a = pR P a) ∧ pJ P' = pJ P ∧ pN P' = pN P ∧ pL P' = pL P ∧ pK P' = pK P ∧ pZ P' = pZ P
theorem Z9.k2 {l b : Nat} (z : Z9 t0 l b P P') (a c : Nat) : kk P' a c = kk P a c := by
  unfold kk
  rw [z.2.2.2.2.1, z.2.2.2.2.2.1]
theorem Z9.cz {l b : Nat} (z : Z9 t0 l b P P') (h : CZ t0 P) : CZ t0 P' := by
  unfold CZ at *
  rw [z.2.2.2.2.1, z.2.2.2.2.2.2]
  exact h
theorem Z9.frm (h : CC t0 ad A P) (z : Z9 t0 (ad 9) (ad 16) P P') : FRM ad ad A P P' (fun i => i = 9) (fun i => i = 9 ∨ i = 16) := by
  obtain ⟨z1, z2, z3, z4, z5, z6, z7⟩ := id z
  refine ⟨fun _ _ => rfl, fun i hi hn => z1 _ (h.ne hi (lv_i (by decide)) hn), fun i hi hn => z2 _ (Or.inl (Ne.symm (h.lb hi b16))), fun i hi => by rw [z3], fun i hi => by rw [z4], fun i c hi hc => (z.k2 _ _).trans hc, fun j hj hn => ⟨rfl, z2 _ ?_, by rw [z4], fun hc => (z.k2 _ _).trans hc⟩⟩
  by_cases q : ad 16 = t0.1
  · exact Or.inr q
  · exact Or.inl (h.bb b16 hj (fun e => hn (Or.inr e.symm)) q)
theorem Z9.cc (hW : WF A) (h : CC t0 ad A P) (z : Z9 t0 (ad 9) (ad 16) P P') {n : Nat} (h9 : LW t0 P' (ad 9) (ad 16) n) : CC t0 ad A P' := h.f9 hW (z.frm h) ⟨n, h9⟩ ⟨fun i hi => (z.k2 _ _).trans (h.k hi), h.2.2.2.2.2.2.2.2.2.1.2⟩ (z.cz h.z)
theorem c_clrl {b m : Nat} (hm : m ≤ 60) : ∀ (n k fuel : Nat) (P : PS), k + n = m → n < fuel → (kk P b 17 = true ∧ m ≤ pN P b ∧ b ≠ t0.1) ∨ (m = 0 ∧ b = t0.1) → ∃ Q, hm_Jx4a65c_clear_da8c8_27L fuel b (nI m) (nI k) P = some (0, Q) ∧ Z9 t0 0 b P Q ∧ pI Q = pI P := by
  intro n
  induction n with
  | zero =>
    intro k fuel P hk hf hb
    obtain ⟨fu, rfl⟩ : ∃ fu, fuel = fu + 1 := ⟨fuel - 1, by omega⟩
    refine ⟨P, ?_, ⟨fun _ _ => rfl, fun _ _ => rfl, rfl, rfl, rfl, rfl, rfl⟩, rfl⟩
    show hm_Jx4a65c_clear_da8c8_27 _ _ _ _ _ = _
    unfold hm_Jx4a65c_clear_da8c8_27
    rw [if_pos (by rw [le_n (by omega) (by omega)]; omega)]
  | succ n ih =>
    intro k fuel P hk hf hb
    obtain ⟨fu, rfl⟩ : ∃ fu, fuel = fu + 1 := ⟨fuel - 1, by omega⟩
    obtain ⟨b1, b2, b3⟩ : kk P b 17 = true ∧ m ≤ pN P b ∧ b ≠ t0.1 := by
      rcases hb with z | z
      · exact z
      · omega
    have e1 : nI k + (1 : Int32) = nI (k + 1) := by rw [q1, nI_add]
    obtain ⟨Q, eQ, zQ, iQ⟩ := ih (k + 1) fu (pRu P b k none) (by omega) (by omega) (Or.inl ⟨b1, b2, b3⟩)
    refine ⟨Q, ?_, ?_, iQ⟩
    · show hm_Jx4a65c_clear_da8c8_27 _ _ _ _ _ = _
      unfold hm_Jx4a65c_clear_da8c8_27
      have hle : ¬ nI m ≤ nI k := by rw [le_n (by omega) (by omega)]; omega
      simp only [ck_t, nn_s, bd_s, lt_t, if_neg hle, b1, vin_n (show k < 2 ^ 31 by omega), decide_eq_true (show k < pN P b by omega), nI_clamp (show k < 2 ^ 31 by omega), e1]
      exact eQ
    · obtain ⟨z1, z2, z3, z4, z5, z6, z7⟩ := zQ
      refine ⟨fun a ha => by rw [iQ]; rfl, fun a ha => ?_, z3, z4, z5, z6, z7⟩
      rw [z2 a ha, pRu_ne (ha.resolve_right b3)]
theorem Z9.cong {l b : Nat} {Q : PS} (h : Z9 t0 0 b P Q) (hI : pI Q = pI P) {P0 : PS} (g : Z9 t0 l b P0 P) : Z9 t0 l b P0 Q := by
  obtain ⟨h1, h2, h3, h4, h5, h6, h7⟩ := h
  obtain ⟨g1, g2, g3, g4, g5, g6, g7⟩ := g
  exact ⟨fun a ha => by rw [hI]; exact g1 a ha, fun a ha => (h2 a ha).trans (g2 a ha), h3.trans g3, h4.trans g4, h5.trans g5, h6.trans g6, h7.trans g7⟩
theorem c_clear (hW : WF A) (h : CC t0 ad A P) : ∃ P', hm_Jx4a65c_clear_da8c8 P (ad 9) = some (0, P') ∧ CC t0 ad A P' ∧ W9 t0 ad A P' [] := by
  obtain ⟨n, h9⟩ := h.2.2.2.2.2.2.2.2.1
  obtain ⟨x1, x2, x3, x4, x5⟩ := id h9
  have hn16 : kk P (ad 16) 17 = true → ad 16 ≠ t0.1 := fun z => (kk_lt h.z z).2
  have z0 : Z9 t0 (ad 9) (ad 16) P (pIu (pIu P (ad 9) 0 (pI P (ad 9) 0 + 1)) (ad 9) 2 0) := ⟨fun a ha => by rw [pIu_ne ha, pIu_ne ha], fun _ _ => rfl, rfl, rfl, rfl, rfl, rfl⟩
  obtain ⟨Q, eQ, zQ, iQ⟩ := c_clrl (t0 := t0) (b := ad 16) (m := n) x4 n 0 4000 (pIu (pIu P (ad 9) 0 (pI P (ad 9) 0 + 1)) (ad 9) 2 0) (by omega) (by omega) (by
    rcases x5 with z | z
    · exact Or.inl ⟨z.1, z.2.1, hn16 z.1⟩
    · exact Or.inr ⟨z.2, z.1⟩)
  have z1 := zQ.cong iQ z0
  have l9 : LW t0 Q (ad 9) (ad 16) 0 := by
    refine ⟨(z1.k2 _ _).trans x1, ?_, ?_, by decide, ?_⟩
    · rw [z1.2.1 _ (Or.inl (Ne.symm (h.lb (lv_i (by decide)) b16)))]; exact x2
    · rw [iQ, pIu_eq]; rfl
    · rcases x5 with z | z
      · exact Or.inl ⟨(z1.k2 _ _).trans z.1, by rw [z1.2.2.2.1]; exact ⟨Nat.zero_le _, z.2.2⟩⟩
      · exact Or.inr ⟨z.1, rfl⟩
  refine ⟨Q, ?_, z1.cc hW h l9, l9, trivial, fun v hv => absurd hv List.not_mem_nil⟩
  have e2 : pI (pIu P (ad 9) 0 (pI P (ad 9) 0 + 1)) (ad 9) 2 = nI n := by rw [pIu_eq]; exact x3
  unfold hm_Jx4a65c_clear_da8c8
  simp only [ck_t, nn_s, bd_s, lt_t, x1, pIu_R, x2, e2]
  exact eQ
theorem c_push (hW : WF A) (h : CC t0 ad A P) (h9 : W9 t0 ad A P st) (hst : st.length ≤ 41) {v : Nat} (hv : v < aN A) : ∃ b' P', hm_Jx4a65c_add_9ea2d t0 P (ad 9) (ad (50 + v)) = some (1, P') ∧ CC t0 (adB ad 16 b') A P' ∧ W9 t0 (adB ad 16 b') A P' (v :: st) := by
  have hN := wfN hW
  obtain ⟨l9, sk, hv9⟩ := h9
  obtain ⟨P', b', e, g⟩ := c_add (x := ad (50 + v)) l9 h.z (by unfold isO; rw [h.kW hN hv]; rfl) (by omega) (fun _ => SK_el hN h sk hv9)
  have had : ∀ i, i ≠ 16 → adB ad 16 b' i = ad i := fun i x => if_neg x
  have a16 : adB ad 16 b' 16 = b' := if_pos rfl
  have hadl : ∀ i, lv A i → adB ad 16 b' i = ad i := fun i hi => by
    have := lvx hi
    exact had i (by omega)
  have lv9 : lv A 9 := lv_i (by decide)
  have s : SAM t0 (pZ P) (fun a => a = ad 9) (fun a => a = ad 9 ∨ (a = ad 16 ∧ ad 16 ≠ t0.1)) P P' := g.sam (Nat.le_refl _) rfl (Or.inl rfl) (fun x _ => Or.inr ⟨rfl, x⟩)
  have F : FRM ad (adB ad 16 b') A P P' (fun i => i = 9) (fun i => i = 9 ∨ i = 16) := by
    refine s.frm h hadl (fun j hj hn' => had j (fun z => hn' (Or.inr z))) (fun i hi x => Classical.byContradiction (fun q => h.ne hi lv9 q x)) (fun i hi x => ?_)
    rcases x with x | ⟨x, y⟩
    · rcases hi with hi | hi
      · exact Or.inl (Classical.byContradiction (fun q => h.ne hi lv9 q x))
      · exact absurd x (h.lb lv9 hi)
    · rcases hi with hi | hi
      · exact absurd x.symm (h.lb hi b16)
      · exact Or.inr (Classical.byContradiction (fun q => h.bb b16 hi (Ne.symm q) y x))
  have cext : CKI t0 (adB ad 16 b') A P' := by
    refine h.ext s.2.2.2.2.1 (fun i hi => Or.inl ⟨hi, hadl i hi⟩) (fun i j hi hj x y => ?_) (fun j hj => ?_) (fun i j hi hj x y => ?_)
    · rw [hadl i hi] at x
      have := (h.lz hi).1
      omega
    · by_cases q : j = 16
      · subst q
        rw [a16]
        rcases g.2.2.2.1 with z | z
        · exact Or.inl ⟨b16, z⟩
        · exact Or.inr (Or.inl (by omega))
      · exact Or.inl ⟨hj, had j q⟩
    · have key : ∀ j, bk A j → pZ P ≤ adB ad 16 b' j → j = 16 := fun j hj x => Classical.byContradiction (fun q => by
        rw [had j q] at x
        have := h.bz hj
        omega)
      rw [key i hi x, key j hj (y ▸ x)]
  have l9' : LW t0 P' (adB ad 16 b' 9) (adB ad 16 b' 16) (v :: st).length := by
    rw [had 9 (by decide), a16]
    exact g.1
  refine ⟨b', P', e, h.f9 hW F ⟨_, l9'⟩ cext s.2.2.2.2.2.2, l9', ⟨?_, ?_⟩, fun x hx => ?_⟩
  · rw [a16, had _ (by omega)]
    exact g.2.2.1
  · exact SK_fr (fun x => had _ (by omega)) (fun k hk => by rw [a16]; exact g.2.1 k hk) sk
  · rcases List.mem_cons.mp hx with z | z
    · exact z ▸ hv
    · exact hv9 x z
theorem c_pop (hW : WF A) (h : CC t0 ad A P) {v : Nat} (h9 : W9 t0 ad A P (v :: st)) : ∃ P', hm_Jx4a65c_remove_915e3 P (ad 9) (nI (v :: st).length - (1 : Int32)) = some (some (ad (50 + v)), P') ∧ CC t0 ad A P' ∧ W9 t0 ad A P' st := by
  obtain ⟨l9, ⟨s1, sk⟩, hv9⟩ := h9
  obtain ⟨x1, x2, x3, x4, x5⟩ := id l9
  have hlen : (v :: st).length = st.length + 1 := rfl
  rw [hlen] at x3 x4 x5 ⊢
  obtain ⟨y1, y2, y3⟩ : kk P (ad 16) 17 = true ∧ st.length + 1 ≤ pN P (ad 16) ∧ pN P (ad 16) ≤ 64 ∧ 10 ≤ pN P (ad 16) := by
    rcases x5 with z | z
    · exact z
    · omega
  have hn16 := (kk_lt h.z y1).2
  have e1 : nI (st.length + 1) - (1 : Int32) = nI st.length := by rw [q1, pk_sub (by omega)]; rfl
  have z0 : Z9 t0 (ad 9) (ad 16) P (pRu (pIu (pIu P (ad 9) 0 (pI P (ad 9) 0 + 1)) (ad 9) 2 (nI st.length)) (ad 16) st.length none) := ⟨fun a ha => by rw [pRu_I, pIu_ne ha, pIu_ne ha], fun a ha => pRu_ne (ha.resolve_right hn16), rfl, rfl, rfl, rfl, rfl⟩
  have l9' : LW t0 (pRu (pIu (pIu P (ad 9) 0 (pI P (ad 9) 0 + 1)) (ad 9) 2 (nI st.length)) (ad 16) st.length none) (ad 9) (ad 16) st.length := by
    refine ⟨x1, ?_, ?_, by omega, Or.inl ⟨y1, by rw [pRu_N]; exact ⟨Nat.le_of_succ_le y2, y3⟩⟩⟩
    · rw [pRu_ne (Ne.symm (h.lb (lv_i (by decide)) b16))]; exact x2
    · rw [pRu_I, pIu_eq]; rfl
  refine ⟨_, ?_, z0.cc hW h l9', l9', SK_fr (fun _ => rfl) (fun k hk => ?_) sk, fun x hx => hv9 x (List.mem_cons_of_mem _ hx)⟩
  · have e2 : pI (pIu P (ad 9) 0 (pI P (ad 9) 0 + 1)) (ad 9) 2 = nI (st.length + 1) := by rw [pIu_eq]; exact x3
    have hneg : ¬ nI st.length < 0 := nI_pos (n := st.length) (by omega)
    have hlt : nI st.length < nI (st.length + 1) := by rw [lt_n (by omega) (by omega)]; omega
    have hle : nI st.length ≤ nI st.length := by rw [le_n (by omega) (by omega)]; exact Nat.le_refl _
    unfold hm_Jx4a65c_remove_915e3 hm_Jx4a65c_fastRemove_b59b0 hm_J15_checkIndex_7cf53 hm_J3_checkIndex_8e157
    simp only [ck_t, nn_s, bd_s, lt_t, x1, x3, e1, if_neg hneg, if_pos hlt, x2, y1, vin_n (show st.length < 2 ^ 31 by omega), decide_eq_true (show st.length < pN P (ad 16) by omega), nI_clamp (show st.length < 2 ^ 31 by omega), s1, e2, if_pos hle, pIu_kk, pIu_N]
  · rw [pRu_eq, va_up_ne _ _ (by omega)]
    rfl
theorem c_lpl (hW : WF A) {w : Nat} (hw : w < aN A) : ∀ (k fuel : Nat) (ad : DD) (P : PS) (st : List Nat), CC t0 ad A P → W9 t0 ad A P st → k ≤ (aP A w).length → k < fuel → st.length + k ≤ 42 → ∃ ad' P', hm_X8_letPartsWait_10L t0 fuel (ad 0) (ad (50 + w)) (nI k - nI 1) P = some (0, P') ∧ CC t0 ad' A P' ∧ W9 t0 ad' A P' ((aP A w).take k ++ st) ∧ ∀ i, i ≠ 16 → ad' i = ad i := by
  have hN := wfN hW
  intro k
  induction k with
  | zero =>
    intro fuel ad P st h h9 hk hf hs
    obtain ⟨fu, rfl⟩ : ∃ fu, fuel = fu + 1 := ⟨fuel - 1, by omega⟩
    refine ⟨ad, P, ?_, h, h9, fun _ _ => rfl⟩
    show hm_X8_letPartsWait_10 _ _ _ _ _ _ = _
    unfold hm_X8_letPartsWait_10
    rw [if_pos (show nI 0 - nI 1 < 0 by decide)]
  | succ k ih =>
    intro fuel ad P st h h9 hk hf hs
    obtain ⟨fu, rfl⟩ : ∃ fu, fuel = fu + 1 := ⟨fuel - 1, by omega⟩
    have hpl := wfPl hW w
    have hp := parts_lt hW hw (k := k) (by omega)
    have hpn : (aP A w).getD k 0 < aN A := by omega
    obtain ⟨b', P1, e1, h1, w1⟩ := c_push hW h h9 (by omega) hpn
    have a0 : adB ad 16 b' 0 = ad 0 := if_neg (by decide)
    have aw : adB ad 16 b' (50 + w) = ad (50 + w) := if_neg (by omega)
    obtain ⟨ad2, P2, e2, h2, w2, hd2⟩ := ih fu (adB ad 16 b') P1 _ h1 w1 (by omega) (by omega) (by show st.length + 1 + k ≤ 42; omega)
    rw [a0, aw] at e2
    refine ⟨ad2, P2, ?_, h2, ?_, fun i hi => (hd2 i hi).trans (if_neg hi)⟩
    · obtain ⟨-, -, -, -, -, -, f5, ls⟩ := h.w hw
      have f8 := h.r.2.2.2.2.2.2.2.2.1
      have e3 : nI (k + 1) - nI 1 = nI k := by rw [pk_sub (by omega)]; rfl
      have e4 : nI k + (-1 : Int32) = nI k - nI 1 := (Int32.sub_eq_add_neg _ _).symm
      have hneg : ¬ nI k < 0 := nI_pos (n := k) (by omega)
      show hm_X8_letPartsWait_10 _ _ _ _ _ _ = _
      unfold hm_X8_letPartsWait_10
      simp only [ck_t, nn_s, bd_s, lt_t, e3, if_neg hneg, h.k0, f8, h.kW hN hw, f5, ls.gt (show k < (aP A w).length by omega), ls.k, h.kW hN hpn, e1, h.k9, e4]
      exact e2
    · have : (aP A w).take (k + 1) ++ st = (aP A w).take k ++ ((aP A w).getD k 0 :: st) := by
        rw [List.take_succ_eq_append_getElem (by omega), List.append_assoc, List.getD_eq_getElem?_getD, List.getElem?_eq_getElem (by omega)]
        rfl
      rw [this]
      exact w2
theorem c_lpw (hW : WF A) (h : CC t0 ad A P) (h9 : W9 t0 ad A P st) {w : Nat} (hw : w < aN A) (hs : st.length + (aP A w).length ≤ 42) : ∃ ad' P', hm_X8_letPartsWait t0 P (ad 0) (ad (50 + w)) = some (0, P') ∧ CC t0 ad' A P' ∧ W9 t0 ad' A P' (aP A w ++ st) ∧ ∀ i, i ≠ 16 → ad' i = ad i := by
  have hpl := wfPl hW w
  obtain ⟨ad2, P2, e2, h2, w2, hd2⟩ := c_lpl hW hw (aP A w).length 6 ad P st h h9 (Nat.le_refl _) (by omega) (by omega)
  rw [List.take_length] at w2
  refine ⟨ad2, P2, ?_, h2, w2, hd2⟩
  obtain ⟨-, -, -, -, -, -, f5, ls⟩ := h.w hw
  unfold hm_X8_letPartsWait
  simp only [ck_t, nn_s, bd_s, lt_t, h.kW (wfN hW) hw, f5, ls.sz, ls.k]
  exact e2
theorem c_tget (hW : WF A) (h : CC t0 ad A P) {t i : Nat} (ht : t < 6) (hi : i < aTl A t) : hm_X6_get P (ad (30 + t)) (nI i) = some (aTi A t i, P) := by
  have hl := tl60 hW ht
  obtain ⟨-, j2, j5⟩ := h.2.2.2.2.2.2.1 t ht
  obtain ⟨-, j3, j4⟩ := h.1.2.2.2.2.1 t ht
  have hx : ix (aTl A t) (nI i) = some i := ix_i hi (by omega)
  unfold hm_X6_get
  simp only [ck_t, nn_s, bd_s, lt_t, c_hasP hW h ht, h.kT ht, j3, h.kJ ht, j4, hx]
  rw [if_neg (isome_n rfl), vin_n (by omega), decide_eq_true (show i < 60 by omega), ck_t, nI_clamp (by omega), j5 i (by omega)]
theorem c_rl (hW : WF A) (h : CC t0 ad A P) {t l w e : Nat} {a2 x8 : Int32} {io : Option Nat} (hio : io = ix 60 a2) (ht : t < 6) (hl : l < 2) (hw : w < aN A) (he : e < 4) {k26 : Nat → Nat → Int32 → Int32 → Int32 → Int32 → Int32 → PS → Option (Int32 × PS)} : ∀ (n k fuel c : Nat), k + n = aR A → n < fuel → c ≤ 60 → (io = none → c = 0) → hm_X8_rightlyTold_67L t0 k26 fuel (ad 0) (ad (30 + t)) a2 (nI l) (nI c) (nI e) x8 (ad (50 + w)) (nI k) P = match wrl A t io l w e (List.range' k n) c with
    | (false, x) => some (nI x, P)
    | (true, x) => if e = 1 then hm_X8_rightlyTold_178 t0 k26 (ad 0) (ad (30 + t)) a2 (nI l) (nI x) x8 P else bd (hm_X8_letPartsWait t0 P (ad 0) (ad (50 + w))) (fun _ P' => hm_X8_rightlyTold_178 t0 k26 (ad 0) (ad (30 + t)) a2 (nI l) (nI x) x8 P') := by
  have hR := wfR hW
  have hl60 := tl60 hW ht
  obtain ⟨-, -, f2, -, f4, -⟩ := h.r
  have ls := h.rs
  intro n
  induction n with
  | zero =>
    intro k fuel c hk hf hc hn
    obtain ⟨fu, rfl⟩ : ∃ fu, fuel = fu + 1 := ⟨fuel - 1, by omega⟩
    show hm_X8_rightlyTold_67 _ _ _ _ _ _ _ _ _ _ _ _ _ = _
    unfold hm_X8_rightlyTold_67
    have hle : nI (aR A) ≤ nI k := by rw [le_n (by omega) (by omega)]; omega
    simp only [ck_t, nn_s, bd_s, lt_t, h.k0, f2, ls.sz, ls.k, if_pos hle]
    show _ = if e = 1 then _ else _
    by_cases q : e = 1
    · rw [if_pos q, if_pos (by rw [q]; rfl)]
    · rw [if_neg q, if_neg (by rw [q1, ne_n (by omega) (by decide)]; exact q)]
  | succ n ih =>
    intro k fuel c hk hf hc hn
    obtain ⟨fu, rfl⟩ : ∃ fu, fuel = fu + 1 := ⟨fuel - 1, by omega⟩
    have hk' : k < aR A := by omega
    have hL := wfL hW hk'
    obtain ⟨-, r1, -⟩ := h.ru hk'
    have e1 : nI k + (1 : Int32) = nI (k + 1) := by rw [q1, nI_add]
    have e3 : nI c + (1 : Int32) = nI (c + 1) := by rw [q1, nI_add]
    have e2 : nI (aL A k) = nI l ↔ aL A k = l := by rw [ne_n (by omega) (by omega)]
    have hle : ¬ nI (aR A) ≤ nI k := by rw [le_n (by omega) (by omega)]; omega
    have hv := c_holding hW h (c_nowv hW h) hk' hw he
    rw [vS_0] at hv
    show hm_X8_rightlyTold_67 _ _ _ _ _ _ _ _ _ _ _ _ _ = _
    unfold hm_X8_rightlyTold_67 hm_X8_rightlyTold_160
    simp only [ck_t, nn_s, bd_s, lt_t, h.k0, f2, ls.sz, ls.k, if_neg hle, ls.gt hk', h.kR hR hk', r1, e1, c_hasP hW h ht, h.kT ht, f4, hv, c_cow hW h hk']
    rw [List.range'_succ]
    unfold wrl
    by_cases z : aL A k = l
    · rw [if_pos (e2.mpr z), if_pos z]
      cases hi : ix 60 a2 with
      | none =>
        rw [hi] at hio
        subst hio
        have c0 := hn rfl
        subst c0
        have hx : ix (aTl A t) (a2 + nI 0) = none := by
          rw [show a2 + nI 0 = a2 from Int32.add_zero a2]
          unfold ix
          rcases ix_n hi with y | y
          · exact if_pos (Or.inl y)
          · refine if_pos (Or.inr ?_)
            have y1 : nI (aTl A t) ≤ nI 60 := by rw [le_n (by omega) (by decide)]; exact hl60
            exact Int32.le_trans y1 y
        rw [hx, if_pos (show nI (Option.isSome (none : Option Nat)).toNat = 0 from rfl)]
        rfl
      | some i =>
        rw [hi] at hio
        subst hio
        obtain ⟨hi60, rfl⟩ := ix_s (by decide) hi
        rw [nI_add]
        show _ = match (if i + c < aTl A t then _ else _ : Bool × Nat) with
          | (false, x) => _
          | (true, x) => _
        by_cases c1 : i + c < aTl A t
        · have hx : ix (aTl A t) (nI (i + c)) = some (i + c) := ix_i c1 (by omega)
          rw [hx, if_neg (isome_n rfl)]
          simp only [c_tget hW h ht c1, ck_t, nn_s, bd_s, lt_t, if_pos c1, cmp_0, e3, h.k0, f4, hv, c_cow hW h hk', h.kR hR hk', h.kT ht]
          by_cases c2 : aTi A t (i + c) = (oI (wyo A (v0 A) w e k)).toInt64
          · simp only [if_pos c2]
            exact ih (k + 1) fu (c + 1) (by omega) (by omega) (by omega) (fun z => by cases z)
          · simp only [if_neg c2]
        · have hx : ix (aTl A t) (nI (i + c)) = none := if_pos (Or.inr (by rw [le_n (by omega) (by omega)]; omega))
          rw [hx, if_pos (show nI (Option.isSome (none : Option Nat)).toNat = 0 from rfl)]
          simp only [if_neg c1]
          rw [show (100 : Int32) = nI 100 from rfl, nI_add]
    · rw [if_neg (fun y => z (e2.mp y)), if_neg z]
      exact ih (k + 1) fu c (by omega) (by omega) hc hn
def wayG (A : AA) (t : Nat) (io : Option Nat) (l : Nat) : Nat → List Nat → Nat → Nat → Nat
  | 0, _, _, c => c
  | _ + 1, [], _, c => c
  | f + 1, w :: rest, e, c => match wrl A t io l w e (List.range (aR A)) c with
    | (false, x) => x
    | (true, x) => wayG A t io l f (if e = 1 then rest else aP A w ++ rest) 0 x
theorem wrl_no {t l w e : Nat} {io : Option Nat} : ∀ (L : List Nat) (c : Nat), L.countP (fun r => aL A r == l) = 0 → wrl A t io l w e L c = (true, c)
  | [], c, _ => rfl
  | r :: L, c, h => by
    rw [List.countP_cons] at h
    have q : ¬ aL A r = l := fun z => by
      rw [if_pos (beq_iff_eq.mpr z)] at h
      omega
    unfold wrl
    rw [if_neg q]
    exact wrl_no L c (by omega)
theorem wayG_no {t l : Nat} {io : Option Nat} (h : (List.range (aR A)).countP (fun r => aL A r == l) = 0) : ∀ (f : Nat) (st : List Nat) (e c : Nat), wayG A t io l f st e c = c
  | 0, _, _, _ => by unfold wayG; rfl
  | f + 1, [], _, _ => by unfold wayG; rfl
  | f + 1, w :: rest, e, c => by
    unfold wayG
    rw [wrl_no _ _ h]
    exact wayG_no h f _ 0 c
theorem wayG_eq {t l : Nat} {io : Option Nat} (hl : aTl A t ≤ 60) (h : (List.range (aR A)).countP (fun r => aL A r == l) ≠ 0) : ∀ (f : Nat) (st : List Nat) (e c : Nat), 61 ≤ c + f → c ≤ 60 → wayF A t io l f st e c = wayG A t io l f st e c
  | 0, _, _, _, h1, h2 => by omega
  | f + 1, [], _, _, _, _ => by unfold wayF wayG; rfl
  | f + 1, w :: rest, e, c, h1, h2 => by
    have hle := wrl_le (A := A) (io := io) (l := l) (w := w) (e := e) hl (List.range (aR A)) c h2
    have hgr := wrl_gr (A := A) (t := t) (io := io) (l := l) (w := w) (e := e) (List.range (aR A)) c
    unfold wayF wayG
    cases hv : wrl A t io l w e (List.range (aR A)) c with
    | mk b x =>
      rw [hv] at hle hgr
      cases b with
      | false => rfl
      | true =>
        have h3 : x = c + (List.range (aR A)).countP (fun r => aL A r == l) := hgr rfl
        have h4 : x ≤ 60 := hle.2 rfl
        show (if x = 0 then 0 else _) = _
        rw [if_neg (by omega)]
        exact wayG_eq hl h f _ 0 x (by omega) h4
theorem way_GF {t l w e : Nat} {io : Option Nat} (hl : aTl A t ≤ 60) : wayG A t io l 61 [w] e 0 = wayF A t io l 61 [w] e 0 := by
  by_cases h : (List.range (aR A)).countP (fun r => aL A r == l) = 0
  · rw [wayG_no h]
    unfold wayF
    rw [wrl_no _ _ h]
    rfl
  · exact (wayG_eq hl h 61 [w] e 0 (by decide) (by decide)).symm
theorem c_w26 (hW : WF A) {t l : Nat} {a2 : Int32} {io : Option Nat} (hio : io = ix 60 a2) (ht : t < 6) (hl : l < 2) : ∀ (f j fuel : Nat) (st : List Nat) (e c : Nat) (ad : DD) (P : PS), CC t0 ad A P → W9 t0 ad A P st → SI A st → j + f = 61 → f + 1 < fuel → e < 4 → c ≤ 60 → (io = none → c = 0) → ∃ ad' P', hm_X8_rightlyTold_26L t0 fuel (ad 0) (ad (30 + t)) a2 (nI l) (nI c) (nI e) (nI j) P = some (nI (wayG A t io l f st e c), P') ∧ CC t0 ad' A P' ∧ ∀ i, i ≠ 16 → ad' i = ad i := by
  have hN := wfN hW
  have hl60 := tl60 hW ht
  intro f
  induction f with
  | zero =>
    intro j fuel st e c ad P h h9 hs hj hf he hc hn
    obtain ⟨fu, rfl⟩ : ∃ fu, fuel = fu + 1 := ⟨fuel - 1, by omega⟩
    refine ⟨ad, P, ?_, h, fun _ _ => rfl⟩
    show hm_X8_rightlyTold_26 _ _ _ _ _ _ _ _ _ _ = _
    unfold hm_X8_rightlyTold_26 hm_X8_rightlyTold_187
    have : j = 61 := by omega
    subst this
    rw [if_pos (show (60 : Int32) < nI 61 by decide)]
    unfold wayG
    rfl
  | succ f ih =>
    intro j fuel st e c ad P h h9 hs hj hf he hc hn
    obtain ⟨fu, rfl⟩ : ∃ fu, fuel = fu + 1 := ⟨fuel - 1, by omega⟩
    have f8 := h.r.2.2.2.2.2.2.2.2.1
    have hlt : ¬ (60 : Int32) < nI j := by rw [show (60 : Int32) = nI 60 from rfl, lt_n (by decide) (by omega)]; omega
    show ∃ ad' P', hm_X8_rightlyTold_26 _ _ _ _ _ _ _ _ _ _ = _ ∧ _
    unfold hm_X8_rightlyTold_26 hm_X8_rightlyTold_187
    rw [if_neg hlt]
    cases st with
    | nil =>
      refine ⟨ad, P, ?_, h, fun _ _ => rfl⟩
      have e0 : hm_Jx4a65c_isEmpty_aae02 P (ad 9) = some (1, P) := by
        unfold hm_Jx4a65c_isEmpty_aae02
        rw [h.k9, ck_t, h9.1.2.2.1]
        rfl
      simp only [ck_t, nn_s, bd_s, lt_t, h.k0, f8, e0, h.k9]
      rw [if_neg (by decide)]
      unfold wayG
      rfl
    | cons w rest =>
      obtain ⟨hq, hw, hr⟩ := hs
      have e0 : hm_Jx4a65c_isEmpty_aae02 P (ad 9) = some (0, P) := by
        unfold hm_Jx4a65c_isEmpty_aae02
        have : ¬ nI (w :: rest).length = 0 := by
          rw [q0, ne_n (by have := h9.1.2.2.2.1; omega) (by decide)]
          exact Nat.succ_ne_zero _
        rw [h.k9, ck_t, h9.1.2.2.1, if_neg this]
      obtain ⟨P1, e1, h1, w1⟩ := c_pop hW h h9
      have hrl := c_rl (t0 := t0) hW h1 (x8 := nI j) hio ht hl hw he (k26 := hm_X8_rightlyTold_26L t0 fu) (aR A) 0 4000 c (by omega) (by have := wfR hW; omega) hc hn
      rw [← q0, ← List.range_eq_range'] at hrl
      simp only [ck_t, nn_s, bd_s, lt_t, h.k0, f8, e0, h.k9, h9.1.sz, e1, h1.kW hN hw, if_true]
      rw [hrl]
      have hle := wrl_le (A := A) (io := io) (l := l) (w := w) (e := e) hl60 (List.range (aR A)) c hc
      have ewg : wayG A t io l (f + 1) (w :: rest) e c = (match wrl A t io l w e (List.range (aR A)) c with
        | (false, x) => x
        | (true, x) => wayG A t io l f (if e = 1 then rest else aP A w ++ rest) 0 x) := by
        rw [wayG]
      have hnn : io = none → (wrl A t io l w e (List.range (aR A)) c).1 = true → (wrl A t io l w e (List.range (aR A)) c).2 = 0 := by
        intro z
        have c0 := hn z
        subst z
        subst c0
        generalize List.range (aR A) = L
        induction L with
        | nil => exact fun _ => rfl
        | cons r L ihL =>
          unfold wrl
          by_cases q : aL A r = l
          · rw [if_pos q]
            exact fun y => by cases y
          · rw [if_neg q]
            exact ihL
      rw [ewg]
      cases hv : wrl A t io l w e (List.range (aR A)) c with
      | mk b x =>
        rw [hv] at hle hnn
        cases b with
        | false => exact ⟨ad, P1, rfl, h1, fun _ _ => rfl⟩
        | true =>
          have hx : x ≤ 60 := hle.2 rfl
          have e5 : nI j + (1 : Int32) = nI (j + 1) := by rw [q1, nI_add]
          have hn2 : io = none → x = 0 := fun z => hnn z rfl
          show ∃ ad' P', (if e = 1 then _ else _) = _ ∧ _
          by_cases q : e = 1
          · obtain ⟨ad2, P2, e2, h2, d2⟩ := ih (j + 1) fu rest 0 x ad P1 h1 w1 hr (by omega) (by omega) (by decide) hx hn2
            refine ⟨ad2, P2, ?_, h2, d2⟩
            rw [if_pos q]
            simp only [if_pos q]
            unfold hm_X8_rightlyTold_178
            rw [lt_t, e5, lt_t]
            exact e2
          · have hlr := SI_len hr
            have hfit : rest.length + (aP A w).length ≤ 42 := by
              have h4 := wfPl hW w
              cases hP : aP A w with
              | nil => show rest.length + 0 ≤ 42; omega
              | cons p L =>
                have hp := wfP hW hw p (by rw [hP]; exact List.mem_cons_self)
                rw [hP] at h4
                omega
            obtain ⟨ad3, P3, e3, h3, w3, d3⟩ := c_lpw hW h1 w1 hw hfit
            obtain ⟨ad2, P2, e2, h2, d2⟩ := ih (j + 1) fu (aP A w ++ rest) 0 x ad3 P3 h3 w3 (SI_app hr hw hq (wfPl hW w) (wfP hW hw)) (by omega) (by omega) (by decide) hx hn2
            rw [d3 0 (by decide), d3 (30 + t) (by omega)] at e2
            refine ⟨ad2, P2, ?_, h2, fun i hi => (d2 i hi).trans (d3 i hi)⟩
            rw [if_neg q]
            simp only [if_neg q]
            unfold hm_X8_rightlyTold_178
            simp only [e3, ck_t, nn_s, bd_s, lt_t, h1.k0, e5]
            exact e2
theorem cu_way (hW : WF A) (h : CC t0 ad A P) (a b c d f : Int32) : ∃ ad' P', hm_X8_way t0 P (ad 0) a b c d f = some (sWay A a b c d f, P') ∧ CC t0 ad' A P' ∧ ad' 0 = ad 0 := by
  have hN := wfN hW
  unfold hm_X8_way hm_X8_way_34 hm_X8_way_56 sWay
  simp only [ck_t, nn_s, bd_s, lt_t, c_tapeAt h, c_wordAt hW h, h.k0, c_offer]
  cases h1 : ix 6 a with
  | none => exact ⟨ad, P, rfl, h, rfl⟩
  | some t =>
  cases h2 : ix (aN A) c with
  | none => exact ⟨ad, P, rfl, h, rfl⟩
  | some w =>
  simp only [Option.map_some, nlS]
  cases h3 : ix 4 d with
  | none => exact ⟨ad, P, rfl, h, rfl⟩
  | some e =>
  cases h4 : ix 2 f with
  | none => exact ⟨ad, P, rfl, h, rfl⟩
  | some l =>
  obtain ⟨ht, rfl⟩ := ix_s (by decide) h1
  obtain ⟨hw, rfl⟩ := ix_s (by omega) h2
  obtain ⟨he, rfl⟩ := ix_s (by decide) h3
  obtain ⟨hl, rfl⟩ := ix_s (by decide) h4
  obtain ⟨j1, j2, -⟩ := h.2.2.2.2.2.2.1 t ht
  have f8 := h.r.2.2.2.2.2.2.2.2.1
  obtain ⟨P1, e1, g1, w1⟩ := c_clear hW h
  obtain ⟨b', P2, e2, g2, w2⟩ := c_push hW g1 w1 (by decide) hw
  have a0 : adB ad 16 b' 0 = ad 0 := if_neg (by decide)
  have at0 : adB ad 16 b' (30 + t) = ad (30 + t) := if_neg (by omega)
  obtain ⟨ad3, P3, e3, g3, d3⟩ := c_w26 hW (io := ix 60 b) rfl ht hl 61 0 63 [w] e 0 (adB ad 16 b') P2 g2 w2 ⟨by show 0 + 3 * w ≤ 39; omega, hw, trivial⟩ (by decide) (by decide) he (by decide) (fun _ => rfl)
  rw [a0, at0, way_GF (tl60 hW ht)] at e3
  have er : hm_X8_rightlyTold t0 P (ad 0) (ad (30 + t)) b (ad (50 + w)) (nI e) (nI l) = some (nI (wayF A t (ix 60 b) l 61 [w] e 0), P3) := by
    have k91 := g1.k9
    unfold hm_X8_rightlyTold
    simp only [ck_t, nn_s, bd_s, lt_t, h.k0, f8, e1, h.k9, g1.k0, g1.r.2.2.2.2.2.2.2.2.1, e2, k91]
    exact e3
  have key : ∃ ad' P', (if aTs A t = -1 then bd (hm_X8_rightlyTold t0 P (ad 0) (ad (30 + t)) b (ad (50 + w)) (nI e) (nI l)) (fun r_202 P_201 => some (r_202, P_201)) else if aTs A t = 0 then bd (hm_X8_rightlyTold t0 P (ad 0) (ad (30 + t)) b (ad (50 + w)) (nI e) (nI l)) (fun r_202 P_201 => some (r_202, P_201)) else some ((-12 : Int32), P)) = some (if aTs A t = -1 ∨ aTs A t = 0 then nI (wayF A t (ix 60 b) l 61 [w] e 0) else -12, P') ∧ CC t0 ad' A P' ∧ ad' 0 = ad 0 := by
    rw [er]
    by_cases c1 : aTs A t = -1
    · rw [if_pos c1, if_pos (Or.inl c1)]
      exact ⟨ad3, P3, rfl, g3, (d3 0 (by decide)).trans a0⟩
    · rw [if_neg c1]
      by_cases c2 : aTs A t = 0
      · rw [if_pos c2, if_pos (Or.inr c2)]
        exact ⟨ad3, P3, rfl, g3, (d3 0 (by decide)).trans a0⟩
      · rw [if_neg c2, if_neg (fun z => z.elim c1 c2)]
        exact ⟨ad, P, rfl, h, rfl⟩
  rw [if_neg (show ¬ nI ((some e : Option Nat).isSome && (some l : Option Nat).isSome).toNat = 0 from (show ¬ nI true.toNat = 0 by decide))]
  simp only [h.kT ht, j1, ck_t, nn_s, bd_s, lt_t]
  exact key
end PCWY
