-- what a store of an int leaves as it was
section PCF
variable {t0 : TS} {ad : DD} {A : AA} {P : PS} {X k : Nat} {v : Int32}
theorem pIu_ne {a b : Nat} (h : b ≠ a) : pI (pIu P a k v) b = pI P b := va_up_ne _ _ h
theorem pIu_eq {a : Nat} : pI (pIu P a k v) a = upd (pI P a) k v := va_up_self _ _ _
theorem pIu_kk {a b c : Nat} : kk (pIu P a k v) b c = kk P b c := rfl
theorem pIu_R {a : Nat} : pR (pIu P a k v) = pR P := rfl
theorem pIu_J {a : Nat} : pJ (pIu P a k v) = pJ P := rfl
theorem pIu_N {a : Nat} : pN (pIu P a k v) = pN P := rfl
theorem CC.ne (h : CC t0 ad A P) {i j : Nat} (hi : lv A i) (hj : lv A j) (hij : i ≠ j) : ad i ≠ ad j := fun z => hij (h.2.2.2.2.2.2.2.2.2.1.2.1 i j hi hj z)
def frI (ad : DD) (A : AA) (P P' : PS) (X : Nat → Prop) : Prop := pL P' = pL P ∧ pK P' = pK P ∧ pN P' = pN P ∧ pR P' = pR P ∧ pJ P' = pJ P ∧ pZ P' = pZ P ∧ ∀ i, lv A i → ¬ X i → pI P' (ad i) = pI P (ad i)
theorem frI.tr {P' P'' : PS} {Y : Nat → Prop} (h : frI ad A P P' Y) (g : frI ad A P' P'' Y) : frI ad A P P'' Y := ⟨g.1.trans h.1, g.2.1.trans h.2.1, g.2.2.1.trans h.2.2.1, g.2.2.2.1.trans h.2.2.2.1, g.2.2.2.2.1.trans h.2.2.2.2.1, g.2.2.2.2.2.1.trans h.2.2.2.2.2.1, fun i a b => (g.2.2.2.2.2.2 i a b).trans (h.2.2.2.2.2.2 i a b)⟩
theorem frI.rf {Y : Nat → Prop} : frI ad A P P Y := ⟨rfl, rfl, rfl, rfl, rfl, rfl, fun _ _ _ => rfl⟩
theorem CC.fI (h : CC t0 ad A P) {Y : Nat → Prop} (hX : lv A X) (hY : Y X) : frI ad A P (pIu P (ad X) k v) Y := ⟨rfl, rfl, rfl, rfl, rfl, rfl, fun i hi hn => pIu_ne (h.ne hi hX (fun z => hn (z ▸ hY)))⟩
variable {P' : PS} {Y : Nat → Prop}
theorem frI.k2 (f : frI ad A P P' Y) (a c : Nat) : kk P' a c = kk P a c := by
  unfold kk
  rw [f.1, f.2.1]
theorem lv_i {i : Nat} (h : i ≤ 13) : lv A i := Or.inl h
theorem lv_p {p : Nat} (h : p < 8) : lv A (20 + p) := by unfold lv; omega
theorem lv_t {t : Nat} (h : t < 6) : lv A (30 + t) ∧ lv A (40 + t) := by unfold lv; omega
theorem lv_w {w : Nat} (h : w < aN A) : lv A (50 + w) ∧ lv A (70 + w) := by unfold lv; omega
theorem lv_r {r : Nat} (h : r < aR A) : lv A (110 + r) ∧ lv A (120 + r) := by unfold lv; omega
theorem lv_c {r k : Nat} (h : r < aR A) (hk : k < (aC A r).length) : lv A (200 + 6 * r + k) ∧ lv A (300 + 6 * r + k) := ⟨Or.inr (Or.inr (Or.inr (Or.inr (Or.inr (Or.inr (Or.inr (Or.inr ⟨r, k, h, hk, Or.inl rfl⟩))))))), Or.inr (Or.inr (Or.inr (Or.inr (Or.inr (Or.inr (Or.inr (Or.inr ⟨r, k, h, hk, Or.inr rfl⟩)))))))⟩
theorem LW.fI {l b n : Nat} (h : LW t0 P (ad l) b n) (f : frI ad A P P' Y) (hl : lv A l) (hY : ¬ Y l) : LW t0 P' (ad l) b n := by
  obtain ⟨h1, h2, h3, h4, h5⟩ := h
  refine ⟨by rw [f.k2]; exact h1, by rw [f.2.2.2.1]; exact h2, by rw [f.2.2.2.2.2.2 l hl hY]; exact h3, h4, ?_⟩
  rw [f.k2, f.2.2.1]
  exact h5
theorem LSt.fI {l b n : Nat} {g : Nat → Nat} (h : LSt t0 P (ad l) b n g) (f : frI ad A P P' Y) (hl : lv A l) (hY : ¬ Y l) : LSt t0 P' (ad l) b n g := ⟨h.1.fI f hl hY, by rw [f.2.2.2.1]; exact h.2⟩
theorem C1.fI (h : C1 ad P) (f : frI ad A P P' Y) : C1 ad P' := by
  unfold C1 at *
  rw [f.2.2.2.1, f.2.2.1]
  exact h
theorem C2.fI (h : C2 ad A P) (f : frI ad A P P' Y) (hY : ∀ p, p < 8 → ¬ Y (20 + p)) : C2 ad A P' := fun p hp => by
  rw [f.2.2.2.2.2.2 _ (lv_p hp) (hY p hp)]
  exact h p hp
theorem CW.fI {w : Nat} (h : CW t0 ad A P w) (f : frI ad A P P' Y) (hw : w < aN A) (hY : ¬ Y (50 + w) ∧ ¬ Y (70 + w)) : CW t0 ad A P' w := by
  unfold CW at *
  rw [f.2.2.2.2.2.2 _ (lv_w hw).1 hY.1, f.2.2.2.1]
  exact ⟨h.1, h.2.1, h.2.2.1, h.2.2.2.1, h.2.2.2.2.1, h.2.2.2.2.2.1, h.2.2.2.2.2.2.1, h.2.2.2.2.2.2.2.fI f (lv_w hw).2 hY.2⟩
theorem C3.fI (h : C3 t0 ad A P) (f : frI ad A P P' Y) (h2 : ¬ Y 2) (hY : ∀ w, w < aN A → ¬ Y (50 + w) ∧ ¬ Y (70 + w)) : C3 t0 ad A P' := ⟨h.1.fI f (lv_i (by decide)) h2, fun w hw => (h.2 w hw).fI f hw (hY w hw)⟩
theorem CL.fI {r k : Nat} {c : Nat × Nat × List Nat} (h : CL ad P r k c) (f : frI ad A P P' Y) (hr : r < aR A) (hk : k < (aC A r).length) (hY : ¬ Y (200 + 6 * r + k) ∧ ¬ Y (300 + 6 * r + k)) : CL ad P' r k c := by
  unfold CL at *
  rw [f.2.2.2.2.2.2 _ (lv_c hr hk).1 hY.1, f.2.2.2.1, f.2.2.1, f.2.2.2.2.2.2 _ (lv_c hr hk).2 hY.2]
  exact h
theorem CRu.fI {r : Nat} (h : CRu t0 ad A P r) (f : frI ad A P P' Y) (hr : r < aR A) (hY : ∀ i, 110 ≤ i → ¬ Y i) : CRu t0 ad A P' r := by
  unfold CRu at *
  rw [f.2.2.2.2.2.2 _ (lv_r hr).1 (hY _ (by omega)), f.2.2.2.1]
  obtain ⟨a1, a2, a3, a4, a5, a6, a7, a8, a9⟩ := h
  exact ⟨a1, a2, a3, a4, a5, a6, a7, a8.fI f (lv_r hr).2 (hY _ (by omega)), fun k c hk => (a9 k c hk).fI f hr (List.getElem?_eq_some_iff.mp hk).1 ⟨hY _ (by omega), hY _ (by omega)⟩⟩
theorem C4.fI (h : C4 t0 ad A P) (f : frI ad A P P' Y) (h3 : ¬ Y 3) (hY : ∀ i, 110 ≤ i → ¬ Y i) : C4 t0 ad A P' := ⟨h.1.fI f (lv_i (by decide)) h3, fun r hr => (h.2 r hr).fI f hr hY⟩
theorem C5.fI (h : C5 ad A P) (f : frI ad A P P' Y) (h4 : ¬ Y 4) (h11 : ¬ Y 11) : C5 ad A P' := by
  unfold C5 at *
  rw [f.2.2.2.2.2.2 4 (lv_i (by decide)) h4, f.2.2.2.2.2.2 11 (lv_i (by decide)) h11]
  exact h
theorem C6.fI (h : C6 ad A P) (f : frI ad A P P' Y) (h5 : ¬ Y 5) : C6 ad A P' := by
  unfold C6 at *
  rw [f.2.2.2.2.2.2 5 (lv_i (by decide)) h5]
  exact h
theorem C7.fI (h : C7 ad A P) (f : frI ad A P P' Y) (hY : ∀ t, t < 6 → ¬ Y (30 + t)) : C7 ad A P' := fun t ht => by
  rw [f.2.2.2.2.2.2 _ (lv_t ht).1 (hY t ht), f.2.2.2.2.1]
  exact h t ht
theorem C8.fI (h : C8 ad A P) (f : frI ad A P P' Y) (h8 : ¬ Y 8) (h13 : ¬ Y 13) : C8 ad A P' := by
  unfold C8 at *
  rw [f.2.2.2.2.2.2 8 (lv_i (by decide)) h8, f.2.2.2.2.2.2 13 (lv_i (by decide)) h13]
  exact h
theorem C9.fI (h : C9 t0 ad P) (f : frI ad A P P' Y) (h9 : ¬ Y 9) : C9 t0 ad P' := by
  obtain ⟨n, h⟩ := h
  exact ⟨n, h.fI f (lv_i (by decide)) h9⟩
theorem CKI.fI (h : CKI t0 ad A P) (f : frI ad A P P' Y) : CKI t0 ad A P' := ⟨fun i hi => by rw [f.k2]; exact h.1 i hi, h.2⟩
theorem CZ.fI (h : CZ t0 P) (f : frI ad A P P' Y) : CZ t0 P' := by
  unfold CZ at *
  rw [f.1, f.2.2.2.2.2.1]
  exact h
theorem CC.f6 (h : CC t0 ad A P) (f : frI ad A P P' (fun i => i = 6 ∨ i = 10 ∨ i = 12)) : CC t0 ad A P' := by
  obtain ⟨h1, h2, h3, h4, h5, h6, h7, h8, h9, h10, h11⟩ := h
  exact ⟨h1.fI f, h2.fI f (fun p hp => by omega), h3.fI f (by omega) (fun w hw => ⟨by omega, by omega⟩), h4.fI f (by omega) (fun i hi => by omega), h5.fI f (by omega) (by omega), h6.fI f (by omega), h7.fI f (fun t ht => by omega), h8.fI f (by omega) (by omega), h9.fI f (by omega), h10.fI f, h11.fI f⟩
def sup (ad : DD) (P : PS) (x y z : Int32) : PS := pIu (pIu (pIu P (ad 6) 0 x) (ad 6) 1 y) (ad 6) 2 z
theorem CC.supf (h : CC t0 ad A P) (x y z : Int32) : frI ad A P (sup ad P x y z) (fun i => i = 6 ∨ i = 10 ∨ i = 12) := by
  refine ⟨rfl, rfl, rfl, rfl, rfl, rfl, fun i hi hn => ?_⟩
  have hne := h.ne hi (lv_i (i := 6) (by decide)) (fun e => hn (Or.inl e))
  unfold sup
  rw [pIu_ne hne, pIu_ne hne, pIu_ne hne]
theorem CC.sup (h : CC t0 ad A P) (x y z : Int32) : CC t0 ad A (sup ad P x y z) := h.f6 (h.supf x y z)
theorem c_sup (h : CC t0 ad A P) (x y z : Int32) : hm_X8_suppose P (ad 0) x y z = some (some (ad 6), sup ad P x y z) := by
  obtain ⟨-, -, -, -, -, f5, -⟩ := h.r
  have k6 := h.k6
  unfold hm_X8_suppose sup
  simp only [ck_t, nn_s, bd_s, lt_t, h.k0, f5, pIu_R, pIu_kk, k6]
theorem c_supv (h : CC t0 ad A P) {x y z : Nat} (hx : x < 1024) (hy : y < 1024) (hz : z < 2 ^ aN A) : SVw A (sup ad P (nI x) (nI y) (nI z)) (ad 6) x y z := by
  refine ⟨h.k6, ?_, ?_, ?_, hx, hy, hz⟩
  · unfold sup; rw [pIu_eq, pIu_eq, pIu_eq]; rfl
  · unfold sup; rw [pIu_eq, pIu_eq, pIu_eq]; rfl
  · unfold sup; rw [pIu_eq, pIu_eq, pIu_eq]; rfl
theorem c_nowv (hW : WF A) (h : CC t0 ad A P) : SVw A P (ad 5) (aSh A) (aJu A) 0 := ⟨h.k5, h.now.1, h.now.2.1, h.now.2.2, wfS hW, wfJ' hW, Nat.two_pow_pos _⟩
theorem vS_0 : vS A (aSh A) (aJu A) 0 = v0 A := by
  have : pcn A 0 = fun _ => 0 := by
    funext p
    have : (fun w => (0 : Nat).testBit w && (aB A w == p)) = fun _ => false := by
      funext w
      rw [Nat.zero_testBit, Bool.false_and]
    show cn _ 14 = 0
    rw [this]
    rfl
  unfold vS v0
  rw [this]
-- what stands under a number
theorem c_wordAt (hW : WF A) (h : CC t0 ad A P) (a : Int32) : hm_X8_wordAt P (ad 0) a = some ((ix (aN A) a).map (fun w => ad (50 + w)), P) := by
  have hN := wfN hW
  obtain ⟨-, f1, -⟩ := h.r
  have ls := h.ws
  unfold hm_X8_wordAt hm_X8_wordAt_29
  cases hi : ix (aN A) a with
  | none =>
    rcases ix_n hi with z | z
    · rw [if_pos z]; rfl
    · by_cases z1 : a < 0
      · rw [if_pos z1]; rfl
      · simp only [if_neg z1, ck_t, nn_s, bd_s, lt_t, h.k0, f1, ls.k, ls.sz, if_pos z]; rfl
  | some w =>
    obtain ⟨hw, rfl⟩ := ix_s (by omega) hi
    have z1 : ¬ nI w < 0 := nI_pos (n := w) (by omega)
    have z2 : ¬ nI (aN A) ≤ nI w := by rw [le_n (by omega) (by omega)]; omega
    simp only [if_neg z1, if_neg z2, ck_t, nn_s, bd_s, lt_t, h.k0, f1, ls.k, ls.sz, ls.gt hw, h.kW hN hw]
    rfl
theorem c_ruleAt (hW : WF A) (h : CC t0 ad A P) (a : Int32) : hm_X8_ruleAt P (ad 0) a = some ((ix (aR A) a).map (fun r => ad (110 + r)), P) := by
  have hR := wfR hW
  obtain ⟨-, -, f2, -⟩ := h.r
  have ls := h.rs
  unfold hm_X8_ruleAt hm_X8_ruleAt_29
  cases hi : ix (aR A) a with
  | none =>
    rcases ix_n hi with z | z
    · rw [if_pos z]; rfl
    · by_cases z1 : a < 0
      · rw [if_pos z1]; rfl
      · simp only [if_neg z1, ck_t, nn_s, bd_s, lt_t, h.k0, f2, ls.k, ls.sz, if_pos z]; rfl
  | some w =>
    obtain ⟨hw, rfl⟩ := ix_s (by omega) hi
    have z1 : ¬ nI w < 0 := nI_pos (n := w) (by omega)
    have z2 : ¬ nI (aR A) ≤ nI w := by rw [le_n (by omega) (by omega)]; omega
    simp only [if_neg z1, if_neg z2, ck_t, nn_s, bd_s, lt_t, h.k0, f2, ls.k, ls.sz, ls.gt hw, h.kR hR hw]
    rfl
theorem c_rowAt {f : Nat → Nat} {a : Int32} {n b : Nat} (hn : n < 100) (c : Nat) (hp : pN P b = n) (hk : kk P b c = true) (hf : ∀ i, i < n → pR P b i = some (f i)) : (if a < (0 : Int32) then some ((none : Option Nat), P) else (ck (kk P b c) (if (nI (pN P b)) ≤ a then some (none, P) else (nn (some b) (fun b_204 => ck (kk P b_204 c) (ck (vin a (pN P b_204)) (nn (pR P b_204 (a).toNatClampNeg) (fun b_207 => some ((some b_207), P)))))))) : Option (Option Nat × PS)) = some ((ix n a).map f, P) := by
  rw [hk, ck_t, nn_s, hk, ck_t, hp]
  cases hi : ix n a with
  | none =>
    rcases ix_n hi with z | z
    · rw [if_pos z]; rfl
    · by_cases z1 : a < 0
      · rw [if_pos z1]; rfl
      · rw [if_neg z1, if_pos z]; rfl
  | some w =>
    obtain ⟨hw, rfl⟩ := ix_s (by omega) hi
    have z1 : ¬ nI w < 0 := nI_pos (n := w) (by omega)
    have z2 : ¬ nI n ≤ nI w := by rw [le_n (by omega) (by omega)]; omega
    rw [if_neg z1, if_neg z2, vin_n (by omega), decide_eq_true hw, ck_t, nI_clamp (by omega), hf w hw]
    rfl
theorem c_personAt (h : CC t0 ad A P) (a : Int32) : hm_X8_personAt P (ad 0) a = some ((ix 8 a).map (fun p => ad (20 + p)), P) := by
  obtain ⟨f0, -⟩ := h.r
  have e := c_rowAt (P := P) (a := a) (f := fun p => ad (20 + p)) (by decide) 15 h.1.2.1 h.k1 h.1.2.2.1
  unfold hm_X8_personAt hm_X8_personAt_22
  rw [h.k0, f0]
  exact e
theorem c_tapeAt (h : CC t0 ad A P) (a : Int32) : hm_X8_tapeAt P (ad 0) a = some ((ix 6 a).map (fun t => ad (30 + t)), P) := by
  obtain ⟨-, -, -, -, -, -, f6, -⟩ := h.r
  have e := c_rowAt (P := P) (a := a) (f := fun t => ad (30 + t)) (by decide) 16 h.1.2.2.2.1 h.k7 (fun t ht => (h.1.2.2.2.2.1 t ht).1)
  unfold hm_X8_tapeAt hm_X8_tapeAt_22
  rw [h.k0, f6]
  exact e
end PCF
