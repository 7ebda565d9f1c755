-- what a stretch of steps leaves as it was; new codes
section PCEX
variable {t0 : TS} {ad ad' : DD} {A A' : AA} {P P' P'' : PS} {XI XR X Y : Nat → Prop} {z0 : Nat}
def SAM (t0 : TS) (z0 : Nat) (X Y : Nat → Prop) (P P' : PS) : Prop := (∀ a, a < z0 → ¬ X a → pI P' a = pI P a) ∧ (∀ a, a < z0 → ¬ Y a → pR P' a = pR P a) ∧ (∀ a, a < z0 → pJ P' a = pJ P a) ∧ (∀ a, a < z0 → pN P' a = pN P a) ∧ (∀ a c, kk P a c = true → kk P' a c = true) ∧ pZ P ≤ pZ P' ∧ CZ t0 P'
theorem SAM.tr (h : SAM t0 z0 X Y P P') (g : SAM t0 z0 X Y P' P'') : SAM t0 z0 X Y P P'' := ⟨fun a b c => (g.1 a b c).trans (h.1 a b c), fun a b c => (g.2.1 a b c).trans (h.2.1 a b c), fun a b => (g.2.2.1 a b).trans (h.2.2.1 a b), fun a b => (g.2.2.2.1 a b).trans (h.2.2.2.1 a b), fun a c z => g.2.2.2.2.1 a c (h.2.2.2.2.1 a c z), Nat.le_trans h.2.2.2.2.2.1 g.2.2.2.2.2.1, g.2.2.2.2.2.2⟩
theorem SAM.rf (hz : CZ t0 P) : SAM t0 z0 X Y P P := ⟨fun _ _ _ => rfl, fun _ _ _ => rfl, fun _ _ => rfl, fun _ _ => rfl, fun _ _ z => z, Nat.le_refl _, hz⟩
theorem SAM.new (hz : CZ t0 P) (h : z0 ≤ pZ P) {c n : Nat} : SAM t0 z0 X Y P (pNew P c n) := ⟨fun a b _ => pNew_I (by omega), fun a b _ => pNew_R (by omega), fun a b => pNew_J (by omega), fun a b => pNew_N (by omega), fun a c => pNew_kk hz.1, by rw [pNew_Z]; omega, hz.new⟩
theorem SAM.I (hz : CZ t0 P) {a k : Nat} {v : Int32} (h : a < z0 → X a) : SAM t0 z0 X Y P (pIu P a k v) := ⟨fun b c d => pIu_ne (fun e => d (e ▸ h (e ▸ c))), fun _ _ _ => rfl, fun _ _ => rfl, fun _ _ => rfl, fun _ _ z => z, Nat.le_refl _, hz⟩
theorem SAM.R (hz : CZ t0 P) {a k : Nat} {v : Option Nat} (h : a < z0 → Y a) : SAM t0 z0 X Y P (pRu P a k v) := ⟨fun _ _ _ => rfl, fun b c d => pRu_ne (fun e => d (e ▸ h (e ▸ c))), fun _ _ => rfl, fun _ _ => rfl, fun _ _ z => z, Nat.le_refl _, hz⟩
theorem SAM.cz (h : SAM t0 z0 X Y P P') : CZ t0 P' := h.2.2.2.2.2.2
theorem SAM.kp (h : SAM t0 z0 X Y P P') {a c : Nat} (z : kk P a c = true) : kk P' a c = true := h.2.2.2.2.1 a c z
theorem SAM.aI (h : SAM t0 z0 X Y P P') {a k : Nat} {v : Int32} (g : a < z0 → X a) : SAM t0 z0 X Y P (pIu P' a k v) := h.tr (SAM.I h.cz g)
theorem SAM.aR (h : SAM t0 z0 X Y P P') {a k : Nat} {v : Option Nat} (g : a < z0 → Y a) : SAM t0 z0 X Y P (pRu P' a k v) := h.tr (SAM.R h.cz g)
theorem SAM.aN (h : SAM t0 z0 X Y P P') (g : z0 ≤ pZ P') {c n : Nat} : SAM t0 z0 X Y P (pNew P' c n) := h.tr (SAM.new h.cz g)
theorem AddR.sam {l b b' n x : Nat} (h : AddR t0 P P' l b b' n x) (hz : z0 ≤ pZ P) (h1 : X l) (h2 : Y l) (h3 : b ≠ t0.1 → b < z0 → Y b) : SAM t0 z0 X Y P P' := by
  obtain ⟨a1, a2, a3, a4, a5, a6, a7, a8, a9, a10, a11, a12, a13, a14⟩ := h
  refine ⟨fun a b c => a7 a (fun e => c (e ▸ h1)) (by omega), fun a c d => a8 a (fun e => d (e ▸ h2)) ?_ (by omega), fun a b => a9 a (by omega), fun a b => a10 a (by omega), a5, a13, a11⟩
  by_cases q : b = t0.1
  · exact Or.inr q
  · exact Or.inl (fun e => d (e ▸ h3 q (e ▸ c)))
theorem ite17 {p : Prop} [Decidable p] {a b : Nat} (ha : a ≠ 17) (hb : b ≠ 17) : (if p then a else b) ≠ 17 := by
  by_cases h : p
  · rw [if_pos h]; exact ha
  · rw [if_neg h]; exact hb
theorem kd17 (i : Nat) : kd i ≠ 17 := by
  unfold kd
  repeat' refine ite17 (by decide) ?_
  decide
theorem CC.z (h : CC t0 ad A P) : CZ t0 P := h.2.2.2.2.2.2.2.2.2.2
theorem CC.lz (h : CC t0 ad A P) {i : Nat} (hi : lv A i) : ad i < pZ P ∧ ad i ≠ t0.1 := kk_lt h.z (h.k hi)
theorem LW.bkk {l b n : Nat} (h : LW t0 P l b n) : kk P b 17 = true ∨ b = t0.1 := h.2.2.2.2.elim (fun z => Or.inl z.1) (fun z => Or.inr z.1)
theorem CC.bkk (h : CC t0 ad A P) {j : Nat} (hj : bk A j) : kk P (ad j) 17 = true ∨ ad j = t0.1 := by
  obtain ⟨n, h9⟩ := h.2.2.2.2.2.2.2.2.1
  rcases hj with rfl | rfl | rfl | z | z
  · exact h.ws.1.bkk
  · exact h.rs.1.bkk
  · exact h9.bkk
  · obtain ⟨w, rfl⟩ : ∃ w, j = 90 + w := ⟨j - 90, by omega⟩
    exact (h.w (w := w) (by omega)).2.2.2.2.2.2.2.1.bkk
  · obtain ⟨r, rfl⟩ : ∃ r, j = 130 + r := ⟨j - 130, by omega⟩
    exact (h.ru (r := r) (by omega)).2.2.2.2.2.2.2.1.1.bkk
theorem CC.bz (h : CC t0 ad A P) {j : Nat} (hj : bk A j) : ad j < pZ P := by
  rcases h.bkk hj with z | z
  · exact (kk_lt h.z z).1
  · rw [z]; exact h.z.2.1
theorem CC.lb (h : CC t0 ad A P) {i j : Nat} (hi : lv A i) (hj : bk A j) : ad j ≠ ad i := by
  rcases h.bkk hj with z | z
  · exact kk_ne z (h.k hi) (fun e => kd17 i e.symm)
  · rw [z]; exact Ne.symm (h.lz hi).2
theorem CC.bb (h : CC t0 ad A P) {i j : Nat} (hi : bk A i) (hj : bk A j) (hij : i ≠ j) (ht : ad i ≠ t0.1) : ad j ≠ ad i := fun z => hij (h.2.2.2.2.2.2.2.2.2.1.2.2 i j hi hj z.symm ht)
theorem CC.ext (h : CC t0 ad A P) (hk : ∀ a c, kk P a c = true → kk P' a c = true) (hl : ∀ i, lv A' i → (lv A i ∧ ad' i = ad i) ∨ (pZ P ≤ ad' i ∧ kk P' (ad' i) (kd i) = true)) (hli : ∀ i j, lv A' i → lv A' j → pZ P ≤ ad' i → ad' i = ad' j → i = j) (hb : ∀ j, bk A' j → (bk A j ∧ ad' j = ad j) ∨ pZ P ≤ ad' j ∨ ad' j = t0.1) (hbi : ∀ i j, bk A' i → bk A' j → pZ P ≤ ad' i → ad' i = ad' j → i = j) : CKI t0 ad' A' P' := by
  refine ⟨fun i hi => ?_, fun i j hi hj e => ?_, fun i j hi hj e ht => ?_⟩
  · rcases hl i hi with z | z
    · rw [z.2]; exact hk _ _ (h.k z.1)
    · exact z.2
  · rcases hl i hi with z | z
    · rcases hl j hj with y | y
      · rw [z.2, y.2] at e
        exact h.2.2.2.2.2.2.2.2.2.1.2.1 i j z.1 y.1 e
      · have := (h.lz z.1).1
        rw [← z.2] at this
        omega
    · exact hli i j hi hj z.1 e
  · have hnew : pZ P ≤ ad' i → i = j := fun z => hbi i j hi hj z e
    rcases hb i hi with z | z | z
    · rcases hb j hj with y | y | y
      · rw [z.2] at e ht
        rw [y.2] at e
        exact h.2.2.2.2.2.2.2.2.2.1.2.2 i j z.1 y.1 e ht
      · exact hnew (by omega)
      · exact absurd (e.trans y) ht
    · exact hnew z
    · exact absurd z ht
theorem SAM.frm (h : CC t0 ad A P) (g : SAM t0 (pZ P) X Y P P') (hl : ∀ i, lv A i → ad' i = ad i) (hb : ∀ j, bk A j → ¬ XR j → ad' j = ad j) (hX : ∀ i, lv A i → X (ad i) → XI i) (hY : ∀ i, lv A i ∨ bk A i → Y (ad i) → XR i) : FRM ad ad' A P P' XI XR := by
  obtain ⟨g1, g2, g3, g4, g5, g6, g7⟩ := g
  refine ⟨hl, fun i hi hn => g1 _ (h.lz hi).1 (fun z => hn (hX i hi z)), fun i hi hn => g2 _ (h.lz hi).1 (fun z => hn (hY i (Or.inl hi) z)), fun i hi => g3 _ (h.lz hi).1, fun i hi => g4 _ (h.lz hi).1, fun i c _ z => g5 _ _ z, fun j hj hn => ⟨hb j hj hn, g2 _ (h.bz hj) (fun z => hn (hY j (Or.inr hj) z)), g4 _ (h.bz hj), fun z => g5 _ _ z⟩⟩
theorem LW.sam {l b n : Nat} (h : LW t0 P l b n) (g : SAM t0 z0 X Y P P') (hl : l < z0) (hb : b < z0) (h1 : ¬ X l) (h2 : ¬ Y l) : LW t0 P' l b n := by
  obtain ⟨x1, x2, x3, x4, x5⟩ := h
  refine ⟨g.2.2.2.2.1 _ _ x1, by rw [g.2.1 l hl h2]; exact x2, by rw [g.1 l hl h1]; exact x3, x4, ?_⟩
  rcases x5 with z | z
  · exact Or.inl ⟨g.2.2.2.2.1 _ _ z.1, by rw [g.2.2.2.1 b hb]; exact z.2⟩
  · exact Or.inr z
theorem c_addL {l b n x : Nat} {f f' : Nat → Nat} (h : LSt t0 P l b n f) (hz : CZ t0 P) (hx : isO P x = true) (hn : n ≤ 42) (hel : ∀ k, k < n → isO P (f k) = true) (h1 : ∀ k, k < n → f' k = f k) (h2 : f' n = x) : ∃ P' b', hm_Jx4a65c_add_9ea2d t0 P l x = some (1, P') ∧ AddR t0 P P' l b b' n x ∧ LSt t0 P' l b' (n + 1) f' := by
  obtain ⟨P', b', e, g⟩ := c_add h.1 hz hx hn (fun _ k hk => ⟨f k, h.2 k hk, hel k hk⟩)
  refine ⟨P', b', e, g, g.1, fun k hk => ?_⟩
  by_cases q : k = n
  · subst q
    rw [h2]
    exact g.2.2.1
  · rw [g.2.1 k (by omega), h1 k (by omega)]
    exact h.2 k (by omega)
end PCEX
