-- lists that grow; what new cells leave as it was
section PCG
variable {t0 : TS} {ad ad' : DD} {A : AA} {P P' : PS} {XI XR : Nat → Prop}
def FRM (ad ad' : DD) (A : AA) (P P' : PS) (XI XR : Nat → Prop) : Prop := (∀ i, lv A i → ad' i = ad i) ∧ (∀ i, lv A i → ¬ XI i → pI P' (ad i) = pI P (ad i)) ∧ (∀ i, lv A i → ¬ XR i → pR P' (ad i) = pR P (ad i)) ∧ (∀ i, lv A i → pJ P' (ad i) = pJ P (ad i)) ∧ (∀ i, lv A i → pN P' (ad i) = pN P (ad i)) ∧ (∀ i c, lv A i → kk P (ad i) c = true → kk P' (ad i) c = true) ∧ ∀ j, bk A j → ¬ XR j → ad' j = ad j ∧ pR P' (ad j) = pR P (ad j) ∧ pN P' (ad j) = pN P (ad j) ∧ (kk P (ad j) 17 = true → kk P' (ad j) 17 = true)
theorem LW.fM {l b n : Nat} (h : LW t0 P (ad l) (ad b) n) (f : FRM ad ad' A P P' XI XR) (hl : lv A l) (hb : bk A b) (h1 : ¬ XI l) (h2 : ¬ XR l) (h3 : ¬ XR b) : LW t0 P' (ad' l) (ad' b) n := by
  obtain ⟨f1, f2, f3, f4, f5, f6, f7⟩ := f
  obtain ⟨b1, b2, b3, b4⟩ := f7 b hb h3
  obtain ⟨x1, x2, x3, x4, x5⟩ := h
  rw [f1 l hl, b1]
  refine ⟨f6 l 0 hl x1, by rw [f3 l hl h2]; exact x2, by rw [f2 l hl h1]; exact x3, x4, ?_⟩
  rcases x5 with z | z
  · exact Or.inl ⟨b4 z.1, by rw [b3]; exact z.2⟩
  · exact Or.inr z
theorem LSt.fM {l b n : Nat} {g g' : Nat → Nat} (h : LSt t0 P (ad l) (ad b) n g) (f : FRM ad ad' A P P' XI XR) (hl : lv A l) (hb : bk A b) (h1 : ¬ XI l) (h2 : ¬ XR l) (h3 : ¬ XR b) (hg : ∀ k, k < n → g' k = g k) : LSt t0 P' (ad' l) (ad' b) n g' := by
  refine ⟨h.1.fM f hl hb h1 h2 h3, fun k hk => ?_⟩
  obtain ⟨b1, b2, -⟩ := f.2.2.2.2.2.2 b hb h3
  rw [b1, b2, hg k hk]
  exact h.2 k hk
theorem C1.fM (h : C1 ad P) (f : FRM ad ad' A P P' XI XR) (hR : ∀ i, i ≤ 8 ∨ (30 ≤ i ∧ i < 36) → i ≠ 2 → i ≠ 3 → ¬ XR i) : C1 ad' P' := by
  obtain ⟨f1, f2, f3, f4, f5, f6, f7⟩ := f
  obtain ⟨a1, a2, a3, a4, a5, a6, a7, a8, a9, a10, a11, a12⟩ := h
  have e : ∀ i, i ≤ 13 → ad' i = ad i := fun i hi => f1 i (lv_i hi)
  refine ⟨fun k hk => ?_, ?_, fun p hp => ?_, ?_, fun t ht => ?_, ?_, ?_, ?_, ?_, ?_, ?_, ?_⟩
  · rw [e 0 (by decide), e (k + 1) (by omega), f3 0 (lv_i (by decide)) (hR 0 (by omega) (by decide) (by decide))]; exact a1 k hk
  · rw [e 1 (by decide), f5 1 (lv_i (by decide))]; exact a2
  · rw [e 1 (by decide), f1 _ (lv_p hp), f3 1 (lv_i (by decide)) (hR 1 (by omega) (by decide) (by decide))]; exact a3 p hp
  · rw [e 7 (by decide), f5 7 (lv_i (by decide))]; exact a4
  · rw [e 7 (by decide), f1 _ (lv_t ht).1, f1 _ (lv_t ht).2, f3 7 (lv_i (by decide)) (hR 7 (by omega) (by decide) (by decide)), f3 _ (lv_t ht).1 (hR _ (by omega) (by omega) (by omega)), f5 _ (lv_t ht).2]; exact a5 t ht
  · rw [e 4 (by decide), e 11 (by decide), f3 4 (lv_i (by decide)) (hR 4 (by omega) (by decide) (by decide))]; exact a6
  · rw [e 4 (by decide), e 12 (by decide), f3 4 (lv_i (by decide)) (hR 4 (by omega) (by decide) (by decide))]; exact a7
  · rw [e 8 (by decide), e 13 (by decide), f3 8 (lv_i (by decide)) (hR 8 (by omega) (by decide) (by decide))]; exact a8
  · rw [e 10 (by decide), f5 10 (lv_i (by decide))]; exact a9
  · rw [e 11 (by decide), f5 11 (lv_i (by decide))]; exact a10
  · rw [e 12 (by decide), f5 12 (lv_i (by decide))]; exact a11
  · rw [e 13 (by decide), f5 13 (lv_i (by decide))]; exact a12
theorem C2.fM (h : C2 ad A P) (f : FRM ad ad' A P P' XI XR) (hI : ∀ p, p < 8 → ¬ XI (20 + p)) : C2 ad' A P' := fun p hp => by
  rw [f.1 _ (lv_p hp), f.2.1 _ (lv_p hp) (hI p hp)]
  exact h p hp
theorem bk_w {w : Nat} (h : w < aN A) : bk A (90 + w) := by unfold bk; omega
theorem bk_r {r : Nat} (h : r < aR A) : bk A (130 + r) := by unfold bk; omega
theorem CW.fM (hW : WF A) {w : Nat} (h : CW t0 ad A P w) (f : FRM ad ad' A P P' XI XR) (hw : w < aN A) (h1 : ¬ XI (50 + w)) (h2 : ¬ XR (50 + w)) (h3 : ¬ XI (70 + w)) (h4 : ¬ XR (70 + w)) (h5 : ¬ XR (90 + w)) : CW t0 ad' A P' w := by
  obtain ⟨a1, a2, a3, a4, a5, a6, a7, a8⟩ := h
  have e := f.1 _ (lv_w hw).1
  have ei := f.2.1 _ (lv_w hw).1 h1
  have er := f.2.2.1 _ (lv_w hw).1 h2
  refine ⟨?_, ?_, ?_, ?_, ?_, ?_, ?_, a8.fM f (lv_w hw).2 (bk_w hw) h3 h4 h5 (fun k hk => f.1 _ (lv_w (by have := parts_lt hW hw hk; omega)).1)⟩
  · rw [e, ei]; exact a1
  · rw [e, ei]; exact a2
  · rw [e, ei]; exact a3
  · rw [e, ei]; exact a4
  · rw [e, ei]; exact a5
  · rw [e, er, f.1 _ (lv_p (wfB hW hw))]; exact a6
  · rw [e, er, f.1 _ (lv_w hw).2]; exact a7
theorem CRu.fM (hW : WF A) {r : Nat} (h : CRu t0 ad A P r) (f : FRM ad ad' A P P' XI XR) (hr : r < aR A) (hX : ∀ i, 110 ≤ i → ¬ XI i ∧ ¬ XR i) : CRu t0 ad' A P' r := by
  obtain ⟨a1, a2, a3, a4, a5, a6, a7, a8, a9⟩ := h
  have e := f.1 _ (lv_r hr).1
  have ei := f.2.1 _ (lv_r hr).1 (hX _ (by omega)).1
  have er := f.2.2.1 _ (lv_r hr).1 (hX _ (by omega)).2
  refine ⟨?_, ?_, ?_, ?_, ?_, ?_, ?_, a8.fM f (lv_r hr).2 (bk_r hr) (hX _ (by omega)).1 (hX _ (by omega)).2 (hX _ (by omega)).2 (fun k hk => f.1 _ (lv_c hr hk).1), fun k c hk => ?_⟩
  · rw [e, ei]; exact a1
  · rw [e, ei]; exact a2
  · rw [e, ei]; exact a3
  · rw [e, ei]; exact a4
  · rw [e, ei]; exact a5
  · rw [e, ei]; exact a6
  · rw [e, er, f.1 _ (lv_r hr).2]; exact a7
  · have hkl := (List.getElem?_eq_some_iff.mp hk).1
    obtain ⟨b1, b2, b3, b4, b5⟩ := a9 k c hk
    have l1 := (lv_c hr hkl).1
    have l2 := (lv_c hr hkl).2
    refine ⟨?_, ?_, ?_, ?_, fun i t hi => ?_⟩
    · rw [f.1 _ l1, f.2.1 _ l1 (hX _ (by omega)).1]; exact b1
    · rw [f.1 _ l1, f.2.1 _ l1 (hX _ (by omega)).1]; exact b2
    · rw [f.1 _ l1, f.1 _ l2, f.2.2.1 _ l1 (hX _ (by omega)).2]; exact b3
    · rw [f.1 _ l2, f.2.2.2.2.1 _ l2]; exact b4
    · rw [f.1 _ l2, f.2.1 _ l2 (hX _ (by omega)).1]; exact b5 i t hi
theorem C5.fM (h : C5 ad A P) (f : FRM ad ad' A P P' XI XR) (h4 : ¬ XI 4) (h11 : ¬ XI 11) : C5 ad' A P' := by
  obtain ⟨a1, a2⟩ := h
  refine ⟨?_, fun i c hc => ?_⟩
  · rw [f.1 4 (lv_i (by decide)), f.2.1 4 (lv_i (by decide)) h4]; exact a1
  · rw [f.1 11 (lv_i (by decide)), f.2.1 11 (lv_i (by decide)) h11]; exact a2 i c hc
theorem C6.fM (h : C6 ad A P) (f : FRM ad ad' A P P' XI XR) (h5 : ¬ XI 5) : C6 ad' A P' := by
  unfold C6 at *
  rw [f.1 5 (lv_i (by decide)), f.2.1 5 (lv_i (by decide)) h5]
  exact h
theorem C7.fM (h : C7 ad A P) (f : FRM ad ad' A P P' XI XR) (hI : ∀ t, t < 6 → ¬ XI (30 + t)) : C7 ad' A P' := fun t ht => by
  rw [f.1 _ (lv_t ht).1, f.1 _ (lv_t ht).2, f.2.1 _ (lv_t ht).1 (hI t ht), f.2.2.2.1 _ (lv_t ht).2]
  exact h t ht
theorem C8.fM (h : C8 ad A P) (f : FRM ad ad' A P P' XI XR) (h8 : ¬ XI 8) (h13 : ¬ XI 13) : C8 ad' A P' := by
  unfold C8 at *
  rw [f.1 8 (lv_i (by decide)), f.2.1 8 (lv_i (by decide)) h8, f.1 13 (lv_i (by decide)), f.2.1 13 (lv_i (by decide)) h13]
  exact h
theorem C9.fM (h : C9 t0 ad P) (f : FRM ad ad' A P P' XI XR) (h1 : ¬ XI 9) (h2 : ¬ XR 9) (h3 : ¬ XR 16) : C9 t0 ad' P' := by
  obtain ⟨n, h⟩ := h
  exact ⟨n, h.fM f (lv_i (by decide)) (by unfold bk; omega) h1 h2 h3⟩
-- adding to a list
def AddR (t0 : TS) (P P' : PS) (l b b' n x : Nat) : Prop := LW t0 P' l b' (n + 1) ∧ (∀ k, k < n → pR P' b' k = pR P b k) ∧ pR P' b' n = some x ∧ (b' = b ∨ b' = pZ P) ∧ (∀ a c, kk P a c = true → kk P' a c = true) ∧ (∀ a, a ∈ pL P' → a ∈ pL P ∨ (a = pZ P ∧ b' = pZ P)) ∧ (∀ a, a ≠ l → a < pZ P → pI P' a = pI P a) ∧ (∀ a, a ≠ l → a ≠ b → a < pZ P → pR P' a = pR P a) ∧ (∀ a, a < pZ P → pJ P' a = pJ P a) ∧ (∀ a, a < pZ P → pN P' a = pN P a) ∧ CZ t0 P' ∧ (∀ k, k ≠ 1 → pR P' l k = pR P l k) ∧ pZ P ≤ pZ P' ∧ (b' = pZ P → pZ P' = pZ P + 1 ∧ pL P' = pL P ++ [pZ P])
theorem pRu_eq {a k : Nat} {v : Option Nat} : pR (pRu P a k v) a = va_up (pR P a) k v := va_up_self _ _ _
theorem pRu_ne {a b k : Nat} {v : Option Nat} (h : b ≠ a) : pR (pRu P a k v) b = pR P b := va_up_ne _ _ h
theorem pRu_I {a k : Nat} {v : Option Nat} : pI (pRu P a k v) = pI P := rfl
theorem pRu_J {a k : Nat} {v : Option Nat} : pJ (pRu P a k v) = pJ P := rfl
theorem pRu_N {a k : Nat} {v : Option Nat} : pN (pRu P a k v) = pN P := rfl
theorem pRu_Z {a k : Nat} {v : Option Nat} : pZ (pRu P a k v) = pZ P := rfl
theorem pRu_L {a k : Nat} {v : Option Nat} : pL (pRu P a k v) = pL P := rfl
theorem pRu_kk {a k b c : Nat} {v : Option Nat} : kk (pRu P a k v) b c = kk P b c := rfl
theorem pIu_Z {a k : Nat} {v : Int32} : pZ (pIu P a k v) = pZ P := rfl
theorem pIu_L {a k : Nat} {v : Int32} : pL (pIu P a k v) = pL P := rfl
theorem pNew_I {c n a : Nat} (h : a ≠ pZ P) : pI (pNew P c n) a = pI P a := va_up_ne _ _ h
theorem pNew_R {c n a : Nat} (h : a ≠ pZ P) : pR (pNew P c n) a = pR P a := va_up_ne _ _ h
theorem pNew_J {c n a : Nat} (h : a ≠ pZ P) : pJ (pNew P c n) a = pJ P a := va_up_ne _ _ h
theorem pNew_N {c n a : Nat} (h : a ≠ pZ P) : pN (pNew P c n) a = pN P a := va_up_ne _ _ h
theorem pNew_Iz {c n : Nat} : pI (pNew P c n) (pZ P) = fun _ => 0 := va_up_self _ _ _
theorem pNew_Rz {c n : Nat} : pR (pNew P c n) (pZ P) = fun _ => none := va_up_self _ _ _
theorem pNew_Nz {c n : Nat} : pN (pNew P c n) (pZ P) = n := va_up_self _ _ _
theorem pNew_Z {c n : Nat} : pZ (pNew P c n) = pZ P + 1 := rfl
theorem pNew_L {c n : Nat} : pL (pNew P c n) = pL P ++ [pZ P] := rfl
theorem kk_of {a c : Nat} (h1 : a ∈ pL P) (h2 : pK P a = c) : kk P a c = true := decide_eq_true ⟨h1, h2⟩
theorem pNew_kk {c n a d : Nat} (hz : ∀ a, a ∈ pL P → a < pZ P) (h : kk P a d = true) : kk (pNew P c n) a d = true := by
  obtain ⟨h1, h2⟩ := kk_e h
  have := hz a h1
  exact kk_of (List.mem_append_left _ h1) ((va_up_ne _ _ (by omega)).trans h2)
theorem pNew_kz {c n : Nat} : kk (pNew P c n) (pZ P) c = true := kk_of (List.mem_append_right _ (List.mem_singleton.mpr rfl)) (va_up_self _ _ _)
theorem CZ.new (h : CZ t0 P) {c n : Nat} : CZ t0 (pNew P c n) := by
  obtain ⟨h1, h2, h3⟩ := h
  refine ⟨fun a ha => ?_, ?_, fun ha => ?_⟩
  · rw [pNew_Z]
    rcases List.mem_append.mp ha with z | z
    · have := h1 a z; omega
    · rw [List.mem_singleton.mp z]; omega
  · rw [pNew_Z]; omega
  · rcases List.mem_append.mp ha with z | z
    · exact h3 z
    · have := List.mem_singleton.mp z; omega
theorem kk_lt (hz : CZ t0 P) {a c : Nat} (h : kk P a c = true) : a < pZ P ∧ a ≠ t0.1 := ⟨hz.1 a (kk_e h).1, fun z => hz.2.2 (z ▸ (kk_e h).1)⟩
theorem kk_ne {a b c d : Nat} (h : kk P a c = true) (g : kk P b d = true) (hcd : c ≠ d) : a ≠ b := fun z => hcd ((kk_e h).2.symm.trans (by rw [z]; exact (kk_e g).2))
theorem c_add {l b n x : Nat} (h : LW t0 P l b n) (hz : CZ t0 P) (hx : isO P x = true) (hn : n ≤ 42) (hel : n = pN P b → ∀ k, k < n → ∃ y, pR P b k = some y ∧ isO P y = true) : ∃ P' b', hm_Jx4a65c_add_9ea2d t0 P l x = some (1, P') ∧ AddR t0 P P' l b b' n x := by
  obtain ⟨h1, h2, h3, h4, h5⟩ := h
  have hll := kk_lt hz h1
  have e1 : nI n + (1 : Int32) = nI (n + 1) := by rw [q1, nI_add]
  have ek : ∀ a c, kk (pIu P l 0 (pI P l 0 + 1)) a c = kk P a c := fun _ _ => rfl
  have e2 : pI (pIu P l 0 (pI P l 0 + 1)) l 2 = nI n := by rw [pIu_eq]; exact h3
  have hisO : isO (pIu P l 0 (pI P l 0 + 1)) x = true := hx
  rcases h5 with ⟨hb, hnb, hb64, hb10⟩ | ⟨hb, hn0⟩
  · have hlb : l ≠ b := kk_ne h1 hb (by decide)
    have hbl := kk_lt hz hb
    have hbO : kkO t0 P b = true := by unfold kkO; rw [hb, Bool.or_true]
    have hlen : lenO t0 P b = pN P b := by unfold lenO; rw [if_neg hbl.2]
    by_cases c : n = pN P b
    · sorry
    · have c' : n < pN P b := by omega
      have hne : ¬ nI n = nI (pN P b) := by rw [ne_n (by omega) (by omega)]; exact c
      refine ⟨pIu (pRu (pIu P l 0 (pI P l 0 + 1)) b n (some x)) l 2 (nI (n + 1)), b, ?_, ?_⟩
      · unfold hm_Jx4a65c_add_9ea2d hm_Jx4a65c_add_72be8 hm_Jx4a65c_add_72be8_11
        have hbO' : kkO t0 (pIu P l 0 (pI P l 0 + 1)) b = true := hbO
        have hlen' : lenO t0 (pIu P l 0 (pI P l 0 + 1)) b = pN P b := hlen
        simp only [ck_t, nn_s, bd_s, lt_t, h1, pIu_R, h2, e2, hbO', hlen', if_neg hne, ek, hb, pIu_N, vin_n (show n < 2 ^ 31 by omega), decide_eq_true c', hisO, nI_clamp (show n < 2 ^ 31 by omega), pRu_kk, e1]
      · refine ⟨⟨h1, ?_, ?_, by omega, Or.inl ⟨hb, by omega, hb64, hb10⟩⟩, fun k hk => ?_, ?_, Or.inl rfl, fun a c z => z, fun a z => Or.inl z, fun a h1 h2 => ?_, fun a h1 h2 h3 => ?_, fun _ _ => rfl, fun _ _ => rfl, hz, fun k hk => ?_, Nat.le_refl _, fun z => absurd z (by omega)⟩
        · rw [pIu_R, pRu_ne hlb]; exact h2
        · rw [pIu_eq]; rfl
        · rw [pIu_R, pRu_eq, va_up_ne _ _ (by omega)]; rfl
        · rw [pIu_R, pRu_eq, va_up_self]
        · rw [pIu_ne h1, pRu_I, pIu_ne h1]
        · rw [pIu_R, pRu_ne h2]; rfl
        · rw [pIu_R, pRu_ne hlb]; rfl
  · sorry
end PCG
