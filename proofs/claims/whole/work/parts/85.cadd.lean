-- lists that grow; what new cells leave as it was
section PCG
variable {t0 : TS} {ad ad' : DD} {A : AA} {P P' : PS} {XI XR : Nat → Prop}
def FRM (ad ad' : DD) (A : AA) (P P' : PS) (XI XR : Nat → Prop) : Prop := (∀ i, lv A i → ad' i = ad i) ∧ (∀ i, lv A i → ¬ XI i → pI P' (ad i) = pI P (ad i)) ∧ (∀ i, lv A i → ¬ XR i → pR P' (ad i) = pR P (ad i)) ∧ (∀ i, lv A i → pJ P' (ad i) = pJ P (ad i)) ∧ (∀ i, lv A i → pN P' (ad i) = pN P (ad i)) ∧ (∀ i c, lv A i → kk P (ad i) c = true → kk P' (ad i) c = true) ∧ ∀ j, bk A j → ¬ XR j → ad' j = ad j ∧ pR P' (ad j) = pR P (ad j) ∧ pN P' (ad j) = pN P (ad j) ∧ (kk P (ad j) 17 = true → kk P' (ad j) 17 = true)
theorem LW.fM {l b n : Nat} (h : LW t0 P (ad l) (ad b) n) (f : FRM ad ad' A P P' XI XR) (hl : lv A l) (hb : bk A b) (h1 : ¬ XI l) (h2 : ¬ XR l) (h3 : ¬ XR b) : LW t0 P' (ad' l) (ad' b) n := by
  obtain ⟨f1, f2, f3, f4, f5, f6, f7⟩ := f
  obtain ⟨b1, b2, b3, b4⟩ := f7 b hb h3
  obtain ⟨x1, x2, x3, x4, x5⟩ := h
  rw [f1 l hl, b1]
  refine ⟨f6 l 0 hl x1, by rw [f3 l hl h2]; exact x2, by rw [f2 l hl h1]; exact x3, x4, ?_⟩
  rcases x5 with z | z
  · exact Or.inl ⟨b4 z.1, by rw [b3]; exact z.2⟩
  · exact Or.inr z
theorem LSt.fM {l b n : Nat} {g g' : Nat → Nat} (h : LSt t0 P (ad l) (ad b) n g) (f : FRM ad ad' A P P' XI XR) (hl : lv A l) (hb : bk A b) (h1 : ¬ XI l) (h2 : ¬ XR l) (h3 : ¬ XR b) (hg : ∀ k, k < n → g' k = g k) : LSt t0 P' (ad' l) (ad' b) n g' := by
  refine ⟨h.1.fM f hl hb h1 h2 h3, fun k hk => ?_⟩
  obtain ⟨b1, b2, -⟩ := f.2.2.2.2.2.2 b hb h3
  rw [b1, b2, hg k hk]
  exact h.2 k hk
theorem C1.fM (h : C1 ad P) (f : FRM ad ad' A P P' XI XR) (hR : ∀ i, i ≤ 8 ∨ (30 ≤ i ∧ i < 36) → i ≠ 2 → i ≠ 3 → ¬ XR i) : C1 ad' P' := by
  obtain ⟨f1, f2, f3, f4, f5, f6, f7⟩ := f
  obtain ⟨a1, a2, a3, a4, a5, a6, a7, a8, a9, a10, a11, a12⟩ := h
  have e : ∀ i, i ≤ 13 → ad' i = ad i := fun i hi => f1 i (lv_i hi)
  refine ⟨fun k hk => ?_, ?_, fun p hp => ?_, ?_, fun t ht => ?_, ?_, ?_, ?_, ?_, ?_, ?_, ?_⟩
  · rw [e 0 (by decide), e (k + 1) (by omega), f3 0 (lv_i (by decide)) (hR 0 (by omega) (by decide) (by decide))]; exact a1 k hk
  · rw [e 1 (by decide), f5 1 (lv_i (by decide))]; exact a2
  · rw [e 1 (by decide), f1 _ (lv_p hp), f3 1 (lv_i (by decide)) (hR 1 (by omega) (by decide) (by decide))]; exact a3 p hp
  · rw [e 7 (by decide), f5 7 (lv_i (by decide))]; exact a4
  · rw [e 7 (by decide), f1 _ (lv_t ht).1, f1 _ (lv_t ht).2, f3 7 (lv_i (by decide)) (hR 7 (by omega) (by decide) (by decide)), f3 _ (lv_t ht).1 (hR _ (by omega) (by omega) (by omega)), f5 _ (lv_t ht).2]; exact a5 t ht
  · rw [e 4 (by decide), e 11 (by decide), f3 4 (lv_i (by decide)) (hR 4 (by omega) (by decide) (by decide))]; exact a6
  · rw [e 4 (by decide), e 12 (by decide), f3 4 (lv_i (by decide)) (hR 4 (by omega) (by decide) (by decide))]; exact a7
  · rw [e 8 (by decide), e 13 (by decide), f3 8 (lv_i (by decide)) (hR 8 (by omega) (by decide) (by decide))]; exact a8
  · rw [e 10 (by decide), f5 10 (lv_i (by decide))]; exact a9
  · rw [e 11 (by decide), f5 11 (lv_i (by decide))]; exact a10
  · rw [e 12 (by decide), f5 12 (lv_i (by decide))]; exact a11
  · rw [e 13 (by decide), f5 13 (lv_i (by decide))]; exact a12
theorem C2.fM (h : C2 ad A P) (f : FRM ad ad' A P P' XI XR) (hI : ∀ p, p < 8 → ¬ XI (20 + p)) : C2 ad' A P' := fun p hp => by
  rw [f.1 _ (lv_p hp), f.2.1 _ (lv_p hp) (hI p hp)]
  exact h p hp
theorem bk_w {w : Nat} (h : w < aN A) : bk A (90 + w) := by unfold bk; omega
theorem bk_r {r : Nat} (h : r < aR A) : bk A (130 + r) := by unfold bk; omega
theorem CW.fM (hW : WF A) {w : Nat} (h : CW t0 ad A P w) (f : FRM ad ad' A P P' XI XR) (hw : w < aN A) (h1 : ¬ XI (50 + w)) (h2 : ¬ XR (50 + w)) (h3 : ¬ XI (70 + w)) (h4 : ¬ XR (70 + w)) (h5 : ¬ XR (90 + w)) : CW t0 ad' A P' w := by
  obtain ⟨a1, a2, a3, a4, a5, a6, a7, a8⟩ := h
  have e := f.1 _ (lv_w hw).1
  have ei := f.2.1 _ (lv_w hw).1 h1
  have er := f.2.2.1 _ (lv_w hw).1 h2
  refine ⟨?_, ?_, ?_, ?_, ?_, ?_, ?_, a8.fM f (lv_w hw).2 (bk_w hw) h3 h4 h5 (fun k hk => f.1 _ (lv_w (by have := parts_lt hW hw hk; omega)).1)⟩
  · rw [e, ei]; exact a1
  · rw [e, ei]; exact a2
  · rw [e, ei]; exact a3
  · rw [e, ei]; exact a4
  · rw [e, ei]; exact a5
  · rw [e, er, f.1 _ (lv_p (wfB hW hw))]; exact a6
  · rw [e, er, f.1 _ (lv_w hw).2]; exact a7
theorem CRu.fM (hW : WF A) {r : Nat} (h : CRu t0 ad A P r) (f : FRM ad ad' A P P' XI XR) (hr : r < aR A) (hX : ∀ i, 110 ≤ i → ¬ XI i ∧ ¬ XR i) : CRu t0 ad' A P' r := by
  obtain ⟨a1, a2, a3, a4, a5, a6, a7, a8, a9⟩ := h
  have e := f.1 _ (lv_r hr).1
  have ei := f.2.1 _ (lv_r hr).1 (hX _ (by omega)).1
  have er := f.2.2.1 _ (lv_r hr).1 (hX _ (by omega)).2
  refine ⟨?_, ?_, ?_, ?_, ?_, ?_, ?_, a8.fM f (lv_r hr).2 (bk_r hr) (hX _ (by omega)).1 (hX _ (by omega)).2 (hX _ (by omega)).2 (fun k hk => f.1 _ (lv_c hr hk).1), fun k c hk => ?_⟩
  · rw [e, ei]; exact a1
  · rw [e, ei]; exact a2
  · rw [e, ei]; exact a3
  · rw [e, ei]; exact a4
  · rw [e, ei]; exact a5
  · rw [e, ei]; exact a6
  · rw [e, er, f.1 _ (lv_r hr).2]; exact a7
  · have hkl := (List.getElem?_eq_some_iff.mp hk).1
    obtain ⟨b1, b2, b3, b4, b5⟩ := a9 k c hk
    have l1 := (lv_c hr hkl).1
    have l2 := (lv_c hr hkl).2
    refine ⟨?_, ?_, ?_, ?_, fun i t hi => ?_⟩
    · rw [f.1 _ l1, f.2.1 _ l1 (hX _ (by omega)).1]; exact b1
    · rw [f.1 _ l1, f.2.1 _ l1 (hX _ (by omega)).1]; exact b2
    · rw [f.1 _ l1, f.1 _ l2, f.2.2.1 _ l1 (hX _ (by omega)).2]; exact b3
    · rw [f.1 _ l2, f.2.2.2.2.1 _ l2]; exact b4
    · rw [f.1 _ l2, f.2.1 _ l2 (hX _ (by omega)).1]; exact b5 i t hi
theorem C5.fM (h : C5 ad A P) (f : FRM ad ad' A P P' XI XR) (h4 : ¬ XI 4) (h11 : ¬ XI 11) : C5 ad' A P' := by
  obtain ⟨a1, a2⟩ := h
  refine ⟨?_, fun i c hc => ?_⟩
  · rw [f.1 4 (lv_i (by decide)), f.2.1 4 (lv_i (by decide)) h4]; exact a1
  · rw [f.1 11 (lv_i (by decide)), f.2.1 11 (lv_i (by decide)) h11]; exact a2 i c hc
theorem C6.fM (h : C6 ad A P) (f : FRM ad ad' A P P' XI XR) (h5 : ¬ XI 5) : C6 ad' A P' := by
  unfold C6 at *
  rw [f.1 5 (lv_i (by decide)), f.2.1 5 (lv_i (by decide)) h5]
  exact h
theorem C7.fM (h : C7 ad A P) (f : FRM ad ad' A P P' XI XR) (hI : ∀ t, t < 6 → ¬ XI (30 + t)) : C7 ad' A P' := fun t ht => by
  rw [f.1 _ (lv_t ht).1, f.1 _ (lv_t ht).2, f.2.1 _ (lv_t ht).1 (hI t ht), f.2.2.2.1 _ (lv_t ht).2]
  exact h t ht
theorem C8.fM (h : C8 ad A P) (f : FRM ad ad' A P P' XI XR) (h8 : ¬ XI 8) (h13 : ¬ XI 13) : C8 ad' A P' := by
  unfold C8 at *
  rw [f.1 8 (lv_i (by decide)), f.2.1 8 (lv_i (by decide)) h8, f.1 13 (lv_i (by decide)), f.2.1 13 (lv_i (by decide)) h13]
  exact h
theorem C9.fM (h : C9 t0 ad P) (f : FRM ad ad' A P P' XI XR) (h1 : ¬ XI 9) (h2 : ¬ XR 9) (h3 : ¬ XR 16) : C9 t0 ad' P' := by
  obtain ⟨n, h⟩ := h
  exact ⟨n, h.fM f (lv_i (by decide)) (by unfold bk; omega) h1 h2 h3⟩
-- adding to a list
def AddR (t0 : TS) (P P' : PS) (l b b' n x : Nat) : Prop := LW t0 P' l b' (n + 1) ∧ (∀ k, k < n → pR P' b' k = pR P b k) ∧ pR P' b' n = some x ∧ (b' = b ∨ b' = pZ P) ∧ (∀ a c, kk P a c = true → kk P' a c = true) ∧ (∀ a, a ∈ pL P' → a ∈ pL P ∨ (a = pZ P ∧ b' = pZ P)) ∧ (∀ a, a ≠ l → a < pZ P → pI P' a = pI P a) ∧ (∀ a, a ≠ l → a ≠ b ∨ b = t0.1 → a < pZ P → pR P' a = pR P a) ∧ (∀ a, a < pZ P → pJ P' a = pJ P a) ∧ (∀ a, a < pZ P → pN P' a = pN P a) ∧ CZ t0 P' ∧ (∀ k, k ≠ 1 → pR P' l k = pR P l k) ∧ pZ P ≤ pZ P' ∧ (b' = pZ P → pZ P' = pZ P + 1 ∧ pL P' = pL P ++ [pZ P])
theorem pRu_eq {a k : Nat} {v : Option Nat} : pR (pRu P a k v) a = va_up (pR P a) k v := va_up_self _ _ _
theorem pRu_ne {a b k : Nat} {v : Option Nat} (h : b ≠ a) : pR (pRu P a k v) b = pR P b := va_up_ne _ _ h
theorem pRu_I {a k : Nat} {v : Option Nat} : pI (pRu P a k v) = pI P := rfl
theorem pRu_J {a k : Nat} {v : Option Nat} : pJ (pRu P a k v) = pJ P := rfl
theorem pRu_N {a k : Nat} {v : Option Nat} : pN (pRu P a k v) = pN P := rfl
theorem pRu_Z {a k : Nat} {v : Option Nat} : pZ (pRu P a k v) = pZ P := rfl
theorem pRu_L {a k : Nat} {v : Option Nat} : pL (pRu P a k v) = pL P := rfl
theorem pRu_kk {a k b c : Nat} {v : Option Nat} : kk (pRu P a k v) b c = kk P b c := rfl
theorem pIu_Z {a k : Nat} {v : Int32} : pZ (pIu P a k v) = pZ P := rfl
theorem pIu_L {a k : Nat} {v : Int32} : pL (pIu P a k v) = pL P := rfl
theorem kkI {a k b c : Nat} {v : Int32} : kk (pIu P a k v) b c = kk P b c := eq_of_heq HEq.rfl
theorem kkR {a k b c : Nat} {v : Option Nat} : kk (pRu P a k v) b c = kk P b c := eq_of_heq HEq.rfl
theorem RI {a k : Nat} {v : Int32} : pR (pIu P a k v) = pR P := eq_of_heq HEq.rfl
theorem IR {a k : Nat} {v : Option Nat} : pI (pRu P a k v) = pI P := eq_of_heq HEq.rfl
theorem NI {a k : Nat} {v : Int32} : pN (pIu P a k v) = pN P := eq_of_heq HEq.rfl
theorem NR {a k : Nat} {v : Option Nat} : pN (pRu P a k v) = pN P := eq_of_heq HEq.rfl
theorem ZI {a k : Nat} {v : Int32} : pZ (pIu P a k v) = pZ P := eq_of_heq HEq.rfl
theorem ZR {a k : Nat} {v : Option Nat} : pZ (pRu P a k v) = pZ P := eq_of_heq HEq.rfl
theorem LI {a k : Nat} {v : Int32} : pL (pIu P a k v) = pL P := eq_of_heq HEq.rfl
theorem LR {a k : Nat} {v : Option Nat} : pL (pRu P a k v) = pL P := eq_of_heq HEq.rfl
theorem pNew_I {c n a : Nat} (h : a ≠ pZ P) : pI (pNew P c n) a = pI P a := va_up_ne _ _ h
theorem pNew_R {c n a : Nat} (h : a ≠ pZ P) : pR (pNew P c n) a = pR P a := va_up_ne _ _ h
theorem pNew_J {c n a : Nat} (h : a ≠ pZ P) : pJ (pNew P c n) a = pJ P a := va_up_ne _ _ h
theorem pNew_N {c n a : Nat} (h : a ≠ pZ P) : pN (pNew P c n) a = pN P a := va_up_ne _ _ h
theorem pNew_Iz {c n : Nat} : pI (pNew P c n) (pZ P) = fun _ => 0 := va_up_self _ _ _
theorem pNew_Rz {c n : Nat} : pR (pNew P c n) (pZ P) = fun _ => none := va_up_self _ _ _
theorem pNew_Nz {c n : Nat} : pN (pNew P c n) (pZ P) = n := va_up_self _ _ _
theorem pNew_Z {c n : Nat} : pZ (pNew P c n) = pZ P + 1 := rfl
theorem pNew_L {c n : Nat} : pL (pNew P c n) = pL P ++ [pZ P] := rfl
theorem kk_of {a c : Nat} (h1 : a ∈ pL P) (h2 : pK P a = c) : kk P a c = true := decide_eq_true ⟨h1, h2⟩
theorem pNew_kk {c n a d : Nat} (hz : ∀ a, a ∈ pL P → a < pZ P) (h : kk P a d = true) : kk (pNew P c n) a d = true := by
  obtain ⟨h1, h2⟩ := kk_e h
  have := hz a h1
  exact kk_of (List.mem_append_left _ h1) ((va_up_ne _ _ (by omega)).trans h2)
theorem pNew_kz {c n : Nat} : kk (pNew P c n) (pZ P) c = true := kk_of (List.mem_append_right _ (List.mem_singleton.mpr rfl)) (va_up_self _ _ _)
theorem CZ.new (h : CZ t0 P) {c n : Nat} : CZ t0 (pNew P c n) := by
  obtain ⟨h1, h2, h3⟩ := h
  refine ⟨fun a ha => ?_, ?_, fun ha => ?_⟩
  · rw [pNew_Z]
    rcases List.mem_append.mp ha with z | z
    · have := h1 a z; omega
    · rw [List.mem_singleton.mp z]; omega
  · rw [pNew_Z]; omega
  · rcases List.mem_append.mp ha with z | z
    · exact h3 z
    · have := List.mem_singleton.mp z; omega
theorem kk_lt (hz : CZ t0 P) {a c : Nat} (h : kk P a c = true) : a < pZ P ∧ a ≠ t0.1 := ⟨hz.1 a (kk_e h).1, fun z => hz.2.2 (z ▸ (kk_e h).1)⟩
theorem kk_ne {a b c d : Nat} (h : kk P a c = true) (g : kk P b d = true) (hcd : c ≠ d) : a ≠ b := fun z => hcd ((kk_e h).2.symm.trans (by rw [z]; exact (kk_e g).2))
theorem isO_mono {x : Nat} (hm : ∀ a c, kk P a c = true → kk P' a c = true) (h : isO P x = true) : isO P' x = true := by
  unfold isO at *
  rw [Bool.or_eq_true, Bool.or_eq_true] at *
  rcases h with (z | z) | z
  · exact Or.inl (Or.inl (hm _ _ z))
  · exact Or.inl (Or.inr (hm _ _ z))
  · exact Or.inr (hm _ _ z)
def GRW (P G : PS) (l b n m : Nat) : Prop := pL G = pL P ++ [pZ P] ∧ pK G = va_up (pK P) (pZ P) 17 ∧ pN G = va_up (pN P) (pZ P) m ∧ (∀ a, a ≠ l → a ≠ pZ P → pI G a = pI P a) ∧ (∀ a, a ≠ pZ P → pJ G a = pJ P a) ∧ (∀ a, a ≠ pZ P → pR G a = pR P a) ∧ (∀ k, k < n → pR G (pZ P) k = pR P b k) ∧ pZ G = pZ P + 1
theorem GRW.kp {G : PS} {l b n m : Nat} (g : GRW P G l b n m) (hz : CZ t0 P) {a c : Nat} (h : kk P a c = true) : kk G a c = true := by
  obtain ⟨h1, h2⟩ := kk_e h
  have := hz.1 a h1
  refine kk_of (by rw [g.1]; exact List.mem_append_left _ h1) ?_
  rw [g.2.1, va_up_ne _ _ (by omega)]
  exact h2
theorem GRW.kz {G : PS} {l b n m : Nat} (g : GRW P G l b n m) : kk G (pZ P) 17 = true := kk_of (by rw [g.1]; exact List.mem_append_right _ (List.mem_singleton.mpr rfl)) (by rw [g.2.1, va_up_self])
theorem GRW.add {G : PS} {l b n m x : Nat} (g : GRW P G l b n m) (hz : CZ t0 P) (hl : kk P l 0 = true) (hm : n < m) (hm64 : m ≤ 64) (hm10 : 10 ≤ m) (hn : n ≤ 42) : AddR t0 P (pIu (pRu (pRu G l 1 (some (pZ P))) (pZ P) n (some x)) l 2 (nI (n + 1))) l b (pZ P) n x := by
  have hll := kk_lt hz hl
  have hlz : l ≠ pZ P := by omega
  obtain ⟨g1, g2, g3, g4, g5, g6, g7, g8⟩ := id g
  refine ⟨⟨g.kp hz hl, ?_, ?_, by omega, Or.inl ⟨g.kz, ?_, ?_, ?_⟩⟩, fun k hk => ?_, ?_, Or.inr rfl, fun a c z => g.kp hz z, fun a ha => ?_, fun a h1 h2 => ?_, fun a h1 h2 h3 => ?_, fun a h1 => ?_, fun a h1 => ?_, ?_, fun k hk => ?_, ?_, fun _ => ⟨g8, g1⟩⟩
  · rw [pIu_R, pRu_ne hlz, pRu_eq, va_up_self]
  · rw [pIu_eq]; rfl
  · rw [pIu_N, pRu_N, pRu_N, g3, va_up_self]; omega
  · rw [pIu_N, pRu_N, pRu_N, g3, va_up_self]; exact hm64
  · rw [pIu_N, pRu_N, pRu_N, g3, va_up_self]; exact hm10
  · rw [pIu_R, pRu_eq, va_up_ne _ _ (by omega), pRu_ne (Ne.symm hlz)]
    exact g7 k hk
  · rw [pIu_R, pRu_eq, va_up_self]
  · have ha' : a ∈ pL G := ha
    rw [g1] at ha'
    rcases List.mem_append.mp ha' with z | z
    · exact Or.inl z
    · exact Or.inr ⟨List.mem_singleton.mp z, rfl⟩
  · rw [pIu_ne h1, pRu_I, pRu_I]
    exact g4 a h1 (by omega)
  · rw [pIu_R, pRu_ne (by omega), pRu_ne h1]
    exact g6 a (by omega)
  · exact g5 a (by omega)
  · show pN G a = _
    rw [g3, va_up_ne _ _ (by omega)]
  · obtain ⟨z1, z2, z3⟩ := hz
    refine ⟨fun a ha => ?_, ?_, fun ha => ?_⟩
    · show a < pZ G
      have ha' : a ∈ pL G := ha
      rw [g1] at ha'
      rw [g8]
      rcases List.mem_append.mp ha' with z | z
      · have := z1 a z; omega
      · rw [List.mem_singleton.mp z]; omega
    · show _ < pZ G
      rw [g8]; omega
    · have ha' : t0.1 ∈ pL G := ha
      rw [g1] at ha'
      rcases List.mem_append.mp ha' with z | z
      · exact z3 z
      · have := List.mem_singleton.mp z; omega
  · rw [pIu_R, pRu_ne hlz, pRu_eq, va_up_ne _ _ hk, g6 l hlz]
  · show _ ≤ pZ G
    omega
theorem c_newlen {n : Nat} (h10 : 10 ≤ n) (h42 : n ≤ 42) : hm_J8_newLength_cabcc P (nI n) (nI (n + 1) - nI n) (nI n >>> ((1 : Int32) &&& 31)) = some (nI (n + n / 2), P) := by
  have e1 : nI (n + 1) - nI n = nI 1 := by rw [pk_sub (by omega)]; congr 1; omega
  have e2 : nI n >>> ((1 : Int32) &&& 31) = nI (n / 2) := sh1 (by omega)
  have e3 : nI 1 < nI (n / 2) := by rw [lt_n (by decide) (by omega)]; omega
  have e4 : ¬ nI (n + n / 2) ≤ (0 : Int32) := by rw [q0, le_n (by omega) (by decide)]; omega
  have e5 : ¬ (2147483639 : Int32) < nI (n + n / 2) := by rw [show (2147483639 : Int32) = nI 2147483639 from rfl, lt_n (by decide) (by omega)]; omega
  unfold hm_J8_newLength_cabcc
  rw [e1, e2]
  simp only [if_pos e3, nI_add, lt_t, if_neg e4, if_neg e5]
theorem c_growd {l b n : Nat} (h1 : kk P l 0 = true) (h2 : pR P l 1 = some b) (h3 : pI P l 2 = nI n) (hb : kk P b 17 = true) (hn : pN P b = n) (h10 : 10 ≤ n) (h42 : n ≤ 42) (hz : CZ t0 P) (hel : ∀ k, k < n → ∃ y, pR P b k = some y ∧ isO P y = true) : hm_Jx4a65c_grow_d5877 t0 P l = some (some (pZ P), pRu (pCq (pNew P 17 (n + n / 2)) b (pZ P) 0 0 n) l 1 (some (pZ P))) := by
  have hbl := kk_lt hz hb
  have hll := kk_lt hz h1
  have e1 : nI n + (1 : Int32) = nI (n + 1) := by rw [q1, nI_add]
  have hbO : kkO t0 P b = true := by unfold kkO; rw [hb, Bool.or_true]
  have hlen : lenO t0 P b = n := by unfold lenO; rw [if_neg hbl.2]; exact hn
  have hpos : (0 : Int32) < nI n := by rw [q0, lt_n (by decide) (by omega)]; omega
  have hlt : ¬ nI (n + n / 2) < nI n := by rw [lt_n (by omega) (by omega)]; omega
  have hv : vle (nI (n + n / 2)) 64 = true := decide_eq_true ⟨nI_pos (by omega), by rw [nI_clamp (by omega)]; omega⟩
  have kb : kk (pNew P 17 (n + n / 2)) b 17 = true := pNew_kk hz.1 hb
  have kbO : kkO t0 (pNew P 17 (n + n / 2)) b = true := by unfold kkO; rw [kb, Bool.or_true]
  have nb : pN (pNew P 17 (n + n / 2)) b = n := by rw [pNew_N (by omega)]; exact hn
  have hlen2 : lenO t0 (pNew P 17 (n + n / 2)) b = n := by unfold lenO; rw [if_neg hbl.2]; exact nb
  have c0 : (0 : Int32).toNatClampNeg = 0 := rfl
  have hcp : cpk n (n + n / 2) (0 : Int32) (0 : Int32) (nI n) = true := decide_eq_true ⟨by decide, by decide, nI_pos (by omega), by rw [c0, nI_clamp (by omega)]; omega, by rw [c0, nI_clamp (by omega)]; omega⟩
  have hos : isOs (pNew P 17 (n + n / 2)) b 0 n = true := by
    unfold isOs
    rw [List.all_eq_true]
    intro i hi
    obtain ⟨y, y1, y2⟩ := hel i (List.mem_range.mp hi)
    rw [Nat.zero_add, pNew_R (by omega), y1]
    exact isO_mono (fun a c => pNew_kk hz.1) y2
  have ec : hm_Jx4a65c_grow_92f84_20 t0 l (nI (n + 1)) (nI n) P = some (some (pZ P), pRu (pCq (pNew P 17 (n + n / 2)) b (pZ P) 0 0 n) l 1 (some (pZ P))) := by
    have kl : kk (pCq (pNew P 17 (n + n / 2)) b (pZ P) 0 0 n) l 0 = true := pNew_kk (n := n + n / 2) hz.1 h1
    unfold hm_Jx4a65c_grow_92f84_20 hm_J7_copyOf_1904c hm_J7_copyOf_6403c
    simp only [c_newlen h10 h42, ck_t, nn_s, bd_s, lt_t, h1, h2, hb, if_true, hv, nI_clamp (show n + n / 2 < 2 ^ 31 by omega), nI_clamp (show n < 2 ^ 31 by omega), kbO, kb, nb, pNew_Nz, hlen2, if_neg hlt, hcp, c0, hos, kl]
  unfold hm_Jx4a65c_grow_d5877 hm_Jx4a65c_grow_92f84
  simp only [ck_t, nn_s, bd_s, lt_t, h1, h2, h3, e1, hbO, hlen, if_pos hpos, ec]
theorem c_grow0 {l : Nat} (h1 : kk P l 0 = true) (h2 : pR P l 1 = some t0.1) (h3 : pI P l 2 = nI 0) (hz : CZ t0 P) : hm_Jx4a65c_grow_d5877 t0 P l = some (some (pZ P), pRu (pNew P 17 10) l 1 (some (pZ P))) := by
  have hbO : kkO t0 P t0.1 = true := by unfold kkO; rw [decide_eq_true rfl, Bool.true_or]
  have hlen : lenO t0 P t0.1 = 0 := by unfold lenO; rw [if_pos rfl]
  have hpos : ¬ (0 : Int32) < nI 0 := by decide
  have hif : (if (10 : Int32) < nI 0 + 1 then nI 0 + 1 else (10 : Int32)) = 10 := if_neg (by decide)
  have hv : vle (10 : Int32) 64 = true := by decide
  have kl : kk (pNew P 17 10) l 0 = true := pNew_kk hz.1 h1
  have hc : (10 : Int32).toNatClampNeg = 10 := rfl
  unfold hm_Jx4a65c_grow_d5877 hm_Jx4a65c_grow_92f84
  simp only [ck_t, nn_s, bd_s, lt_t, h1, h2, h3, hbO, hlen, if_neg hpos, if_true, hif, hv, hc, kl]
theorem c_addA {l b n x : Nat} (h1 : kk P l 0 = true) (h2 : pR P l 1 = some b) (h3 : pI P l 2 = nI n) (hb : kk P b 17 = true) (c : n = pN P b) (hb10 : 10 ≤ pN P b) (hz : CZ t0 P) (hx : isO P x = true) (hn : n ≤ 42) (hel : ∀ k, k < n → ∃ y, pR P b k = some y ∧ isO P y = true) {M : PS} (hM : M = pIu P l 0 (pI P l 0 + 1)) {G : PS} (hG : G = pCq (pNew M 17 (n + n / 2)) b (pZ M) 0 0 n) : GRW P G l b n (n + n / 2) ∧ hm_Jx4a65c_grow_d5877 t0 M l = some (some (pZ P), pRu G l 1 (some (pZ P))) ∧ isO (pRu G l 1 (some (pZ P))) x = true := by
  have hll := kk_lt hz h1
  have hbl := kk_lt hz hb
  have eM : pI M l 2 = nI n := by rw [hM, pIu_eq]; exact h3
  have rM : pR M = pR P := by rw [hM]; rfl
  have jM : pJ M = pJ P := by rw [hM]; rfl
  have nM : pN M = pN P := by rw [hM]; rfl
  have zM : pZ M = pZ P := by rw [hM]; rfl
  have lM : pL M = pL P := by rw [hM]; rfl
  have kM : pK M = pK P := by rw [hM]; rfl
  have kkM : ∀ a c, kk M a c = kk P a c := fun a c => by unfold kk; rw [lM, kM]
  have iM : ∀ a, a ≠ l → pI M a = pI P a := fun a ha => by rw [hM, pIu_ne ha]
  have zc : CZ t0 M := by unfold CZ at *; rw [lM, zM]; exact hz
  have g : GRW P G l b n (n + n / 2) := by
    rw [hG]
    refine ⟨?_, ?_, ?_, fun a h1 h2 => ?_, fun a h1 => ?_, fun a h1 => ?_, fun k hk => ?_, ?_⟩
    · show pL M ++ [pZ M] = _; rw [lM, zM]
    · show va_up (pK M) (pZ M) 17 = _; rw [kM, zM]
    · show va_up (pN M) (pZ M) (n + n / 2) = _; rw [nM, zM]
    · rw [← zM] at h2
      show pI (pNew M 17 (n + n / 2)) a = _
      rw [pNew_I h2, iM a h1]
    · rw [← zM] at h1
      show pJ (pNew M 17 (n + n / 2)) a = _
      rw [pNew_J h1, jM]
    · rw [← zM] at h1
      exact (va_up_ne _ _ h1).trans (by rw [pNew_R h1, rM])
    · rw [← zM]
      have : pR (pCq (pNew M 17 (n + n / 2)) b (pZ M) 0 0 n) (pZ M) = _ := va_up_self _ _ _
      rw [this]
      unfold va_cpy
      have hb' : pR (pNew M 17 (n + n / 2)) b = pR P b := by rw [pNew_R (show b ≠ pZ M by omega), rM]
      simp [hb', hk]
    · show pZ M + 1 = _; rw [zM]
  refine ⟨g, ?_, isO_mono (fun a c => g.kp hz) hx⟩
  have eg := c_growd (t0 := t0) (P := M) (l := l) (b := b) (n := n) ((kkM _ _).trans h1) (by rw [rM]; exact h2) eM ((kkM _ _).trans hb) (by rw [nM]; exact c.symm) (by omega) hn zc (fun k hk => by
    obtain ⟨y, y1, y2⟩ := hel k hk
    exact ⟨y, by rw [rM]; exact y1, isO_mono (fun a c z => (kkM a c).trans z) y2⟩)
  rw [eg, zM, hG, zM]
theorem c_addC {l x : Nat} (h1 : kk P l 0 = true) (h2 : pR P l 1 = some t0.1) (h3 : pI P l 2 = nI 0) (hz : CZ t0 P) (hx : isO P x = true) {M : PS} (hM : M = pIu P l 0 (pI P l 0 + 1)) {G : PS} (hG : G = pNew M 17 10) : GRW P G l t0.1 0 10 ∧ hm_Jx4a65c_grow_d5877 t0 M l = some (some (pZ P), pRu G l 1 (some (pZ P))) ∧ isO (pRu G l 1 (some (pZ P))) x = true := by
  have eM : pI M l 2 = nI 0 := by rw [hM, pIu_eq]; exact h3
  have rM : pR M = pR P := by rw [hM]; rfl
  have jM : pJ M = pJ P := by rw [hM]; rfl
  have nM : pN M = pN P := by rw [hM]; rfl
  have zM : pZ M = pZ P := by rw [hM]; rfl
  have lM : pL M = pL P := by rw [hM]; rfl
  have kM : pK M = pK P := by rw [hM]; rfl
  have kkM : ∀ a c, kk M a c = kk P a c := fun a c => by unfold kk; rw [lM, kM]
  have iM : ∀ a, a ≠ l → pI M a = pI P a := fun a ha => by rw [hM, pIu_ne ha]
  have zc : CZ t0 M := by unfold CZ at *; rw [lM, zM]; exact hz
  have g : GRW P G l t0.1 0 10 := by
    rw [hG]
    refine ⟨?_, ?_, ?_, fun a h1 h2 => ?_, fun a h1 => ?_, fun a h1 => ?_, fun k hk => absurd hk (Nat.not_lt_zero _), ?_⟩
    · show pL M ++ [pZ M] = _; rw [lM, zM]
    · show va_up (pK M) (pZ M) 17 = _; rw [kM, zM]
    · show va_up (pN M) (pZ M) 10 = _; rw [nM, zM]
    · rw [← zM] at h2
      rw [pNew_I h2, iM a h1]
    · rw [← zM] at h1
      rw [pNew_J h1, jM]
    · rw [← zM] at h1
      rw [pNew_R h1, rM]
    · show pZ M + 1 = _; rw [zM]
  refine ⟨g, ?_, isO_mono (fun a c => g.kp hz) hx⟩
  have eg := c_grow0 (t0 := t0) (P := M) (l := l) ((kkM _ _).trans h1) (by rw [rM]; exact h2) eM zc
  rw [eg, zM, hG]
theorem c_addD {l b n x m : Nat} (h1 : kk P l 0 = true) (h2 : pR P l 1 = some b) (h3 : pI P l 2 = nI n) (hz : CZ t0 P) (hn : n ≤ 42) (hnm : n < m) (hm : m ≤ 64) (hbO : kkO t0 P b = true) (hlen : lenO t0 P b = n) {M : PS} (hM : M = pIu P l 0 (pI P l 0 + 1)) {G : PS} (g : GRW P G l b n m) (eg : hm_Jx4a65c_grow_d5877 t0 M l = some (some (pZ P), pRu G l 1 (some (pZ P)))) (ix : isO (pRu G l 1 (some (pZ P))) x = true) : hm_Jx4a65c_add_9ea2d t0 P l x = some (1, pIu (pRu (pRu G l 1 (some (pZ P))) (pZ P) n (some x)) l 2 (nI (n + 1))) := by
  have e1 : nI n + (1 : Int32) = nI (n + 1) := by rw [q1, nI_add]
  have kM : kk M l 0 = true := by rw [hM]; exact h1
  have rM : pR M l 1 = some b := by rw [hM]; exact h2
  have eM : pI M l 2 = nI n := by rw [hM, pIu_eq]; exact h3
  have oM : kkO t0 M b = true := by rw [hM]; exact hbO
  have nM : lenO t0 M b = n := by rw [hM]; exact hlen
  have kz : kk (pRu G l 1 (some (pZ P))) (pZ P) 17 = true := g.kz
  have nz : pN (pRu G l 1 (some (pZ P))) (pZ P) = m := by
    show pN G (pZ P) = m
    rw [g.2.2.1, va_up_self]
  have kl : kk (pRu (pRu G l 1 (some (pZ P))) (pZ P) n (some x)) l 0 = true := g.kp hz h1
  unfold hm_Jx4a65c_add_9ea2d
  rw [h1, ck_t, ← hM]
  simp only [lt_t]
  rw [rM, nn_s, eM]
  unfold hm_Jx4a65c_add_72be8 hm_Jx4a65c_add_72be8_11
  rw [oM, ck_t, nM, if_pos rfl, eg, bd_s]
  rw [kM, ck_t, nn_s, kz, ck_t, nz, vin_n (show n < 2 ^ 31 by omega), decide_eq_true hnm, ck_t, ix, ck_t]
  simp only [lt_t, nI_clamp (show n < 2 ^ 31 by omega)]
  rw [kl, ck_t, e1]
  rfl
theorem c_addB {l b n x : Nat} (h1 : kk P l 0 = true) (h2 : pR P l 1 = some b) (h3 : pI P l 2 = nI n) (hb : kk P b 17 = true) (c : n < pN P b) (hb64 : pN P b ≤ 64) (hb10 : 10 ≤ pN P b) (hz : CZ t0 P) (hx : isO P x = true) (hn : n ≤ 42) : ∃ P', hm_Jx4a65c_add_9ea2d t0 P l x = some (1, P') ∧ AddR t0 P P' l b b n x ∧ pZ P' = pZ P := by
  have hll := kk_lt hz h1
  have hlb : l ≠ b := kk_ne h1 hb (by decide)
  have hbl := kk_lt hz hb
  have hbO : kkO t0 P b = true := by unfold kkO; rw [hb, Bool.or_true]
  have hlen : lenO t0 P b = pN P b := by unfold lenO; rw [if_neg hbl.2]
  have hne : ¬ nI n = nI (pN P b) := by rw [ne_n (by omega) (by omega)]; omega
  have e1 : nI n + (1 : Int32) = nI (n + 1) := by rw [q1, nI_add]
  generalize hM : pIu P l 0 (pI P l 0 + 1) = M
  have kkM : ∀ a c, kk M a c = kk P a c := fun a c => by rw [← hM]; rfl
  have rM : pR M = pR P := by rw [← hM]; rfl
  have jM : pJ M = pJ P := by rw [← hM]; rfl
  have nM : pN M = pN P := by rw [← hM]; rfl
  have zM : pZ M = pZ P := by rw [← hM]; rfl
  have lM : pL M = pL P := by rw [← hM]; rfl
  have eM : pI M l 2 = nI n := by rw [← hM, pIu_eq]; exact h3
  have iM : ∀ a, a ≠ l → pI M a = pI P a := fun a ha => by rw [← hM, pIu_ne ha]
  have oM : kkO t0 M b = true := by unfold kkO; rw [kkM, hb, Bool.or_true]
  have lnM : lenO t0 M b = pN P b := by unfold lenO; rw [if_neg hbl.2, nM]
  have xM : isO M x = true := isO_mono (fun a c z => (kkM a c).trans z) hx
  have zc : CZ t0 M := by unfold CZ at *; rw [lM, zM]; exact hz
  refine ⟨pIu (pRu M b n (some x)) l 2 (nI (n + 1)), ?_, ?_, zM⟩
  · have kl : kk (pRu M b n (some x)) l 0 = true := (kkM _ _).trans h1
    unfold hm_Jx4a65c_add_9ea2d
    rw [h1, ck_t, hM]
    simp only [lt_t]
    rw [rM, h2, nn_s, eM]
    unfold hm_Jx4a65c_add_72be8 hm_Jx4a65c_add_72be8_11
    rw [oM, ck_t, lnM, if_neg hne, nn_s, kkM, hb, ck_t, nM, vin_n (show n < 2 ^ 31 by omega), decide_eq_true c, ck_t, xM, ck_t]
    simp only [lt_t, nI_clamp (show n < 2 ^ 31 by omega)]
    rw [kl, ck_t, e1]
    rfl
  · refine ⟨⟨(kkM _ _).trans h1, ?_, ?_, by omega, Or.inl ⟨(kkM _ _).trans hb, ?_, ?_, ?_⟩⟩, fun k hk => ?_, ?_, Or.inl rfl, fun a c z => (kkM _ _).trans z, fun a z => Or.inl (by rw [← lM]; exact z), fun a h1 h2 => ?_, fun a h1 h2 h3 => ?_, fun a h1 => ?_, fun a h1 => ?_, zc, fun k hk => ?_, by rw [pIu_Z, pRu_Z, zM]; exact Nat.le_refl _, fun z => absurd z (by omega)⟩
    · rw [pIu_R, pRu_ne hlb, rM]; exact h2
    · rw [pIu_eq]; rfl
    · rw [pIu_N, pRu_N, nM]; omega
    · rw [pIu_N, pRu_N, nM]; exact hb64
    · rw [pIu_N, pRu_N, nM]; exact hb10
    · rw [pIu_R, pRu_eq, va_up_ne _ _ (by omega), rM]
    · rw [pIu_R, pRu_eq, va_up_self]
    · rw [pIu_ne h1, pRu_I, iM a h1]
    · rw [pIu_R, pRu_ne (h2.resolve_right (fun z => hbl.2 z)), rM]
    · rw [pIu_J, pRu_J, jM]
    · rw [pIu_N, pRu_N, nM]
    · rw [pIu_R, pRu_ne hlb, rM]
theorem c_add {l b n x : Nat} (h : LW t0 P l b n) (hz : CZ t0 P) (hx : isO P x = true) (hn : n ≤ 42) (hel : n = pN P b → ∀ k, k < n → ∃ y, pR P b k = some y ∧ isO P y = true) : ∃ P' b', hm_Jx4a65c_add_9ea2d t0 P l x = some (1, P') ∧ AddR t0 P P' l b b' n x := by
  obtain ⟨h1, h2, h3, h4, h5⟩ := h
  rcases h5 with ⟨hb, hnb, hb64, hb10⟩ | ⟨hb, hn0⟩
  · by_cases c : n = pN P b
    · obtain ⟨g, eg, ix⟩ := c_addA h1 h2 h3 hb c hb10 hz hx hn (hel c) rfl rfl
      have hbl := kk_lt hz hb
      exact ⟨_, pZ P, c_addD h1 h2 h3 hz hn (show n < n + n / 2 by omega) (by omega) (by unfold kkO; rw [hb, Bool.or_true]) (by unfold lenO; rw [if_neg hbl.2]; exact c.symm) rfl g eg ix, g.add hz h1 (by omega) (by omega) (by omega) hn⟩
    · obtain ⟨P', e, a, -⟩ := c_addB h1 h2 h3 hb (by omega) hb64 hb10 hz hx hn
      exact ⟨P', b, e, a⟩
  · subst hb
    subst hn0
    obtain ⟨g, eg, ix⟩ := c_addC h1 h2 h3 hz hx rfl rfl
    exact ⟨_, pZ P, c_addD h1 h2 h3 hz hn (by decide) (by decide) (by unfold kkO; rw [decide_eq_true rfl, Bool.true_or]) (by unfold lenO; rw [if_pos rfl]) rfl g eg ix, g.add hz h1 (by decide) (by decide) (by decide) hn⟩
end PCG
