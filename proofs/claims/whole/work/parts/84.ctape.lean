section PCT
variable {t0 : TS} {ad : DD} {A : AA} {P : PS} {w : Nat}
def setJ (P : PS) (J : Nat → Nat → Int64) : PS := (pL P, pK P, pN P, pI P, J, pR P, pZ P)
theorem CC.sJ (h : CC t0 ad A P) {J : Nat → Nat → Int64} {x : (Nat → Int32) × (Nat → Nat) × (Nat → Nat → Int64)} (h7 : C7 ad (uP A x) (setJ P J)) : CC t0 ad (uP A x) (setJ P J) := by
  obtain ⟨h1, h2, h3, h4, h5, h6, -, h8, h9, h10, h11⟩ := h
  exact ⟨h1, h2, h3, h4, h5, h6, h7, h8, h9, h10, h11⟩
theorem c_fil {a : Nat} (hk : kk P a 13 = true) (hn : pN P a = 60) : ∀ (n k fuel : Nat) (J : Nat → Nat → Int64), k + n = 60 → n < fuel → (∀ i, i < k → J a i = 0) → ∃ J', hm_J7_fill_d0a16_6L fuel a 0 (nI k) (nI 60) (setJ P J) = some (0, setJ P J') ∧ (∀ i, i < 60 → J' a i = 0) ∧ ∀ b, b ≠ a → J' b = J b := by
  intro n
  induction n with
  | zero =>
    intro k fuel J hkn hf hz
    obtain ⟨fu, rfl⟩ : ∃ fu, fuel = fu + 1 := ⟨fuel - 1, by omega⟩
    obtain rfl : k = 60 := by omega
    exact ⟨J, rfl, hz, fun _ _ => rfl⟩
  | succ n ih =>
    intro k fuel J hkn hf hz
    obtain ⟨fu, rfl⟩ : ∃ fu, fuel = fu + 1 := ⟨fuel - 1, by omega⟩
    have e1 : nI k + (1 : Int32) = nI (k + 1) := by rw [q1, nI_add]
    obtain ⟨J', e, a1, a2⟩ := ih (k + 1) fu (va_up J a (vp_updL (J a) k 0)) (by omega) (by omega) (fun i hi => by
      rw [va_up_self]
      by_cases q : i = k
      · subst q
        exact if_pos rfl
      · exact (if_neg q).trans (hz i (by omega)))
    refine ⟨J', ?_, a1, fun b hb => (a2 b hb).trans (va_up_ne _ _ hb)⟩
    have hle : ¬ nI 60 ≤ nI k := by rw [le_n (by omega) (by omega)]; omega
    have hk' : kk (setJ P J) a 13 = true := hk
    have hn' : pN (setJ P J) a = 60 := hn
    show hm_J7_fill_d0a16_6 _ _ _ _ _ _ = _
    unfold hm_J7_fill_d0a16_6
    simp only [if_neg hle, ck_t, nn_s, bd_s, lt_t, hk', hn', vin_n (show k < 2 ^ 31 by omega), decide_eq_true (show k < 60 by omega), nI_clamp (show k < 2 ^ 31 by omega), e1]
    exact e
theorem c_bec (hW : WF A) (h : CC t0 ad A P) {t : Nat} (ht : t < 6) {s : Int32} {n : Nat} : ∃ P', hm_X6_become P (ad (30 + t)) s (nI n) = some (0, P') ∧ CC t0 ad (uP A (va_up (aTs A) t s, va_up (aTl A) t n, va_up (aTi A) t (fun _ => 0))) P' := by
  obtain ⟨-, r0, n0⟩ := h.1.2.2.2.2.1 t ht
  have f1 : frI ad A P (pIu P (ad (30 + t)) 1 s) (fun i => i = 30 + t) := h.fI (lv_t ht).1 rfl
  have f2 : frI ad A (pIu P (ad (30 + t)) 1 s) (pIu (pIu P (ad (30 + t)) 1 s) (ad (30 + t)) 2 (nI n)) (fun i => i = 30 + t) := ⟨rfl, rfl, rfl, rfl, rfl, rfl, fun i hi hn => pIu_ne (h.ne hi (lv_t ht).1 hn)⟩
  have f := f1.tr f2
  obtain ⟨J', e, a1, a2⟩ := c_fil (P := pIu (pIu P (ad (30 + t)) 1 s) (ad (30 + t)) 2 (nI n)) (a := ad (40 + t)) (h.kJ ht) n0 60 0 4000 (pJ P) rfl (by decide) (fun i hi => absurd hi (Nat.not_lt_zero _))
  have kt := h.kT ht
  have kj := h.kJ ht
  refine ⟨setJ (pIu (pIu P (ad (30 + t)) 1 s) (ad (30 + t)) 2 (nI n)) J', ?_, ?_⟩
  · unfold hm_X6_become hm_J7_fill_d0a16
    simp only [ck_t, nn_s, bd_s, lt_t, kt, pIu_R, r0, pIu_kk, kj, pIu_N, n0]
    have e' : hm_J7_fill_d0a16_6L 4000 (ad (40 + t)) 0 0 (nI 60) (pIu (pIu P (ad (30 + t)) 1 s) (ad (30 + t)) 2 (nI n)) = _ := e
    rw [e', bd_s]
  · have h7 := h.2.2.2.2.2.2.1
    obtain ⟨h1, h2, h3, h4, h5, h6, -, h8, h9, h10, h11⟩ := h
    have g1 := h1.fI f
    have g2 := h2.fI f (fun p hp => by omega)
    have g3 := h3.fI f (by omega) (fun w hw => ⟨by omega, by omega⟩)
    have g4 := h4.fI f (by omega) (fun i hi => by omega)
    have g5 := h5.fI f (by omega) (by omega)
    have g6 := h6.fI f (by omega)
    have g8 := h8.fI f (by omega) (by omega)
    have g9 := h9.fI f (by omega)
    have g10 := h10.fI f
    have g11 := h11.fI f
    refine ⟨g1, g2, g3, g4, g5, g6, fun t' ht' => ?_, g8, g9, g10, g11⟩
    show pI (pIu (pIu P (ad (30 + t)) 1 s) (ad (30 + t)) 2 (nI n)) (ad (30 + t')) 1 = va_up (aTs A) t s t' ∧ pI (pIu (pIu P (ad (30 + t)) 1 s) (ad (30 + t)) 2 (nI n)) (ad (30 + t')) 2 = nI (va_up (aTl A) t n t') ∧ ∀ i, i < 60 → J' (ad (40 + t')) i = va_up (aTi A) t (fun _ => 0) t' i
    by_cases q : t' = t
    · subst q
      rw [pIu_eq, pIu_eq, va_up_self, va_up_self, va_up_self]
      exact ⟨rfl, rfl, a1⟩
    · rw [f.2.2.2.2.2.2 _ (lv_t ht').1 (by omega), va_up_ne _ _ q, va_up_ne _ _ q, va_up_ne _ _ q]
      obtain ⟨b1, b2, b3⟩ := h7 t' ht'
      refine ⟨b1, b2, fun i hi => ?_⟩
      have hne : ad (40 + t') ≠ ad (40 + t) := fun z => by
        have := h10.2.1 _ _ (lv_t ht').2 (lv_t ht).2 z
        omega
      rw [a2 _ hne]
      exact b3 i hi
theorem cu_tape (hW : WF A) (h : CC t0 ad A P) (a b c : Int32) : ∃ P', hm_X8_tape P (ad 0) a b c = some ((sTape A a b c).1, P') ∧ CC t0 ad (sTape A a b c).2 P' := by
  unfold hm_X8_tape hm_X8_tape_24 sTape
  simp only [ck_t, nn_s, bd_s, lt_t, c_tapeAt h, h.k0]
  cases h1 : ix 6 a with
  | none => exact ⟨P, rfl, h⟩
  | some t =>
  obtain ⟨ht, rfl⟩ := ix_s (by decide) h1
  have kt := h.kT ht
  simp only [Option.map_some, nlS]
  by_cases c1 : b = -1
  · subst c1
    rw [if_neg (show ¬ (-1 : Int32) < -1 by decide), if_pos (show (-1 : Int32) ≤ 4 by decide), if_pos rfl]
    obtain ⟨P', e, h'⟩ := c_bec hW h ht (s := -1) (n := 0)
    refine ⟨P', ?_, h'⟩
    have e' : hm_X6_become P (ad (30 + t)) (-1) 0 = _ := e
    rw [e', bd_s, kt, ck_t]
    rfl
  · rw [if_neg c1]
    cases h2 : ix 5 b with
    | none =>
      rcases ix_n h2 with z | z
      · have hb : b < -1 := by
          rw [Int32.lt_iff_toInt_lt] at z ⊢
          have h0 : (0 : Int32).toInt = 0 := rfl
          have h1 : (-1 : Int32).toInt = -1 := rfl
          have h3 : b.toInt ≠ -1 := fun y => c1 (Int32.toInt_inj.mp (y.trans h1.symm))
          omega
        rw [if_pos hb]
        exact ⟨P, by rw [if_neg c1], by rw [if_neg c1]; exact h⟩
      · have hb1 : ¬ b < -1 := by
          rw [Int32.le_iff_toInt_le] at z
          rw [Int32.lt_iff_toInt_lt]
          have h0 : (nI 5).toInt = 5 := rfl
          have h1 : (-1 : Int32).toInt = -1 := rfl
          omega
        have hb2 : ¬ b ≤ 4 := by
          rw [Int32.le_iff_toInt_le] at z ⊢
          have h0 : (nI 5).toInt = 5 := rfl
          have h1 : (4 : Int32).toInt = 4 := rfl
          omega
        rw [if_neg hb1, if_neg hb2]
        exact ⟨P, by rw [if_neg c1], by rw [if_neg c1]; exact h⟩
    | some s =>
      obtain ⟨hs, rfl⟩ := ix_s (by decide) h2
      have hb1 : ¬ nI s < -1 := by
        have : ∀ s, s < 5 → ¬ nI s < -1 := by decide
        exact this s hs
      have hb2 : nI s ≤ 4 := by rw [q4, le_n (by omega) (by decide)]; omega
      rw [if_neg hb1, if_pos hb2]
      simp only [if_neg c1]
      have hc : c ≤ 60 ↔ ¬ nI 60 < c := le_not
      by_cases d1 : nI 60 < c
      · rw [if_neg (fun z => hc.mp z d1), if_pos d1]
        exact ⟨P, rfl, h⟩
      · rw [if_pos (hc.mpr d1), if_neg d1]
        have h0c : (0 : Int32) ≤ c ↔ ¬ c < 0 := le_not
        by_cases d2 : c < 0
        · rw [if_neg (fun z => h0c.mp z d2), if_pos d2]
          exact ⟨P, rfl, h⟩
        · rw [if_pos (h0c.mpr d2), if_neg d2]
          have hcn : c = nI c.toNatClampNeg := by
            rcases pk_ix c (n := 61) (by decide) with z | z | ⟨i, hi, rfl⟩
            · exact absurd z d2
            · exfalso
              apply d1
              rw [Int32.le_iff_toInt_le] at z
              rw [Int32.lt_iff_toInt_lt]
              have h0 : (nI 61).toInt = 61 := rfl
              have h1 : (nI 60).toInt = 60 := rfl
              omega
            · rw [nI_clamp (by omega)]
          obtain ⟨P', e, h'⟩ := c_bec hW h ht (s := nI s) (n := c.toNatClampNeg)
          rw [← hcn] at e
          refine ⟨P', ?_, h'⟩
          rw [e, bd_s, kt, ck_t]
theorem c_fit (hW : WF A) (h : CC t0 ad A P) {t : Nat} (ht : t < 6) (hs : ¬ aTs A t = -1) (v : Int64) : hm_X6_fitted P (ad (30 + t)) v = some (nrw (aTs A t) v, P) := by
  obtain ⟨j1, -⟩ := h.2.2.2.2.2.2.1 t ht
  unfold hm_X6_fitted nrw
  rw [h.kT ht, ck_t, j1]
  rcases (hW.2.2.2.2.2.2.2.2.2 t ht).1 with z | ⟨k, hk, z⟩
  · exact absurd z hs
  · rw [z]
    have : k = 0 ∨ k = 1 ∨ k = 2 ∨ k = 3 ∨ k = 4 := by omega
    rcases this with rfl | rfl | rfl | rfl | rfl
    · rfl
    · rfl
    · rfl
    · rfl
    · show (if lg_cmp v 0 = 0 then some ((0 : Int64), P) else some (1, P)) = some (if v = 0 then 0 else 1, P)
      by_cases q : v = 0
      · rw [if_pos (cmp_0 ▸ q), if_pos q]
      · rw [if_neg (cmp_0 ▸ q), if_neg q]
theorem cu_item (hW : WF A) (h : CC t0 ad A P) (a b : Int32) (v : Int64) : ∃ P', hm_X8_item P (ad 0) a b v = some ((sItem A a b v).1, P') ∧ CC t0 ad (sItem A a b v).2 P' := by
  unfold hm_X8_item sItem
  simp only [ck_t, nn_s, bd_s, lt_t, c_tapeAt h, h.k0]
  cases h1 : ix 6 a with
  | none => exact ⟨P, rfl, h⟩
  | some t =>
  obtain ⟨ht, rfl⟩ := ix_s (by decide) h1
  have hl := tl60 hW ht
  have kt := h.kT ht
  have kj := h.kJ ht
  obtain ⟨j1, j2, j5⟩ := h.2.2.2.2.2.2.1 t ht
  obtain ⟨-, j3, j4⟩ := h.1.2.2.2.2.1 t ht
  simp only [Option.map_some, nlS, kt, ck_t, j1]
  by_cases c : aTs A t = -1
  · rw [if_pos c]
    simp only [if_pos c]
    exact ⟨P, rfl, h⟩
  · rw [if_neg c]
    simp only [if_neg c]
    unfold hm_X6_put
    simp only [ck_t, nn_s, bd_s, lt_t, c_hasP hW h ht, kt, j3, c_fit hW h ht c, kj, j4]
    cases h2 : ix (aTl A t) b with
    | none => exact ⟨P, rfl, h⟩
    | some i =>
      obtain ⟨hi, rfl⟩ := ix_s (by omega) h2
      refine ⟨setJ P (va_up (pJ P) (ad (40 + t)) (vp_updL (pJ P (ad (40 + t))) i (nrw (aTs A t) v))), ?_, h.sJ (fun t' ht' => ?_)⟩
      · rw [if_neg (isome_n rfl), if_neg (isome_n rfl), vin_n (by omega), decide_eq_true (show i < 60 by omega), ck_t, nI_clamp (by omega)]
        rfl
      · show pI P (ad (30 + t')) 1 = aTs A t' ∧ pI P (ad (30 + t')) 2 = nI (aTl A t') ∧ ∀ j, j < 60 → va_up (pJ P) (ad (40 + t)) (vp_updL (pJ P (ad (40 + t))) i (nrw (aTs A t) v)) (ad (40 + t')) j = va_up (aTi A) t (va_up (aTi A t) i (nrw (aTs A t) v)) t' j
        obtain ⟨b1, b2, b3⟩ := h.2.2.2.2.2.2.1 t' ht'
        refine ⟨b1, b2, fun j hj => ?_⟩
        by_cases q : t' = t
        · subst q
          rw [va_up_self, va_up_self, va_upN]
          show (if j = i then nrw (aTs A t') v else pJ P (ad (40 + t')) j) = _
          by_cases z : j = i
          · rw [if_pos z, if_pos z]
          · rw [if_neg z, if_neg z]
            exact b3 j hj
        · rw [va_up_ne _ _ (h.ne (lv_t ht').2 (lv_t ht).2 (by omega)), va_up_ne _ _ q]
          exact b3 j hj
theorem ix61 {a : Int32} (h : ix 61 a = none) : a < 0 ∨ ∀ n, n ≤ 60 → nI n < a := by
  rcases ix_n h with z | z
  · exact Or.inl z
  · right
    intro n hn
    rw [Int32.le_iff_toInt_le, nI_toInt (by decide)] at z
    rw [Int32.lt_iff_toInt_lt, nI_toInt (by omega)]
    omega
theorem c_str (hW : WF A) (h : CC t0 ad A P) {t : Nat} (ht : t < 6) (a n : Int32) : hm_X6_hasStretch P (ad (30 + t)) a n = some (nI (match ix 61 n, ix 61 a with
    | some m, some i => decide (i + m ≤ aTl A t)
    | _, _ => false).toNat, P) := by
  have hl := tl60 hW ht
  obtain ⟨j1, j2, j5⟩ := h.2.2.2.2.2.2.1 t ht
  obtain ⟨-, j3, j4⟩ := h.1.2.2.2.2.1 t ht
  unfold hm_X6_hasStretch hm_X6_hasStretch_42
  simp only [ck_t, nn_s, bd_s, lt_t, h.kT ht, j2, j3, h.kJ ht, j4]
  by_cases n0 : n < 0
  · rw [if_pos n0]
    have : ix 61 n = none := by unfold ix; rw [if_pos (Or.inl n0)]
    rw [this]
    rfl
  · rw [if_neg n0]
    by_cases a0 : a < 0
    · rw [if_pos a0]
      have : ix 61 a = none := by unfold ix; rw [if_pos (Or.inl a0)]
      rw [this]
      cases ix 61 n <;> rfl
    · rw [if_neg a0]
      have h60 : ¬ nI 60 < nI (aTl A t) := by rw [lt_n (by omega) (by omega)]; omega
      cases ha : ix 61 a with
      | none =>
        rcases ix61 ha with z | z
        · exact absurd z a0
        · rw [if_pos (z _ hl)]
          cases ix 61 n <;> rfl
      | some i =>
        obtain ⟨hi, rfl⟩ := ix_s (by decide) ha
        by_cases c : aTl A t < i
        · rw [if_pos (by rw [lt_n (by omega) (by omega)]; exact c)]
          cases ix 61 n with
          | none => rfl
          | some m =>
            simp only
            rw [decide_eq_false (by omega)]
            rfl
        · rw [if_neg (by rw [lt_n (by omega) (by omega)]; exact c), pk_sub (by omega)]
          cases hn : ix 61 n with
          | none =>
            rcases ix61 hn with z | z
            · exact absurd z n0
            · rw [if_pos (z _ (by omega))]
              rfl
          | some m =>
            obtain ⟨hm, rfl⟩ := ix_s (by decide) hn
            by_cases d : aTl A t - i < m
            · rw [if_pos (by rw [lt_n (by omega) (by omega)]; exact d)]
              simp only
              rw [decide_eq_false (by omega)]
              rfl
            · rw [if_neg (by rw [lt_n (by omega) (by omega)]; exact d), if_neg h60]
              simp only
              rw [decide_eq_true (show i + m ≤ aTl A t by omega)]
              rfl
theorem cu_shift (hW : WF A) (h : CC t0 ad A P) (a b c d n : Int32) : ∃ P', hm_X8_shift P (ad 0) a b c d n = some ((sShift A a b c d n).1, P') ∧ CC t0 ad (sShift A a b c d n).2 P' := by
  unfold hm_X8_shift hm_X8_shift_24 hm_X8_shift_44 hm_X8_shift_86 sShift
  simp only [ck_t, nn_s, bd_s, lt_t, c_tapeAt h, h.k0]
  cases h1 : ix 6 a with
  | none => exact ⟨P, rfl, h⟩
  | some t =>
  cases h2 : ix 6 c with
  | none => exact ⟨P, rfl, h⟩
  | some o =>
  obtain ⟨ht, rfl⟩ := ix_s (by decide) h1
  obtain ⟨ho, rfl⟩ := ix_s (by decide) h2
  have hlt := tl60 hW ht
  have hlo := tl60 hW ho
  obtain ⟨j1, -⟩ := h.2.2.2.2.2.2.1 t ht
  obtain ⟨k1, -⟩ := h.2.2.2.2.2.2.1 o ho
  obtain ⟨-, j3, j4⟩ := h.1.2.2.2.2.1 t ht
  obtain ⟨-, k3, k4⟩ := h.1.2.2.2.2.1 o ho
  simp only [Option.map_some, nlS, ck_t, nn_s, bd_s, lt_t, h.kT ht, h.kT ho, j1, k1, c_str hW h ht, c_str hW h ho, j3, k3, h.kJ ht, h.kJ ho, j4, k4]
  by_cases c1 : aTs A t = -1
  · rw [if_pos c1]
    simp only [c1, true_or, if_true]
    exact ⟨P, rfl, h⟩
  · rw [if_neg c1]
    by_cases c2 : aTs A o = -1
    · rw [if_pos c2]
      simp only [c2, or_true, if_true]
      exact ⟨P, rfl, h⟩
    · rw [if_neg c2]
      simp only [c1, c2, or_self, if_false]
      by_cases c3 : aTs A t = aTs A o
      · rw [if_pos c3]
        simp only [c3, ne_eq, not_true_eq_false, if_false]
        cases hn : ix 61 n with
        | none => exact ⟨P, if_pos rfl, h⟩
        | some m =>
        cases hb : ix 61 b with
        | none => exact ⟨P, if_pos rfl, h⟩
        | some i =>
        obtain ⟨hm, rfl⟩ := ix_s (by decide) hn
        obtain ⟨hi, rfl⟩ := ix_s (by decide) hb
        cases hd : ix 61 d with
        | none =>
          by_cases d1 : i + m ≤ aTl A t
          · simp only [d1, decide_true]
            rw [if_neg (show ¬ nI true.toNat = 0 by decide)]
            exact ⟨P, if_pos rfl, h⟩
          · simp only [d1, decide_false]
            rw [if_pos (show nI false.toNat = 0 from rfl)]
            exact ⟨P, rfl, h⟩
        | some j =>
          obtain ⟨hj, rfl⟩ := ix_s (by decide) hd
          by_cases d1 : i + m ≤ aTl A t
          · by_cases d2 : j + m ≤ aTl A o
            · simp only [d1, d2, decide_true, and_self, if_true]
              rw [if_neg (show ¬ nI true.toNat = 0 by decide)]
              have hcp : cpk 60 60 (nI i) (nI j) (nI m) = true := by
                unfold cpk
                rw [nI_clamp (by omega), nI_clamp (by omega), nI_clamp (by omega)]
                exact decide_eq_true ⟨nI_pos (by omega), nI_pos (by omega), nI_pos (by omega), by omega, by omega⟩
              rw [if_neg (show ¬ nI true.toNat = 0 by decide), hcp, ck_t, nI_clamp (by omega), nI_clamp (by omega), nI_clamp (by omega)]
              refine ⟨setJ P (va_up (pJ P) (ad (40 + o)) (va_cpy (pJ P (ad (40 + t))) (pJ P (ad (40 + o))) i j m)), rfl, h.sJ (fun t' ht' => ?_)⟩
              show pI P (ad (30 + t')) 1 = aTs A t' ∧ pI P (ad (30 + t')) 2 = nI (aTl A t') ∧ ∀ x, x < 60 → va_up (pJ P) (ad (40 + o)) (va_cpy (pJ P (ad (40 + t))) (pJ P (ad (40 + o))) i j m) (ad (40 + t')) x = va_up (aTi A) o (va_cpy (aTi A t) (aTi A o) i j m) t' x
              obtain ⟨b1, b2, b3⟩ := h.2.2.2.2.2.2.1 t' ht'
              refine ⟨b1, b2, fun x hx => ?_⟩
              by_cases q : t' = o
              · subst q
                rw [va_up_self, va_up_self]
                obtain ⟨-, -, b4⟩ := h.2.2.2.2.2.2.1 t ht
                by_cases z : j ≤ x ∧ x < j + m
                · rw [pk_cpy_in z.1 z.2, pk_cpy_in z.1 z.2]
                  exact b4 _ (by omega)
                · rw [pk_cpy_out (by omega), pk_cpy_out (by omega)]
                  exact b3 x hx
              · rw [va_up_ne _ _ (h.ne (lv_t ht').2 (lv_t ho).2 (by omega)), va_up_ne _ _ q]
                exact b3 x hx
            · simp only [d1, d2, decide_true, decide_false, and_false, if_false]
              rw [if_neg (show ¬ nI true.toNat = 0 by decide), if_pos (show nI false.toNat = 0 from rfl)]
              exact ⟨P, rfl, h⟩
          · simp only [d1, decide_false, false_and, if_false]
            rw [if_pos (show nI false.toNat = 0 from rfl)]
            exact ⟨P, rfl, h⟩
      · rw [if_neg c3]
        simp only [c3, ne_eq, not_false_eq_true, if_true]
        exact ⟨P, rfl, h⟩
end PCT
