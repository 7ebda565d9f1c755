section PCQ5
variable {t0 : TS} {ad : DD} {A : AA} {P : PS} {e sh ju B s l w : Nat}
theorem vS_p {sh ju : Nat} : vS A sh ju 0 = (sh, ju, (fun _ => 0), fun _ => false) := by
  unfold vS
  rw [pcn_0]
theorem cn_msk {f : Nat → Bool} {N : Nat} (hN : N ≤ 14) : cn (msk f N).testBit 14 = cn f N := by
  have h1 : ∀ n, n ≤ N → cn (msk f N).testBit n = cn f n := fun n hn => cn_cong (fun i hi => by rw [msk_t, decide_eq_true (show i < N by omega), Bool.true_and])
  have h2 : ∀ m, cn (msk f N).testBit (N + m) = cn (msk f N).testBit N := by
    intro m
    induction m with
    | zero => rfl
    | succ m ih =>
      show cn (msk f N).testBit (N + m) + ((msk f N).testBit (N + m)).toNat = _
      rw [ih, msk_t, decide_eq_false (show ¬ N + m < N by omega), Bool.false_and]
      rfl
  have h3 := h2 (14 - N)
  rw [show N + (14 - N) = 14 by omega] at h3
  rw [h3, h1 N (Nat.le_refl _)]
theorem msk_xor {f g : Nat → Bool} {N : Nat} : msk f N ^^^ msk g N = msk (fun i => f i != g i) N := by
  apply Nat.eq_of_testBit_eq
  intro i
  rw [Nat.testBit_xor, msk_t, msk_t, msk_t]
  cases decide (i < N) <;> simp
theorem cn_four {f : Nat → Bool} : ∀ n, cn f (4 * n) = cn (fun w => f (4 * w)) n + cn (fun w => f (4 * w + 1)) n + cn (fun w => f (4 * w + 2)) n + cn (fun w => f (4 * w + 3)) n
  | 0 => rfl
  | n + 1 => by
    have ih := cn_four (f := f) n
    show cn f (4 * n) + (f (4 * n)).toNat + (f (4 * n + 1)).toNat + (f (4 * n + 2)).toNat + (f (4 * n + 3)).toNat = (cn (fun w => f (4 * w)) n + (f (4 * n)).toNat) + (cn (fun w => f (4 * w + 1)) n + (f (4 * n + 1)).toNat) + (cn (fun w => f (4 * w + 2)) n + (f (4 * n + 2)).toNat) + (cn (fun w => f (4 * w + 3)) n + (f (4 * n + 3)).toNat)
    omega
def hgD (A : AA) (r e w : Nat) : Bool := hrE A (vp A r) (aL A r) e w != hrE A (vm A r) (aL A r) e w
theorem hgs_sum {r : Nat} : hgs A r = cn (hgD A r 0) (aN A) + cn (hgD A r 1) (aN A) + cn (hgD A r 2) (aN A) + cn (hgD A r 3) (aN A) := by
  unfold hgs
  rw [cn_four]
  have key : ∀ e, e < 4 → ∀ w, hgE A (vp A r) (aL A r) (4 * w + e) = hrE A (vp A r) (aL A r) e w ∧ hgE A (vm A r) (aL A r) (4 * w + e) = hrE A (vm A r) (aL A r) e w := by
    intro e he w
    unfold hgE
    rw [show (4 * w + e) % 4 = e by omega, show (4 * w + e) / 4 = w by omega]
    exact ⟨rfl, rfl⟩
  have k0 : ∀ w, hgE A (vp A r) (aL A r) (4 * w) = hrE A (vp A r) (aL A r) 0 w ∧ hgE A (vm A r) (aL A r) (4 * w) = hrE A (vm A r) (aL A r) 0 w := fun w => key 0 (by decide) w
  congr 1
  · congr 1
    · congr 1
      · exact cn_cong (fun w _ => by rw [(k0 w).1, (k0 w).2]; rfl)
      · exact cn_cong (fun w _ => by rw [(key 1 (by decide) w).1, (key 1 (by decide) w).2]; rfl)
    · exact cn_cong (fun w _ => by rw [(key 2 (by decide) w).1, (key 2 (by decide) w).2]; rfl)
  · exact cn_cong (fun w _ => by rw [(key 3 (by decide) w).1, (key 3 (by decide) w).2]; rfl)
def hsum (A : AA) (r : Nat) : Nat → Nat
  | 0 => 0
  | e + 1 => hsum A r e + cn (hgD A r e) (aN A)
theorem c_hgl (hW : WF A) {r : Nat} (hr : r < aR A) (hjp : aJu A ||| 2 ^ r < 1024) (hjm : sd (aJu A) (2 ^ r) < 1024) : ∀ (n k fuel : Nat) (P : PS), CC t0 ad A P → k + n = 4 → n < fuel → ∃ P', hm_X8_hangingOn_101L fuel (ad 0) (ad (110 + r)) (nI (aJu A ||| 2 ^ r)) (nI (sd (aJu A) (2 ^ r))) (nI (msk (hrd A (vp A r) (aL A r)) (aN A))) (nI (msk (hrd A (vm A r) (aL A r)) (aN A))) (nI (hsum A r k)) (nI k) P = some (nI (hsum A r 4), P') ∧ CC t0 ad A P' := by
  have hN := wfN hW
  have hR := wfR hW
  have hL := wfL hW hr
  intro n
  induction n with
  | zero =>
    intro k fuel P h hk hf
    obtain ⟨fu, rfl⟩ : ∃ fu, fuel = fu + 1 := ⟨fuel - 1, by omega⟩
    obtain rfl : k = 4 := by omega
    exact ⟨P, rfl, h⟩
  | succ n ih =>
    intro k fuel P h hk hf
    obtain ⟨fu, rfl⟩ : ∃ fu, fuel = fu + 1 := ⟨fuel - 1, by omega⟩
    obtain ⟨-, -, -, -, f4, -⟩ := h.r
    have hle : ¬ (4 : Int32) ≤ nI k := by rw [q4, le_n (by omega) (by omega)]; omega
    have e1 : nI k + (1 : Int32) = nI (k + 1) := by rw [q1, nI_add]
    obtain ⟨-, r1, -⟩ := h.ru hr
    have h1 := h.sup (nI (aSh A)) (nI (aJu A ||| 2 ^ r)) 0
    have s1 : SVw A (sup ad P (nI (aSh A)) (nI (aJu A ||| 2 ^ r)) 0) (ad 6) (aSh A) (aJu A ||| 2 ^ r) 0 := c_supv h (wfS hW) hjp (Nat.two_pow_pos _)
    have t1 := c_ht hW h1 s1 (show k < 4 by omega) hL
    obtain ⟨-, -, -, -, f4', -⟩ := h1.r
    obtain ⟨-, r1', -⟩ := h1.ru hr
    have h2 := h1.sup (nI (aSh A)) (nI (sd (aJu A) (2 ^ r))) 0
    have s2 : SVw A (sup ad (sup ad P (nI (aSh A)) (nI (aJu A ||| 2 ^ r)) 0) (nI (aSh A)) (nI (sd (aJu A) (2 ^ r))) 0) (ad 6) (aSh A) (sd (aJu A) (2 ^ r)) 0 := c_supv h1 (wfS hW) hjm (Nat.two_pow_pos _)
    have t2 := c_ht hW h2 s2 (show k < 4 by omega) hL
    rw [vS_p] at t1 t2
    have t1' : hm_X8_heardTo (sup ad P (nI (aSh A)) (nI (aJu A ||| 2 ^ r)) 0) (ad 0) (nI k) (nI (aL A r)) (ad 6) (nI (msk (hrd A (vp A r) (aL A r)) (aN A))) = some (nI (msk (hrE A (vp A r) (aL A r) k) (aN A)), sup ad P (nI (aSh A)) (nI (aJu A ||| 2 ^ r)) 0) := t1
    have t2' : hm_X8_heardTo (sup ad (sup ad P (nI (aSh A)) (nI (aJu A ||| 2 ^ r)) 0) (nI (aSh A)) (nI (sd (aJu A) (2 ^ r))) 0) (ad 0) (nI k) (nI (aL A r)) (ad 6) (nI (msk (hrd A (vm A r) (aL A r)) (aN A))) = some (nI (msk (hrE A (vm A r) (aL A r) k) (aN A)), sup ad (sup ad P (nI (aSh A)) (nI (aJu A ||| 2 ^ r)) 0) (nI (aSh A)) (nI (sd (aJu A) (2 ^ r))) 0) := t2
    have hx := msk_xor (f := hrE A (vp A r) (aL A r) k) (g := hrE A (vm A r) (aL A r) k) (N := aN A)
    have hxl : msk (fun i => hrE A (vp A r) (aL A r) k i != hrE A (vm A r) (aL A r) k i) (aN A) < 2 ^ 14 := pw14 hN (msk_lt _ _)
    have eb := c_bits (sup ad (sup ad P (nI (aSh A)) (nI (aJu A ||| 2 ^ r)) 0) (nI (aSh A)) (nI (sd (aJu A) (2 ^ r))) 0) hxl
    rw [cn_msk hN] at eb
    obtain ⟨P', e3, h3⟩ := ih (k + 1) fu _ h2 (by omega) (by omega)
    refine ⟨P', ?_, h3⟩
    show hm_X8_hangingOn_101 _ _ _ _ _ _ _ _ _ _ = _
    unfold hm_X8_hangingOn_101
    simp only [if_neg hle, ck_t, nn_s, bd_s, lt_t, h.k0, h1.k0, h2.k0, f4, f4', h.k5, h1.k5, h.now.1, h1.now.1, h.kR hR hr, h1.kR hR hr, r1, r1', c_sup h, c_sup h1, t1', t2', xor_n, hx, eb, nI_add, e1]
    exact e3
theorem may_eq (hW : WF A) {r : Nat} (hr : r < aR A) (hm : smk (aC A r) 3 = 0) {e w : Nat} : kpr A (vp A r) w e l = kpr A (vm A r) w e l := by
  have hh : hc A (vp A r) w e = hc A (vm A r) w e := funext fun c => by unfold hc hld; rw [evl_ban (v := vp A r) (v' := vm A r) rfl rfl]
  unfold kpr
  refine find_cong (fun x hx => ?_)
  congr 1
  unfold kps anyS lcks
  rw [hh]
  have e1 : (vp A r).1 = (vm A r).1 := rfl
  rw [e1]
  congr 1
  have hb : ∀ i, i ≠ r → (vp A r).2.1.testBit i = (vm A r).2.1.testBit i := by
    intro i hi
    show (aJu A ||| 2 ^ r).testBit i = (sd (aJu A) (2 ^ r)).testBit i
    rw [t_or, sd_t, Nat.testBit_two_pow]
    have : decide (r = i) = false := decide_eq_false (Ne.symm hi)
    rw [this]
    simp
  by_cases q : x = r
  · subst q
    have h0 : (aC A x).any (isS 3) = false := cm_0.mp hm
    have : (aC A x).any (fun c => isS 3 c && hc A (vm A x) w e c) = false := by
      rw [List.any_eq_false] at h0 ⊢
      intro c hc z
      exact h0 c hc (Bool.and_eq_true_iff.mp z).1
    rw [this, Bool.and_false, Bool.and_false]
  · rw [hb x q]
theorem may_0 (hW : WF A) {r : Nat} (hr : r < aR A) (hm : smk (aC A r) 3 = 0) : hgs A r = 0 := by
  have hrd_e : ∀ w, w < aN A → hrd A (vp A r) (aL A r) w = hrd A (vm A r) (aL A r) w := by
    intro w
    induction w using Nat.strongRecOn with
    | ind w ih =>
      intro hw
      rw [hrd_n hW (fun _ => rfl) hw, hrd_n hW (fun _ => rfl) hw, may_eq hW hr hm]
      congr 1
      exact all_cong (fun p hp => by have := wfP hW hw p hp; exact ih p this (by omega))
  have : ∀ e w, w < aN A → hgD A r e w = false := by
    intro e w hw
    have h1 : hrE A (vp A r) (aL A r) e w = hrE A (vm A r) (aL A r) e w := by
      unfold hrE
      rw [may_eq hW hr hm]
      congr 2
      exact all_cong (fun p hp => by have := wfP hW hw p hp; exact hrd_e p (by omega))
    unfold hgD
    rw [h1]
    simp
  rw [hgs_sum]
  have z : ∀ e, cn (hgD A r e) (aN A) = 0 := fun e => (cn_cong (fun i hi => this e i hi)).trans (cnf0 _)
  rw [z, z, z, z]
theorem c_hg (hW : WF A) (h : CC t0 ad A P) {r : Nat} (hr : r < aR A) : ∃ P', hm_X8_hangingOn P (ad 0) (ad (110 + r)) = some (nI (hgs A r), P') ∧ CC t0 ad A P' := by
  have hN := wfN hW
  have hR := wfR hW
  have hL := wfL hW hr
  have hJ := wfJ' hW
  have h6 := wfCl hW hr
  have hjm : sd (aJu A) (2 ^ r) < 1024 := Nat.lt_of_le_of_lt (sd_le _ _) hJ
  have hjp : aJu A ||| 2 ^ r < 1024 := or1024 hJ (Nat.lt_of_lt_of_le (Nat.pow_lt_pow_right (by decide) (show r < 10 by omega)) (by decide))
  obtain ⟨-, -, -, -, f4, -⟩ := h.r
  obtain ⟨r0, r1, -, -, r5, -⟩ := h.ru hr
  have hml : smk (aC A r) 3 < 64 := cm_lt (p := isS 3) h6
  have hz : nI (smk (aC A r) 3) = 0 ↔ smk (aC A r) 3 = 0 := by rw [q0, ne_n (by omega) (by decide)]
  have e9 : (1 : Int32) <<< (nI r &&& 31) = nI (2 ^ r) := shl_n (by omega)
  unfold hm_X8_hangingOn
  rw [h.kR hR hr, ck_t, r5]
  by_cases z : smk (aC A r) 3 = 0
  · rw [if_pos (hz.mpr z), may_0 hW hr z]
    exact ⟨P, rfl, h⟩
  · rw [if_neg (fun y => z (hz.mp y))]
    have h1 := h.sup (nI (aSh A)) (nI (aJu A ||| 2 ^ r)) 0
    have s1 : SVw A (sup ad P (nI (aSh A)) (nI (aJu A ||| 2 ^ r)) 0) (ad 6) (aSh A) (aJu A ||| 2 ^ r) 0 := c_supv h (wfS hW) hjp (Nat.two_pow_pos _)
    have t1 := c_hpa hW h1 s1 hL
    obtain ⟨-, -, -, -, f4', -⟩ := h1.r
    obtain ⟨-, r1', -⟩ := h1.ru hr
    have h2 := h1.sup (nI (aSh A)) (nI (sd (aJu A) (2 ^ r))) 0
    have s2 : SVw A (sup ad (sup ad P (nI (aSh A)) (nI (aJu A ||| 2 ^ r)) 0) (nI (aSh A)) (nI (sd (aJu A) (2 ^ r))) 0) (ad 6) (aSh A) (sd (aJu A) (2 ^ r)) 0 := c_supv h1 (wfS hW) hjm (Nat.two_pow_pos _)
    have t2 := c_hpa hW h2 s2 hL
    rw [vS_p] at t1 t2
    obtain ⟨P', e3, h3⟩ := c_hgl (t0 := t0) (ad := ad) hW hr hjp hjm 4 0 4000 _ h2 rfl (by decide)
    refine ⟨P', ?_, h3⟩
    simp only [ck_t, nn_s, bd_s, lt_t, h.k0, h1.k0, h2.k0, f4, f4', h.k5, h1.k5, h.now.1, h1.now.1, h.now.2.1, h.kR hR hr, h1.kR hR hr, r0, r1, r1', e9, or_n, sd_n, c_all hW h, c_all hW h1, c_sup h, c_sup h1, t1, t2]
    refine Eq.trans e3 ?_
    rw [hgs_sum]
    congr 3
    show 0 + _ + _ + _ + _ = _
    rw [Nat.zero_add]
theorem cq_hangs (hW : WF A) (h : CC t0 ad A P) (a : Int32) : ∃ P', hm_X8_hangs P (ad 0) a = some (sHangs A a, P') ∧ CC t0 ad A P' := by
  have hR := wfR hW
  unfold hm_X8_hangs sHangs
  simp only [ck_t, nn_s, bd_s, lt_t, c_ruleAt hW h, h.k0]
  cases h1 : ix (aR A) a with
  | none => exact ⟨P, rfl, h⟩
  | some r =>
  obtain ⟨hr, rfl⟩ := ix_s (by omega) h1
  obtain ⟨P', e, h'⟩ := c_hg hW h hr
  refine ⟨P', ?_, h'⟩
  simp only [Option.map_some, nlS, e, ck_t, nn_s, bd_s, lt_t]
theorem le_not {a b : Int32} : a ≤ b ↔ ¬ b < a := by
  rw [Int32.le_iff_toInt_le, Int32.lt_iff_toInt_lt]
  omega
theorem c_mostl (hW : WF A) : ∀ (n k fuel : Nat) (P : PS), CC t0 ad A P → k + n = aR A → n < fuel → ∃ P', hm_X8_most_7L fuel (ad 0) (mst A k).1 (mst A k).2 (nI k) P = some ((mst A (aR A)).1, P') ∧ CC t0 ad A P' := by
  have hR := wfR hW
  intro n
  induction n with
  | zero =>
    intro k fuel P h hk hf
    obtain ⟨fu, rfl⟩ : ∃ fu, fuel = fu + 1 := ⟨fuel - 1, by omega⟩
    obtain rfl : k = aR A := by omega
    obtain ⟨-, -, f2, -⟩ := h.r
    have ls := h.rs
    have hle : nI (aR A) ≤ nI (aR A) := by rw [le_n (by omega) (by omega)]; exact Nat.le_refl _
    refine ⟨P, ?_, h⟩
    show hm_X8_most_7 _ _ _ _ _ _ = _
    unfold hm_X8_most_7
    simp only [ck_t, nn_s, bd_s, lt_t, h.k0, f2, ls.k, ls.sz, if_pos hle]
  | succ n ih =>
    intro k fuel P h hk hf
    obtain ⟨fu, rfl⟩ : ∃ fu, fuel = fu + 1 := ⟨fuel - 1, by omega⟩
    have hk' : k < aR A := (by omega); have hle : ¬ nI (aR A) ≤ nI k := by rw [le_n (by omega) (by omega)]; omega
    obtain ⟨-, -, f2, -⟩ := h.r
    have ls := h.rs
    have e1 : nI k + (1 : Int32) = nI (k + 1) := by rw [q1, nI_add]
    obtain ⟨P1, e2, h1⟩ := c_hg hW h hk'
    obtain ⟨P2, e3, h2⟩ := ih (k + 1) fu P1 h1 (by omega) (by omega)
    refine ⟨P2, ?_, h2⟩
    show hm_X8_most_7 _ _ _ _ _ _ = _
    unfold hm_X8_most_7 hm_X8_most_46
    simp only [ck_t, nn_s, bd_s, lt_t, h.k0, f2, ls.k, ls.sz, if_neg hle, ls.gt hk', h.kR hR hk', e2, e1]
    have hm : mst A (k + 1) = if (mst A k).2 < nI (hgs A k) then (nI k, nI (hgs A k)) else mst A k := rfl
    rw [hm] at e3
    by_cases c : (mst A k).2 < nI (hgs A k)
    · rw [if_pos c] at e3
      rw [if_neg (fun z => le_not.mp z c)]
      exact e3
    · rw [if_neg c] at e3
      rw [if_pos (le_not.mpr c)]
      exact e3
theorem cq_most (hW : WF A) (h : CC t0 ad A P) : ∃ P', hm_X8_most P (ad 0) = some (sMost A, P') ∧ CC t0 ad A P' := by
  have hR := wfR hW
  obtain ⟨P', e, h'⟩ := c_mostl (t0 := t0) (ad := ad) hW (aR A) 0 4000 P h (by omega) (by omega)
  refine ⟨P', ?_, h'⟩
  unfold hm_X8_most
  rw [lt_t, lt_t, lt_t]
  exact e
end PCQ5
