section PMQ5
variable {A : AA} {v : VV} {S : MS}
def sProved (A : AA) (a : Int32) : Int32 := match ix 2 a with
  | some l => nI (prv A (v0 A) l 11 (aSh A))
  | none => -1
theorem mq_proved (h : WF A) (g : MM A S) (a : Int32) : ∃ S', mm_proved S a = some (sProved A a, S') ∧ MM A S' := by
  unfold mm_proved sProved
  simp only [q0, q1, q2, q3, q4, q5, q6, q7, q8, q9, q10, q11, q14, q20, q32, q33, q38, q40, q41, q48, q57, q59, q60, q61, q62, q98, q99, q100, q101, q104, q107, q115, q117, q124, q1000, q1023, q1024, m_isL, bd_s, ck_t, lt_t, b2_0]
  cases h3 : ix 2 a with
  | none => exact ⟨S, by simp [q1], g⟩
  | some l =>
  obtain ⟨hl, rfl⟩ := ix_s (by decide) h3
  obtain ⟨S0, x, e0, f0, v0'⟩ := m_asIs h g
  obtain ⟨S1, e1, f1, m1⟩ := m_prv hl v0'
  refine ⟨S1, ?_, m1.2.1⟩
  simp only [Option.isSome_some, reduceCtorEq, if_false, e0, bd_s, e1]
def vb (A : AA) (w : Nat) : VV := (aSh A, aJu A, fun _ => 0, fun x => decide (x = w))
def ndd (A : AA) (f l w : Nat) : Bool := decide (sd f (prv A (vb A w) l 11 (aSh A)) ≠ 0)
def sNeeded (A : AA) (a b : Int32) : Int32 := match ix 2 b, ix 1024 a with
  | some l, some f => if sd f (prv A (v0 A) l 11 (aSh A)) ≠ 0 then -5 else nI (msk (ndd A f l) (aN A))
  | some _, none => -2
  | none, _ => -1
theorem sd_le (a b : Nat) : sd a b ≤ a := sub_le (fun i h => by rw [sd_t, Bool.and_eq_true] at h; exact h.1)
theorem m_ndl {f l : Nat} (hfl : f < 1024) (hl : l < 2) : ∀ (n k fuel : Nat) (S : MS) (v : VV), MV A v S → v.2.1 = aJu A → v.2.2.1 = (fun _ => 0) → k + n = aN A → n < fuel → ∃ S', mm_needed_49L fuel (nI f) (nI l) (nI (msk (ndd A f l) k)) (nI k) S = some (nI (msk (ndd A f l) (aN A)), S') ∧ MM A S' := by
  intro n
  induction n with
  | zero =>
    intro k fuel S v h hv1 hv2 hk hf
    obtain ⟨fu, rfl⟩ : ∃ fu, fuel = fu + 1 := ⟨fuel - 1, by omega⟩
    have hN := wfN h.1
    obtain rfl : k = aN A := by omega
    have g := h.2.1.1.1
    refine ⟨S, ?_, h.2.1⟩
    show mm_needed_49 _ _ _ _ _ _ = _
    unfold mm_needed_49
    simp (discharger := omega) only [q0, q1, q2, q3, q4, q5, q6, q7, q8, q9, q10, q11, q14, q20, q32, q33, q38, q40, q41, q48, q57, q59, q60, q61, q62, q98, q99, q100, q101, q104, q107, q115, q117, q124, q1000, q1023, q1024, bd_s, ck_t, lt_t, nI_add, pk_mul, nI_clamp, ne_n, lt_n, le_n, vin_n, decide_true, decide_false, if_true, if_false, g, Nat.le_refl]
  | succ n ih =>
    intro k fuel S v h hv1 hv2 hk hf
    obtain ⟨fu, rfl⟩ : ∃ fu, fuel = fu + 1 := ⟨fuel - 1, by omega⟩
    have hN := wfN h.1
    have g := h.2.1.1.1
    have hk1 : ¬ aN A ≤ k := by omega
    have hk32 : k < 32 := by omega
    have hS := wfS h.1
    have fp : Fm [26] ev2 S (mP S 26 (nI k)) := Fm.mP (by decide)
    obtain ⟨a1, a2, a3, a4, a5, a6⟩ := h.2.2
    have hb : MV A (v.1, aJu A, fun _ => 0, fun x => decide (x = k)) (mP S 26 (nI k)) := by
      refine ⟨h.1, h.2.1.fm (fp.wk (by decide) (by decide)), by rw [mP_n (by decide)]; exact a1, by rw [mP_n (by decide), ← hv1]; exact a2, a3, hv1 ▸ a4, fun p hp => ?_, fun w hw => ?_⟩
      · have := a5 p hp
        rw [hv2] at this
        exact this
      · rw [mP_s]
        show decide (w = k) = decide (nI w = nI k)
        exact decide_eq_decide.mpr (nI_eq (by omega) (by omega)).symm
    obtain ⟨S1, e1, f1, m1⟩ := m_prv hl hb
    have hpv : prv A (v.1, aJu A, fun _ => 0, fun x => decide (x = k)) l 11 (aSh A) = prv A (vb A k) l 11 (aSh A) := by
      have : ∀ (f sh : Nat) (v w : VV), v.2 = w.2 → prv A v l f sh = prv A w l f sh := by
        intro f
        induction f with
        | zero => intro sh v w _; rfl
        | succ f ih => intro sh v w z; simp only [prv, z, ih _ v w z]
      exact this 11 _ _ _ rfl
    rw [hpv] at e1
    obtain ⟨S2, e2, m2⟩ := ih (k + 1) fu S1 _ m1 rfl rfl (by omega) (by omega)
    refine ⟨S2, ?_, m2⟩
    show mm_needed_49 _ _ _ _ _ _ = _
    unfold mm_needed_49 mm_needed_85
    have hsl := sd_le f (prv A (vb A k) l 11 (aSh A))
    have e1' := e1
    simp (discharger := omega) only [q0, bd_s, ck_t, lt_t, nI_add, pk_mul, nI_clamp, ne_n, lt_n, le_n, vin_n, decide_true, decide_false, if_true, if_false, g, hk1, e1', sd_n]
    simp only [q1, shl_n hk32, nI_add]
    by_cases z : sd f (prv A (vb A k) l 11 (aSh A)) = 0
    · have hF : ndd A f l k = false := by unfold ndd; simp [z]
      simp only [z, if_true]
      rw [acc_f hF, e2]
    · have hT : ndd A f l k = true := by unfold ndd; simp [z]
      simp only [z, if_false]
      rw [acc_t hT, e2]
theorem mq_needed (h : WF A) (g : MM A S) (a b : Int32) : ∃ S', mm_needed S a b = some (sNeeded A a b, S') ∧ MM A S' := by
  unfold mm_needed sNeeded
  have i2 := m_in' S 1023 a (by decide)
  simp only [q0, q1, q2, q3, q4, q5, q6, q7, q8, q9, q10, q11, q14, q20, q32, q33, q38, q40, q41, q48, q57, q59, q60, q61, q62, q98, q99, q100, q101, q104, q107, q115, q117, q124, q1000, q1023, q1024] at i2 ⊢
  simp only [m_isL, i2, bd_s, ck_t, lt_t, b2_0]
  cases h3 : ix 2 b with
  | none => exact ⟨S, by simp [q1], g⟩
  | some l =>
  cases h4 : ix 1024 a with
  | none => exact ⟨S, by simp [q2, h4], g⟩
  | some f =>
  have h4' : ix (1023 + 1) a = some f := h4
  have hN := wfN h
  obtain ⟨hl, rfl⟩ := ix_s (by decide) h3
  obtain ⟨hf, rfl⟩ := ix_s (by decide) h4
  obtain ⟨S0, x, e0, f0, v0'⟩ := m_asIs h g
  obtain ⟨S1, e1, f1, m1⟩ := m_prv hl v0'
  simp only [h4', Option.isSome_some, reduceCtorEq, if_false, e0, bd_s, e1]
  have hsn := sd_n f (prv A (v0 A) l 11 (aSh A))
  have hsn' : nI f &&& (nI (prv A (v0 A) l 11 (aSh A)) ^^^ -nI 1) = nI (sd f (prv A (v0 A) l 11 (aSh A))) := hsn
  have hsl := sd_le f (prv A (v0 A) l 11 (aSh A))
  simp (discharger := omega) only [hsn', ne_n]
  by_cases z : sd f (prv A (v0 A) l 11 (aSh A)) = 0
  · obtain ⟨S2, e2, m2⟩ := m_ndl hf hl (aN A) 0 4000 S1 _ m1 rfl rfl (by omega) (by omega)
    refine ⟨S2, ?_, m2⟩
    simp only [z, if_true, ne_eq, not_true_eq_false, if_false]
    exact e2
  · refine ⟨S1, ?_, m1.2.1⟩
    simp only [z, if_false, ne_eq, not_false_eq_true, if_true]
-- hangs, most
def hgE (A : AA) (v : VV) (l k : Nat) : Bool := hrE A v l (k % 4) (k / 4)
def vm (A : AA) (r : Nat) : VV := (aSh A, sd (aJu A) (2 ^ r), fun _ => 0, fun _ => false)
def vp (A : AA) (r : Nat) : VV := (aSh A, aJu A ||| 2 ^ r, fun _ => 0, fun _ => false)
def hgs (A : AA) (r : Nat) : Nat := cn (fun k => hgE A (vp A r) (aL A r) k != hgE A (vm A r) (aL A r) k) (4 * aN A)
def HW (S : MS) (f : Nat → Bool) (n : Nat) : Prop := ∀ i, i < n → S.2.1 32 i = nI (f i).toNat
def ev3 : List Nat := [28, 29, 32]
theorem MV.f3 {S T : MS} (h : MV A v S) (f : Fm [] ev3 S T) : MV A v T := h.fm (f.wk (fun _ q => q) (by decide))
theorem m_hg0 {r : Nat} (hr : r < aR A) {k8 : Int32 → Int32 → Int32 → MS → Option (Int32 × MS)} {x2 : Int32} : ∀ (n k fuel : Nat) (S : MS), MV A v S → HO S (hrd A v (aL A r)) (aN A) → HW S (hgE A v (aL A r)) k → k + n = 4 * aN A → n < fuel → ∃ S', mm_hangsOf_59L k8 fuel (nI r) x2 (nI 0) (nI k) S = k8 (nI r) x2 (nI 1) S' ∧ Fm [] ev3 S S' ∧ HW S' (hgE A v (aL A r)) (4 * aN A) := by
  intro n
  induction n with
  | zero =>
    intro k fuel S h ho hw hk hf
    obtain ⟨fu, rfl⟩ : ∃ fu, fuel = fu + 1 := ⟨fuel - 1, by omega⟩
    have hN := wfN h.1
    obtain rfl : k = 4 * aN A := by omega
    have g := h.2.1.1.1
    refine ⟨S, ?_, Fm.rf, hw⟩
    show mm_hangsOf_59 _ _ _ _ _ _ _ = _
    unfold mm_hangsOf_59
    simp (discharger := omega) only [q0, q1, q2, q3, q4, q5, q6, q7, q8, q9, q10, q11, q14, q20, q32, q33, q38, q40, q41, q48, q57, q59, q60, q61, q62, q98, q99, q100, q101, q104, q107, q115, q117, q124, q1000, q1023, q1024, bd_s, ck_t, lt_t, nI_add, pk_mul, nI_clamp, ne_n, lt_n, le_n, vin_n, decide_true, decide_false, if_true, if_false, g, Nat.le_refl]
  | succ n ih =>
    intro k fuel S h ho hw hk hf
    obtain ⟨fu, rfl⟩ : ∃ fu, fuel = fu + 1 := ⟨fuel - 1, by omega⟩
    have hN := wfN h.1
    have g := h.2.1.1.1
    have hR := wfR h.1
    have hL := wfL h.1 hr
    have hk1 : ¬ 4 * aN A ≤ k := by omega
    have hk56 : k < 56 := by omega
    have hr10 : r < 10 := by omega
    have hw' : k / 4 < aN A := by omega
    have he' : k % 4 < 4 := by omega
    have g13 := (h.2.1.2.1.2 r hr).1
    obtain ⟨S1, e1, f1⟩ := m_kpr h hw' he' hL
    have h1 := h.f1 f1
    have o1 : HO S1 (hrd A v (aL A r)) (aN A) := fun i hi => by rw [f1.2.1 29 (by decide)]; exact ho i hi
    have a1 := m_aph h1 hw' (show 0 < 2 ^ 31 by decide) (n := aN A) o1 (fun p hp => Nat.lt_trans (wfP h.1 hw' p hp) hw')
    rw [apc_0] at a1
    have hfin : ∀ b, hgE A v (aL A r) k = b → ∃ S', mm_hangsOf_59L k8 fu (nI r) x2 (nI 0) (nI (k + 1)) (mR S1 32 k (nI b.toNat)) = k8 (nI r) x2 (nI 1) S' ∧ Fm [] ev3 S S' ∧ HW S' (hgE A v (aL A r)) (4 * aN A) := by
      intro b hb
      have f2 : Fm [] ev3 S1 (mR S1 32 k (nI b.toNat)) := Fm.mR (by decide)
      have f1' : Fm [] ev3 S S1 := f1.wk (fun _ q => q) (by decide)
      obtain ⟨S2, e2, f3, w2⟩ := ih (k + 1) fu (mR S1 32 k (nI b.toNat)) (h1.f3 f2) (fun i hi => by rw [mR_n (by decide)]; exact o1 i hi) (fun i hi => by
        rw [mR_s]
        by_cases q : i = k
        · rw [if_pos q, q, hb]
        · rw [if_neg q, f1.2.1 32 (by decide)]
          exact hw i (by omega)) (by omega) (by omega)
      exact ⟨S2, e2, (f1'.tr f2).tr f3, w2⟩
    have hd1 : nI k / nI 4 = nI (k / 4) := pk_div (by omega) (by decide) (by decide)
    have hd2 : nI k - nI (k / 4) * nI 4 = nI (k % 4) := by rw [← hd1]; exact pk_rem (by omega) (by decide) (by decide)
    have hgk : hgE A v (aL A r) k = ((kpr A v (k / 4) (k % 4) (aL A r)).isNone && (k % 4 == 1 || (aP A (k / 4)).all (hrd A v (aL A r)))) := rfl
    show ∃ S', mm_hangsOf_59 _ _ _ _ _ _ _ = _ ∧ _
    unfold mm_hangsOf_59 mm_hangsOf_119 mm_hangsOf_115 mm_hangsOf_120 mm_hangsOf_158
    simp only [q0, q1, q2, q3, q4, q5, q6, q7, q8, q9, q10, q11, q14, q20, q32, q33, q38, q40, q41, q48, q57, q59, q60, q61, q62, q98, q99, q100, q101, q104, q107, q115, q117, q124, q1000, q1023, q1024, bd_s, ck_t, lt_t, hd1, hd2]
    simp (discharger := omega) only [bd_s, ck_t, lt_t, nI_add, pk_mul, nI_clamp, ne_n, lt_n, le_n, vin_n, decide_true, decide_false, if_true, if_false, g, hk1, hr10, g13, e1, oI_ge (kpr_b h.1), a1, b2_0, nar_0, nar_1, hk56]
    cases hkk : kpr A v (k / 4) (k % 4) (aL A r) with
    | some y =>
      simp only [Option.isSome_some, if_true]
      exact hfin false (by rw [hgk, hkk]; rfl)
    | none =>
      simp only [Option.isSome_none, reduceCtorEq, if_false]
      by_cases q : k % 4 = 1
      · simp only [q, if_true]
        exact hfin true (by rw [hgk, hkk, q]; rfl)
      · have q' : (k % 4 == 1) = false := by simp [q]
        simp only [q, if_false]
        cases ha : (aP A (k / 4)).all (hrd A v (aL A r)) with
        | false =>
          simp only [if_true]
          exact hfin false (by rw [hgk, hkk, q', ha]; rfl)
        | true =>
          simp only [reduceCtorEq, if_false]
          exact hfin true (by rw [hgk, hkk, q', ha]; rfl)
theorem m_hg1 {r : Nat} (hr : r < aR A) {f0 : Nat → Bool} {k8 : Int32 → Int32 → Int32 → MS → Option (Int32 × MS)} : ∀ (n k fuel : Nat) (S : MS), MV A v S → HO S (hrd A v (aL A r)) (aN A) → HW S f0 (4 * aN A) → k + n = 4 * aN A → n < fuel → ∃ S', mm_hangsOf_59L k8 fuel (nI r) (nI (cn (fun k => hgE A v (aL A r) k != f0 k) k)) (nI 1) (nI k) S = k8 (nI r) (nI (cn (fun k => hgE A v (aL A r) k != f0 k) (4 * aN A))) (nI 2) S' ∧ Fm [] ev3 S S' := by
  intro n
  induction n with
  | zero =>
    intro k fuel S h ho hw hk hf
    obtain ⟨fu, rfl⟩ : ∃ fu, fuel = fu + 1 := ⟨fuel - 1, by omega⟩
    have hN := wfN h.1
    obtain rfl : k = 4 * aN A := by omega
    have g := h.2.1.1.1
    refine ⟨S, ?_, Fm.rf⟩
    show mm_hangsOf_59 _ _ _ _ _ _ _ = _
    unfold mm_hangsOf_59
    simp (discharger := omega) only [q0, q1, q2, q3, q4, q5, q6, q7, q8, q9, q10, q11, q14, q20, q32, q33, q38, q40, q41, q48, q57, q59, q60, q61, q62, q98, q99, q100, q101, q104, q107, q115, q117, q124, q1000, q1023, q1024, bd_s, ck_t, lt_t, nI_add, pk_mul, nI_clamp, ne_n, lt_n, le_n, vin_n, decide_true, decide_false, if_true, if_false, g, Nat.le_refl]
  | succ n ih =>
    intro k fuel S h ho hw hk hf
    obtain ⟨fu, rfl⟩ : ∃ fu, fuel = fu + 1 := ⟨fuel - 1, by omega⟩
    have hN := wfN h.1
    have g := h.2.1.1.1
    have hR := wfR h.1
    have hL := wfL h.1 hr
    have hk1 : ¬ 4 * aN A ≤ k := by omega
    have hk56 : k < 56 := by omega
    have hr10 : r < 10 := by omega
    have hw' : k / 4 < aN A := by omega
    have he' : k % 4 < 4 := by omega
    have g13 := (h.2.1.2.1.2 r hr).1
    obtain ⟨S1, e1, f1⟩ := m_kpr h hw' he' hL
    have h1 := h.f1 f1
    have o1 : HO S1 (hrd A v (aL A r)) (aN A) := fun i hi => by rw [f1.2.1 29 (by decide)]; exact ho i hi
    have w1 : HW S1 f0 (4 * aN A) := fun i hi => by rw [f1.2.1 32 (by decide)]; exact hw i hi
    have a1 := m_aph h1 hw' (show 0 < 2 ^ 31 by decide) (n := aN A) o1 (fun p hp => Nat.lt_trans (wfP h.1 hw' p hp) hw')
    rw [apc_0] at a1
    obtain ⟨S2, e2, f3⟩ := ih (k + 1) fu S1 h1 o1 w1 (by omega) (by omega)
    have hcn : cn (fun k => hgE A v (aL A r) k != f0 k) (k + 1) = cn (fun k => hgE A v (aL A r) k != f0 k) k + (hgE A v (aL A r) k != f0 k).toNat := rfl
    rw [hcn] at e2
    have hwk := w1 k (by omega)
    have hd1 : nI k / nI 4 = nI (k / 4) := pk_div (by omega) (by decide) (by decide)
    have hd2 : nI k - nI (k / 4) * nI 4 = nI (k % 4) := by rw [← hd1]; exact pk_rem (by omega) (by decide) (by decide)
    have hgk : hgE A v (aL A r) k = ((kpr A v (k / 4) (k % 4) (aL A r)).isNone && (k % 4 == 1 || (aP A (k / 4)).all (hrd A v (aL A r)))) := rfl
    have f1' : Fm [] ev3 S S1 := f1.wk (fun _ q => q) (by decide)
    refine ⟨S2, ?_, f1'.tr f3⟩
    have c01 : ¬ (1 = 0) := by decide
    have hT : (if nI 1 = nI (f0 k).toNat then mm_hangsOf_59L k8 fu (nI r) (nI (cn (fun k => hgE A v (aL A r) k != f0 k) k + 0)) (nI 1) (nI (k + 1)) S1 else mm_hangsOf_59L k8 fu (nI r) (nI (cn (fun k => hgE A v (aL A r) k != f0 k) k + 1)) (nI 1) (nI (k + 1)) S1) = mm_hangsOf_59L k8 fu (nI r) (nI (cn (fun k => hgE A v (aL A r) k != f0 k) k + (true != f0 k).toNat)) (nI 1) (nI (k + 1)) S1 := by
      cases f0 k <;> rfl
    have hF : (if nI 0 = nI (f0 k).toNat then mm_hangsOf_59L k8 fu (nI r) (nI (cn (fun k => hgE A v (aL A r) k != f0 k) k + 0)) (nI 1) (nI (k + 1)) S1 else mm_hangsOf_59L k8 fu (nI r) (nI (cn (fun k => hgE A v (aL A r) k != f0 k) k + 1)) (nI 1) (nI (k + 1)) S1) = mm_hangsOf_59L k8 fu (nI r) (nI (cn (fun k => hgE A v (aL A r) k != f0 k) k + (false != f0 k).toNat)) (nI 1) (nI (k + 1)) S1 := by
      cases f0 k <;> rfl
    show mm_hangsOf_59 _ _ _ _ _ _ _ = _
    unfold mm_hangsOf_59 mm_hangsOf_119 mm_hangsOf_115 mm_hangsOf_120 mm_hangsOf_156 mm_hangsOf_158
    simp only [q0, q1, q2, q3, q4, q5, q6, q7, q8, q9, q10, q11, q14, q20, q32, q33, q38, q40, q41, q48, q57, q59, q60, q61, q62, q98, q99, q100, q101, q104, q107, q115, q117, q124, q1000, q1023, q1024, bd_s, ck_t, lt_t, hd1, hd2]
    simp (discharger := omega) only [bd_s, ck_t, lt_t, nI_add, pk_mul, nI_clamp, le_n, vin_n, decide_true, decide_false, if_true, if_false, g, hk1, hr10, g13, e1, oI_ge (kpr_b h.1), a1, b2_0, hk56, hwk, nI_eq (show 1 < 2 ^ 31 by decide) (show 0 < 2 ^ 31 by decide), c01]
    cases hkk : kpr A v (k / 4) (k % 4) (aL A r) with
    | some y =>
      have e : hgE A v (aL A r) k = false := by rw [hgk, hkk]; rfl
      rw [e, ← hF] at e2
      simp only [Option.isSome_some, if_true]
      exact e2
    | none =>
      simp only [Option.isSome_none, reduceCtorEq, if_false]
      by_cases q : k % 4 = 1
      · have e : hgE A v (aL A r) k = true := by rw [hgk, hkk, q]; rfl
        rw [e, ← hT] at e2
        rw [if_pos (by rw [q])]
        exact e2
      · have q' : (k % 4 == 1) = false := by simp [q]
        rw [if_neg (fun z => q ((nI_eq (by omega) (by decide)).mp z))]
        cases ha : (aP A (k / 4)).all (hrd A v (aL A r)) with
        | false =>
          have e : hgE A v (aL A r) k = false := by rw [hgk, hkk, q', ha]; rfl
          rw [e, ← hF] at e2
          simp only [if_true]
          exact e2
        | true =>
          have e : hgE A v (aL A r) k = true := by rw [hgk, hkk, q', ha]; rfl
          rw [e, ← hT] at e2
          simp only [reduceCtorEq, if_false]
          exact e2
end PMQ5
