section PMQ2
variable {A : AA} {v : VV} {S : MS}
-- clash, silent, beside
def sClash (A : AA) (a b c : Int32) : Int32 := match ix (aN A) a, ix 4 b, ix 2 c with
  | some w, some e, some l => nI (cn (fun r => aL A r == l && kps A (v0 A) w e r) (aR A) * cn (fun r => aL A r == l && !kps A (v0 A) w e r && anyS A (v0 A) w e r 1) (aR A))
  | _, _, _ => -1
theorem m_clashl {w e l : Nat} (hw : w < aN A) (he : e < 4) (hl : l < 2) : ∀ (n k fuel : Nat) (S : MS), MV A v S → k + n = aR A → n < fuel → ∃ S', mm_clash_25L fuel (nI w) (nI e) (nI l) (nI (cn (fun r => aL A r == l && kps A v w e r) k)) (nI (cn (fun r => aL A r == l && !kps A v w e r && anyS A v w e r 1) k)) (nI k) S = some (nI (cn (fun r => aL A r == l && kps A v w e r) (aR A) * cn (fun r => aL A r == l && !kps A v w e r && anyS A v w e r 1) (aR A)), S') ∧ Fm [] ev1 S S' := by
  intro n
  induction n with
  | zero =>
    intro k fuel S h hk hf
    obtain ⟨fu, rfl⟩ : ∃ fu, fuel = fu + 1 := ⟨fuel - 1, by omega⟩
    have hR := wfR h.1
    obtain rfl : k = aR A := by omega
    refine ⟨S, ?_, Fm.rf⟩
    have g := h.2.1.2.1.1
    show mm_clash_25 _ _ _ _ _ _ _ _ = _
    unfold mm_clash_25
    simp (discharger := omega) only [q0, q1, q2, q3, q4, q5, q6, q7, q8, q9, q10, q11, q14, q20, q32, q33, q38, q40, q41, q48, q57, q59, q60, q61, q62, q98, q99, q100, q101, q104, q107, q115, q117, q124, q1000, q1023, q1024, bd_s, ck_t, lt_t, nI_add, pk_mul, nI_clamp, ne_n, lt_n, le_n, vin_n, decide_true, decide_false, if_true, if_false, g, Nat.le_refl]
  | succ n ih =>
    intro k fuel S h hk hf
    obtain ⟨fu, rfl⟩ : ∃ fu, fuel = fu + 1 := ⟨fuel - 1, by omega⟩
    have hR := wfR h.1
    have g := h.2.1.2.1.1
    have hk' : k < aR A := by omega
    have g13 := (h.2.1.2.1.2 k hk').1
    have hL := wfL h.1 hk'
    have hk1 : ¬ aR A ≤ k := by omega
    have hk10 : k < 10 := by omega
    show ∃ S', mm_clash_25 _ _ _ _ _ _ _ _ = _ ∧ _
    unfold mm_clash_25 mm_clash_70 mm_clash_96 mm_clash_97 mm_clash_100
    simp (discharger := omega) only [q0, q1, q2, q3, q4, q5, q6, q7, q8, q9, q10, q11, q14, q20, q32, q33, q38, q40, q41, q48, q57, q59, q60, q61, q62, q98, q99, q100, q101, q104, q107, q115, q117, q124, q1000, q1023, q1024, bd_s, ck_t, lt_t, nI_add, pk_mul, nI_clamp, ne_n, lt_n, le_n, vin_n, decide_true, decide_false, if_true, if_false, g, g13, hk1, hk10]
    have c1 : cn (fun r => aL A r == l && kps A v w e r) (k + 1) = cn (fun r => aL A r == l && kps A v w e r) k + (aL A k == l && kps A v w e k).toNat := rfl
    have c2 : cn (fun r => aL A r == l && !kps A v w e r && anyS A v w e r 1) (k + 1) = cn (fun r => aL A r == l && !kps A v w e r && anyS A v w e r 1) k + (aL A k == l && !kps A v w e k && anyS A v w e k 1).toNat := rfl
    by_cases hl2 : aL A k = l
    · obtain ⟨S1, e1, f1⟩ := m_kps h hk' hw he
      have hb : (aL A k == l) = true := by simp [hl2]
      rw [hb, Bool.true_and] at c1 c2
      have h1 := h.f1 f1
      simp only [if_pos hl2, e1, bd_s, b2_0]
      cases hkk : kps A v w e k with
      | true =>
        rw [hkk] at c1 c2
        obtain ⟨S2, e2, f2⟩ := ih (k + 1) fu S1 h1 (by omega) (by omega)
        rw [c1, c2] at e2
        exact ⟨S2, by simpa using e2, f1.tr f2⟩
      | false =>
        rw [hkk] at c1 c2
        obtain ⟨S2, e2, f2⟩ := m_first h1 hk' hw he (s := 1) (by decide)
        have a1 : ((aC A k).any fun c => isS 1 c && hc A v w e c) = anyS A v w e k 1 := rfl
        obtain ⟨S3, e3, f3⟩ := ih (k + 1) fu S2 (h1.f1 f2) (by omega) (by omega)
        rw [c1, c2] at e3
        refine ⟨S3, ?_, (f1.tr f2).tr f3⟩
        simp only [if_true, Bool.toNat_false, nI_eq (show 0 < 2 ^ 31 by decide) (show 0 < 2 ^ 31 by decide), e2, bd_s, oI_lt (fi_b h.1 hk'), fi_any, a1]
        cases ha : anyS A v w e k 1 with
        | true =>
          rw [ha] at e3
          simpa using e3
        | false =>
          rw [ha] at e3
          simpa using e3
    · have hb : (aL A k == l) = false := by simp [hl2]
      rw [hb, Bool.false_and] at c1
      rw [hb, Bool.false_and, Bool.false_and] at c2
      obtain ⟨S2, e2, f2⟩ := ih (k + 1) fu S h (by omega) (by omega)
      rw [c1, c2] at e2
      exact ⟨S2, by simp only [if_neg hl2]; exact e2, f2⟩
theorem mq_clash (h : WF A) (g : MM A S) (a b c : Int32) : ∃ S', mm_clash S a b c = some (sClash A a b c, S') ∧ MM A S' := by
  unfold mm_clash sClash
  simp only [q0, q1, q2, q3, q4, q5, q6, q7, q8, q9, q10, q11, q14, q20, q32, q33, q38, q40, q41, q48, q57, q59, q60, q61, q62, q98, q99, q100, q101, q104, q107, q115, q117, q124, q1000, q1023, q1024, m_isLay h g, bd_s, ck_t, lt_t, b2_0]
  cases h1 : ix (aN A) a with
  | none => exact ⟨S, by simp [q1], g⟩
  | some w =>
  cases h2 : ix 4 b with
  | none => exact ⟨S, by simp [q1], g⟩
  | some e =>
  cases h3 : ix 2 c with
  | none => exact ⟨S, by simp [q1], g⟩
  | some l =>
  have hN := wfN h
  have hR := wfR h
  obtain ⟨hw, rfl⟩ := ix_s (by omega) h1
  obtain ⟨he, rfl⟩ := ix_s (by decide) h2
  obtain ⟨hl, rfl⟩ := ix_s (by decide) h3
  obtain ⟨S0, x, e0, f0, v0'⟩ := m_asIs h g
  obtain ⟨S1, e1, f1⟩ := m_clashl hw he hl (aR A) 0 4000 S0 v0' (by omega) (by omega)
  refine ⟨S1, ?_, (v0'.f1 f1).2.1⟩
  simp only [Option.isSome_some, Bool.and_true, reduceCtorEq, if_false, e0, bd_s]
  exact e1
def slm (A : AA) (e l w : Nat) : Bool := !(List.range (aR A)).any fun r => aL A r == l && mts A (v0 A) w e r
def sSilent (A : AA) (a b : Int32) : Int32 := match ix 4 a, ix 2 b with
  | some e, some l => nI (msk (slm A e l) (aN A))
  | _, _ => -1
theorem m_sil2 {w e l : Nat} {k27 : Int32 → Int32 → Int32 → Int32 → MS → Option (Int32 × MS)} {x3 : Int32} (hw : w < aN A) (he : e < 4) (hl : l < 2) : ∀ (n k fuel : Nat) (m : Bool) (S : MS), MV A v S → k + n = aR A → n < fuel → ∃ S', Fm [] ev1 S S' ∧ mm_silent_42L k27 fuel (nI e) (nI l) x3 (nI w) (nI m.toNat) (nI k) S = mm_silent_106 k27 (nI e) (nI l) (nI w) x3 (nI (if (m || (List.range' k n).any fun r => aL A r == l && mts A v w e r) = true then 0 else 2 ^ w)) S' := by
  intro n
  induction n with
  | zero =>
    intro k fuel m S h hk hf
    obtain ⟨fu, rfl⟩ : ∃ fu, fuel = fu + 1 := ⟨fuel - 1, by omega⟩
    have hR := wfR h.1
    have hN := wfN h.1
    obtain rfl : k = aR A := by omega
    refine ⟨S, Fm.rf, ?_⟩
    have g := h.2.1.2.1.1
    have hw32 : w < 32 := by omega
    show mm_silent_42 _ _ _ _ _ _ _ _ _ = _
    unfold mm_silent_42
    simp (discharger := omega) only [q0, q1, q2, q3, q4, q5, q6, q7, q8, q9, q10, q11, q14, q20, q32, q33, q38, q40, q41, q48, q57, q59, q60, q61, q62, q98, q99, q100, q101, q104, q107, q115, q117, q124, q1000, q1023, q1024, bd_s, ck_t, lt_t, nI_add, pk_mul, nI_clamp, ne_n, lt_n, le_n, vin_n, decide_true, decide_false, if_true, if_false, g, Nat.le_refl, b2_0, shl_n hw32]
    cases m <;> simp
  | succ n ih =>
    intro k fuel m S h hk hf
    obtain ⟨fu, rfl⟩ : ∃ fu, fuel = fu + 1 := ⟨fuel - 1, by omega⟩
    have hR := wfR h.1
    have g := h.2.1.2.1.1
    have hk' : k < aR A := by omega
    have g13 := (h.2.1.2.1.2 k hk').1
    have hL := wfL h.1 hk'
    have hk1 : ¬ aR A ≤ k := by omega
    have hk10 : k < 10 := by omega
    rw [List.range'_succ, List.any_cons]
    show ∃ S', _ ∧ mm_silent_42 _ _ _ _ _ _ _ _ _ = _
    unfold mm_silent_42 mm_silent_79 mm_silent_83 mm_silent_84
    simp (discharger := omega) only [q0, q1, q2, q3, q4, q5, q6, q7, q8, q9, q10, q11, q14, q20, q32, q33, q38, q40, q41, q48, q57, q59, q60, q61, q62, q98, q99, q100, q101, q104, q107, q115, q117, q124, q1000, q1023, q1024, bd_s, ck_t, lt_t, nI_add, pk_mul, nI_clamp, ne_n, lt_n, le_n, vin_n, decide_true, decide_false, if_true, if_false, g, g13, hk1, hk10, b2_0]
    cases m with
    | true =>
      obtain ⟨S2, f2, e2⟩ := ih (k + 1) fu true S h (by omega) (by omega)
      refine ⟨S2, f2, ?_⟩
      simp only [reduceCtorEq, if_false]
      rw [show nI 1 = nI true.toNat from rfl, e2]
      simp
    | false =>
      simp only [if_true, Bool.false_or]
      by_cases hl2 : aL A k = l
      · obtain ⟨S1, e1, f1⟩ := m_meetsIt h hk' hw he
        have hb : (aL A k == l) = true := by simp [hl2]
        obtain ⟨S2, f2, e2⟩ := ih (k + 1) fu (mts A v w e k) S1 (h.f1 f1) (by omega) (by omega)
        refine ⟨S2, f1.tr f2, ?_⟩
        simp only [if_pos hl2, e1, bd_s, b2_0, hb, Bool.true_and]
        cases hm : mts A v w e k with
        | true =>
          rw [hm] at e2
          simpa using e2
        | false =>
          rw [hm] at e2
          simpa using e2
      · have hb : (aL A k == l) = false := by simp [hl2]
        obtain ⟨S2, f2, e2⟩ := ih (k + 1) fu false S h (by omega) (by omega)
        refine ⟨S2, f2, ?_⟩
        simp only [if_neg hl2, hb, Bool.false_and, Bool.false_or]
        simp only [Bool.toNat_false, Bool.false_or] at e2
        exact e2
theorem m_sil1 {e l : Nat} (he : e < 4) (hl : l < 2) : ∀ (n k fuel : Nat) (S : MS), MV A (v0 A) S → k + n = aN A → n < fuel → ∃ S', mm_silent_27L fuel (nI e) (nI l) (nI (msk (slm A e l) k)) (nI k) S = some (nI (msk (slm A e l) (aN A)), S') ∧ Fm [] ev1 S S' := by
  intro n
  induction n with
  | zero =>
    intro k fuel S h hk hf
    obtain ⟨fu, rfl⟩ : ∃ fu, fuel = fu + 1 := ⟨fuel - 1, by omega⟩
    have hN := wfN h.1
    obtain rfl : k = aN A := by omega
    refine ⟨S, ?_, Fm.rf⟩
    have g := h.2.1.1.1
    show mm_silent_27 _ _ _ _ _ _ = _
    unfold mm_silent_27
    simp (discharger := omega) only [q0, q1, q2, q3, q4, q5, q6, q7, q8, q9, q10, q11, q14, q20, q32, q33, q38, q40, q41, q48, q57, q59, q60, q61, q62, q98, q99, q100, q101, q104, q107, q115, q117, q124, q1000, q1023, q1024, bd_s, ck_t, lt_t, nI_add, pk_mul, nI_clamp, ne_n, lt_n, le_n, vin_n, decide_true, decide_false, if_true, if_false, g, Nat.le_refl]
  | succ n ih =>
    intro k fuel S h hk hf
    obtain ⟨fu, rfl⟩ : ∃ fu, fuel = fu + 1 := ⟨fuel - 1, by omega⟩
    have hN := wfN h.1
    have hR := wfR h.1
    have g := h.2.1.1.1
    have hk' : k < aN A := by omega
    have hk1 : ¬ aN A ≤ k := by omega
    obtain ⟨S1, f1, e1⟩ := m_sil2 (k27 := mm_silent_27L fu) (x3 := nI (msk (slm A e l) k)) hk' he hl (aR A) 0 4000 false S h (by omega) (by omega)
    obtain ⟨S2, e2, f2⟩ := ih (k + 1) fu S1 (h.f1 f1) (by omega) (by omega)
    refine ⟨S2, ?_, f1.tr f2⟩
    show mm_silent_27 _ _ _ _ _ _ = _
    unfold mm_silent_27
    simp (discharger := omega) only [q0, q1, q2, q3, q4, q5, q6, q7, q8, q9, q10, q11, q14, q20, q32, q33, q38, q40, q41, q48, q57, q59, q60, q61, q62, q98, q99, q100, q101, q104, q107, q115, q117, q124, q1000, q1023, q1024, bd_s, ck_t, lt_t, nI_add, pk_mul, nI_clamp, ne_n, lt_n, le_n, vin_n, decide_true, decide_false, if_true, if_false, g, hk1]
    rw [show nI 0 = nI false.toNat from rfl, show nI false.toNat = nI 0 from rfl] at e1 ⊢
    rw [e1]
    unfold mm_silent_106
    simp only [q0, q1, q2, q3, q4, q5, q6, q7, q8, q9, q10, q11, q14, q20, q32, q33, q38, q40, q41, q48, q57, q59, q60, q61, q62, q98, q99, q100, q101, q104, q107, q115, q117, q124, q1000, q1023, q1024, lt_t, nI_add]
    rw [← List.range_eq_range', Bool.false_or]
    cases hh : (List.range (aR A)).any fun r => aL A r == l && mts A (v0 A) k e r with
    | true =>
      have hs : slm A e l k = false := by unfold slm; rw [hh]; rfl
      rw [if_pos rfl, acc_f hs, e2]
    | false =>
      have hs : slm A e l k = true := by unfold slm; rw [hh]; rfl
      rw [if_neg (by decide), acc_t hs, e2]
theorem mq_silent (h : WF A) (g : MM A S) (a b : Int32) : ∃ S', mm_silent S a b = some (sSilent A a b, S') ∧ MM A S' := by
  unfold mm_silent mm_silent_16 sSilent
  simp only [q0, q1, q2, q3, q4, q5, q6, q7, q8, q9, q10, q11, q14, q20, q32, q33, q38, q40, q41, q48, q57, q59, q60, q61, q62, q98, q99, q100, q101, q104, q107, q115, q117, q124, q1000, q1023, q1024, m_isE, m_isL, bd_s, ck_t, lt_t, b2_0]
  cases h1 : ix 4 a with
  | none => exact ⟨S, by simp [q1], g⟩
  | some e =>
  cases h3 : ix 2 b with
  | none => exact ⟨S, by simp [q1], g⟩
  | some l =>
  have hN := wfN h
  obtain ⟨he, rfl⟩ := ix_s (by decide) h1
  obtain ⟨hl, rfl⟩ := ix_s (by decide) h3
  obtain ⟨S0, x, e0, f0, v0'⟩ := m_asIs h g
  obtain ⟨S1, e1, f1⟩ := m_sil1 he hl (aN A) 0 4000 S0 v0' (by omega) (by omega)
  refine ⟨S1, ?_, (v0'.f1 f1).2.1⟩
  simp only [Option.isSome_some, reduceCtorEq, if_false, e0, bd_s]
  exact e1
def bsd (A : AA) (e q w : Nat) : Bool := if q = 0 then hrE A (v0 A) 0 e w && !hrE A (v0 A) 1 e w else if q = 1 then hrE A (v0 A) 1 e w && !hrE A (v0 A) 0 e w else hrE A (v0 A) 0 e w && hrE A (v0 A) 1 e w
def sBeside (A : AA) (a b : Int32) : Int32 := match ix 4 a, ix 3 b with
  | some e, some q => nI (msk (bsd A e q) (aN A))
  | _, _ => -1
theorem m_besl {e q : Nat} (he : e < 4) (hq : q < 3) : ∀ (n k fuel : Nat) (S : MS), MV A (v0 A) S → k + n = aN A → n < fuel → ∃ S', mm_beside_29L fuel (nI e) (nI q) (nI (msk (bsd A e q) k)) (nI k) S = some (nI (msk (bsd A e q) (aN A)), S') ∧ Fm [] ev2 S S' := by
  intro n
  induction n with
  | zero =>
    intro k fuel S h hk hf
    obtain ⟨fu, rfl⟩ : ∃ fu, fuel = fu + 1 := ⟨fuel - 1, by omega⟩
    have hN := wfN h.1
    obtain rfl : k = aN A := by omega
    refine ⟨S, ?_, Fm.rf⟩
    have g := h.2.1.1.1
    show mm_beside_29 _ _ _ _ _ _ = _
    unfold mm_beside_29
    simp (discharger := omega) only [q0, q1, q2, q3, q4, q5, q6, q7, q8, q9, q10, q11, q14, q20, q32, q33, q38, q40, q41, q48, q57, q59, q60, q61, q62, q98, q99, q100, q101, q104, q107, q115, q117, q124, q1000, q1023, q1024, bd_s, ck_t, lt_t, nI_add, pk_mul, nI_clamp, ne_n, lt_n, le_n, vin_n, decide_true, decide_false, if_true, if_false, g, Nat.le_refl]
  | succ n ih =>
    intro k fuel S h hk hf
    obtain ⟨fu, rfl⟩ : ∃ fu, fuel = fu + 1 := ⟨fuel - 1, by omega⟩
    have hN := wfN h.1
    have g := h.2.1.1.1
    have hk' : k < aN A := by omega
    have hk1 : ¬ aN A ≤ k := by omega
    have hk32 : k < 32 := by omega
    obtain ⟨S1, e1, f1⟩ := m_hrE h hk' he (show 0 < 2 by decide)
    have h1 := h.f2 f1
    obtain ⟨S2, e2, f2⟩ := m_hrE h1 hk' he (show 1 < 2 by decide)
    obtain ⟨S3, e3, f3⟩ := ih (k + 1) fu S2 (h1.f2 f2) (by omega) (by omega)
    refine ⟨S3, ?_, (f1.tr f2).tr f3⟩
    show mm_beside_29 _ _ _ _ _ _ = _
    unfold mm_beside_29 mm_beside_104 mm_beside_111 mm_beside_112
    simp (discharger := omega) only [q0, q1, q2, q3, q4, q5, q6, q7, q8, q9, q10, q11, q14, q20, q32, q33, q38, q40, q41, q48, q57, q59, q60, q61, q62, q98, q99, q100, q101, q104, q107, q115, q117, q124, q1000, q1023, q1024, bd_s, ck_t, lt_t, nI_add, pk_mul, nI_clamp, ne_n, lt_n, le_n, vin_n, decide_true, decide_false, if_true, if_false, g, hk1, e1, e2, b2_0, shl_n hk32]
    have hT : bsd A e q k = true → mm_beside_29L fu (nI e) (nI q) (nI (msk (bsd A e q) k) ||| nI (2 ^ k)) (nI (k + 1)) S2 = some (nI (msk (bsd A e q) (aN A)), S3) := fun hh => by rw [acc_t hh, e3]
    have hF : bsd A e q k = false → mm_beside_29L fu (nI e) (nI q) (nI (msk (bsd A e q) k) ||| nI 0) (nI (k + 1)) S2 = some (nI (msk (bsd A e q) (aN A)), S3) := fun hh => by rw [acc_f hh, e3]
    have hqq : q = 0 ∨ q = 1 ∨ q = 2 := by omega
    unfold bsd at hT hF ⊢
    rcases hqq with rfl | rfl | rfl
    all_goals
      cases ha : hrE A (v0 A) 0 e k <;> cases hb : hrE A (v0 A) 1 e k
      all_goals
        simp only [ha, hb, eq_self, reduceCtorEq, Bool.not_true, Bool.not_false, Bool.toNat_true, Bool.toNat_false, Bool.and_true, Bool.and_false, Bool.or_true, Bool.or_false, Bool.true_and, Bool.false_and, Bool.true_or, Bool.false_or, List.length_cons, if_true, if_false, show ¬ (1 = 0) by decide, show ¬ (2 = 0) by decide, show ¬ (2 = 1) by decide, forall_const, false_implies, true_implies] at hT hF ⊢
      all_goals first | exact hT | exact hF
theorem mq_beside (h : WF A) (g : MM A S) (a b : Int32) : ∃ S', mm_beside S a b = some (sBeside A a b, S') ∧ MM A S' := by
  unfold mm_beside mm_beside_18 sBeside
  have i2 := m_in' S 2 b (by decide)
  simp only [q0, q1, q2, q3, q4, q5, q6, q7, q8, q9, q10, q11, q14, q20, q32, q33, q38, q40, q41, q48, q57, q59, q60, q61, q62, q98, q99, q100, q101, q104, q107, q115, q117, q124, q1000, q1023, q1024] at i2 ⊢
  simp only [m_isE, i2, bd_s, ck_t, lt_t, b2_0]
  cases h1 : ix 4 a with
  | none => exact ⟨S, by simp [q1], g⟩
  | some e =>
  cases h3 : ix 3 b with
  | none => exact ⟨S, by simp [q1, h3], g⟩
  | some q =>
  have h3' : ix (2 + 1) b = some q := h3
  have hN := wfN h
  obtain ⟨he, rfl⟩ := ix_s (by decide) h1
  obtain ⟨hq, rfl⟩ := ix_s (by decide) h3
  obtain ⟨S0, x, e0, f0, v0'⟩ := m_asIs h g
  obtain ⟨S1, e1, f1⟩ := m_besl he hq (aN A) 0 4000 S0 v0' (by omega) (by omega)
  refine ⟨S1, ?_, (v0'.f2 f1).2.1⟩
  simp only [h3', Option.isSome_some, reduceCtorEq, if_false, e0, bd_s]
  exact e1
end PMQ2
