-- the reference: a clause, a rule
section PMH
variable {A : AA} {v : VV} {S : MS}
theorem dv1 {a : Nat} (ha : a < 2 ^ 31) : nI a / (10 : Int32) - nI a / (10 : Int32) / (100 : Int32) * (100 : Int32) = nI (a / 10 % 100) := by
  rw [q10, q100, pk_div ha (by decide) (by decide), pk_rem (by omega) (by decide) (by decide)]
theorem dv2 {a : Nat} (ha : a < 2 ^ 31) : nI a - nI a / (10 : Int32) * (10 : Int32) = nI (a % 10) := by
  rw [q10, pk_rem ha (by decide) (by decide)]
theorem dv3 {a : Nat} (ha : a < 2 ^ 31) : nI a / (1000 : Int32) = nI (a / 1000) := by
  rw [q1000, pk_div ha (by decide) (by decide)]
theorem ite_b {p : Prop} [Decidable p] {S : MS} : (if p then some (nI 1, S) else some (nI 0, S)) = some (nI (decide p).toNat, S) := by
  by_cases h : p <;> simp [h]
theorem tk_cases {t : Nat} (ht : tkO t = true) : t % 10 < 10 ∧ t < 200 ∧ (t / 10 = 0 ∨ t / 10 = 1 ∨ t / 10 = 2 ∨ t / 10 = 3 ∨ t / 10 = 4 ∨ t / 10 = 5 ∨ t / 10 = 7 ∨ t / 10 = 10 ∨ t / 10 = 13 ∨ t / 10 = 16 ∨ t / 10 = 19) := by
  have := of_decide_eq_true ht
  omega
theorem eM_t {t : Nat} (ht : tkO t = true) : eM t = 1000 * ltr (t / 10) + 10 * sgn (t / 10) + t % 10 := by
  have := tk_cases ht
  unfold eM
  rw [if_neg (by omega), if_neg (by omega), if_neg (by omega)]
theorem m_tst (h : MV A v S) {w e t : Nat} (hw : w < aN A) (he : e < 4) (ht : tkO t = true) : mm_test S (nI (eM t)) (nI w) (nI e) = some (nI (tst A v w e t).toNat, S) := by
  have hN := wfN h.1
  have hB := wfB h.1 hw
  have hK := wfK h.1 hw
  have hKn := wfKn h.1 hB
  obtain ⟨g4, g5, -⟩ := (h.2.1.1.2 w (by omega)).1 hw
  have g3 := h.2.1.2.2.1 _ hB
  obtain ⟨g27, hbf⟩ := h.2.2.2.2.2.2.1 _ hB
  have g24 := h.2.2.1
  have hsh := h.2.2.2.2.1
  obtain ⟨hf, ht2, hs⟩ := tk_cases ht
  rw [eM_t ht]
  generalize hff : t % 10 = f at *
  have hsf : t = 10 * (t / 10) + f := by omega
  have hw14 : w < 14 := by omega
  rcases hs with q | q | q | q | q | q | q | q | q | q | q
  all_goals
    unfold tst mm_test
    rw [q]
    simp only [hff, show  ltr 0 = 107 from rfl, show ltr 1 = 107 from rfl, show ltr 2 = 107 from rfl, show ltr 3 = 104 from rfl, show ltr 4 = 104 from rfl, show ltr 5 = 104 from rfl, show ltr 7 = 117 from rfl, show ltr 10 = 98 from rfl, show ltr 13 = 99 from rfl, show ltr 16 = 101 from rfl, show ltr 19 = 115 from rfl, show sgn 0 = 60 from rfl, show sgn 1 = 61 from rfl, show sgn 2 = 62 from rfl, show sgn 3 = 60 from rfl, show sgn 4 = 61 from rfl, show sgn 5 = 62 from rfl, show sgn 7 = 61 from rfl, show sgn 10 = 61 from rfl, show sgn 13 = 61 from rfl, show sgn 16 = 61 from rfl, show sgn 19 = 61 from rfl]
  all_goals
    rw [dv1 (by omega), dv2 (by omega), dv3 (by omega)]
  · rw [show (1000 * 107 + 10 * 60 + f) / 10 % 100 = 60 by omega, show (1000 * 107 + 10 * 60 + f) % 10 = f by omega, show (1000 * 107 + 10 * 60 + f) / 1000 = 107 by omega]
    simp only [q0, q1, q2, q3, q4, q5, q6, q7, q8, q9, q10, q11, q14, q20, q32, q33, q38, q40, q41, q48, q57, q59, q60, q61, q62, q98, q99, q100, q101, q104, q107, q115, q117, q124, q1000, q1023, q1024, bd_s, ck_t, lt_t]
    simp (discharger := omega) only [nI_add, pk_mul, nI_clamp, ne_n, lt_n, le_n, vin_n, decide_true, decide_false, if_true, if_false, g4, bd_s, ck_t, lt_t, m_cmp S (g := 60) (by decide) (show aK A w < 2 ^ 31 by omega) hf, z01_b, show ¬ (61 = 60) by decide, show ¬ (62 = 60) by decide, show ¬ (62 = 61) by decide, show ¬ (107 = 98) by decide, show ¬ (107 = 99) by decide, show ¬ (107 = 101) by decide, show ¬ (107 = 104) by decide, hw14]
  · rw [show (1000 * 107 + 10 * 61 + f) / 10 % 100 = 61 by omega, show (1000 * 107 + 10 * 61 + f) % 10 = f by omega, show (1000 * 107 + 10 * 61 + f) / 1000 = 107 by omega]
    simp only [q0, q1, q2, q3, q4, q5, q6, q7, q8, q9, q10, q11, q14, q20, q32, q33, q38, q40, q41, q48, q57, q59, q60, q61, q62, q98, q99, q100, q101, q104, q107, q115, q117, q124, q1000, q1023, q1024, bd_s, ck_t, lt_t]
    simp (discharger := omega) only [nI_add, pk_mul, nI_clamp, ne_n, lt_n, le_n, vin_n, decide_true, decide_false, if_true, if_false, g4, bd_s, ck_t, lt_t, m_cmp S (g := 61) (by decide) (show aK A w < 2 ^ 31 by omega) hf, z01_b, show ¬ (61 = 60) by decide, show ¬ (62 = 60) by decide, show ¬ (62 = 61) by decide, show ¬ (107 = 98) by decide, show ¬ (107 = 99) by decide, show ¬ (107 = 101) by decide, show ¬ (107 = 104) by decide, hw14]
  · rw [show (1000 * 107 + 10 * 62 + f) / 10 % 100 = 62 by omega, show (1000 * 107 + 10 * 62 + f) % 10 = f by omega, show (1000 * 107 + 10 * 62 + f) / 1000 = 107 by omega]
    simp only [q0, q1, q2, q3, q4, q5, q6, q7, q8, q9, q10, q11, q14, q20, q32, q33, q38, q40, q41, q48, q57, q59, q60, q61, q62, q98, q99, q100, q101, q104, q107, q115, q117, q124, q1000, q1023, q1024, bd_s, ck_t, lt_t]
    simp (discharger := omega) only [nI_add, pk_mul, nI_clamp, ne_n, lt_n, le_n, vin_n, decide_true, decide_false, if_true, if_false, g4, bd_s, ck_t, lt_t, m_cmp S (g := 62) (by decide) (show aK A w < 2 ^ 31 by omega) hf, z01_b, show ¬ (61 = 60) by decide, show ¬ (62 = 60) by decide, show ¬ (62 = 61) by decide, show ¬ (107 = 98) by decide, show ¬ (107 = 99) by decide, show ¬ (107 = 101) by decide, show ¬ (107 = 104) by decide, hw14]
  · rw [show (1000 * 104 + 10 * 60 + f) / 10 % 100 = 60 by omega, show (1000 * 104 + 10 * 60 + f) % 10 = f by omega, show (1000 * 104 + 10 * 60 + f) / 1000 = 104 by omega]
    simp only [q0, q1, q2, q3, q4, q5, q6, q7, q8, q9, q10, q11, q14, q20, q32, q33, q38, q40, q41, q48, q57, q59, q60, q61, q62, q98, q99, q100, q101, q104, q107, q115, q117, q124, q1000, q1023, q1024, bd_s, ck_t, lt_t]
    simp (discharger := omega) only [nI_add, pk_mul, nI_clamp, ne_n, lt_n, le_n, vin_n, decide_true, decide_false, if_true, if_false, g5, g27, bd_s, ck_t, lt_t, m_cmp S (g := 60) (by decide) (show v.2.2.1 (aB A w) < 2 ^ 31 by omega) hf, z01_b, show ¬ (61 = 60) by decide, show ¬ (62 = 60) by decide, show ¬ (62 = 61) by decide, show ¬ (104 = 98) by decide, show ¬ (104 = 99) by decide, show ¬ (104 = 101) by decide, hw14, hB]
  · rw [show (1000 * 104 + 10 * 61 + f) / 10 % 100 = 61 by omega, show (1000 * 104 + 10 * 61 + f) % 10 = f by omega, show (1000 * 104 + 10 * 61 + f) / 1000 = 104 by omega]
    simp only [q0, q1, q2, q3, q4, q5, q6, q7, q8, q9, q10, q11, q14, q20, q32, q33, q38, q40, q41, q48, q57, q59, q60, q61, q62, q98, q99, q100, q101, q104, q107, q115, q117, q124, q1000, q1023, q1024, bd_s, ck_t, lt_t]
    simp (discharger := omega) only [nI_add, pk_mul, nI_clamp, ne_n, lt_n, le_n, vin_n, decide_true, decide_false, if_true, if_false, g5, g27, bd_s, ck_t, lt_t, m_cmp S (g := 61) (by decide) (show v.2.2.1 (aB A w) < 2 ^ 31 by omega) hf, z01_b, show ¬ (61 = 60) by decide, show ¬ (62 = 60) by decide, show ¬ (62 = 61) by decide, show ¬ (104 = 98) by decide, show ¬ (104 = 99) by decide, show ¬ (104 = 101) by decide, hw14, hB]
  · rw [show (1000 * 104 + 10 * 62 + f) / 10 % 100 = 62 by omega, show (1000 * 104 + 10 * 62 + f) % 10 = f by omega, show (1000 * 104 + 10 * 62 + f) / 1000 = 104 by omega]
    simp only [q0, q1, q2, q3, q4, q5, q6, q7, q8, q9, q10, q11, q14, q20, q32, q33, q38, q40, q41, q48, q57, q59, q60, q61, q62, q98, q99, q100, q101, q104, q107, q115, q117, q124, q1000, q1023, q1024, bd_s, ck_t, lt_t]
    simp (discharger := omega) only [nI_add, pk_mul, nI_clamp, ne_n, lt_n, le_n, vin_n, decide_true, decide_false, if_true, if_false, g5, g27, bd_s, ck_t, lt_t, m_cmp S (g := 62) (by decide) (show v.2.2.1 (aB A w) < 2 ^ 31 by omega) hf, z01_b, show ¬ (61 = 60) by decide, show ¬ (62 = 60) by decide, show ¬ (62 = 61) by decide, show ¬ (104 = 98) by decide, show ¬ (104 = 99) by decide, show ¬ (104 = 101) by decide, hw14, hB]
  · rw [show (1000 * 117 + 10 * 61 + f) / 10 % 100 = 61 by omega, show (1000 * 117 + 10 * 61 + f) % 10 = f by omega, show (1000 * 117 + 10 * 61 + f) / 1000 = 117 by omega]
    simp only [q0, q1, q2, q3, q4, q5, q6, q7, q8, q9, q10, q11, q14, q20, q32, q33, q38, q40, q41, q48, q57, q59, q60, q61, q62, q98, q99, q100, q101, q104, q107, q115, q117, q124, q1000, q1023, q1024, bd_s, ck_t, lt_t]
    simp (discharger := omega) only [nI_add, pk_mul, nI_clamp, ne_n, lt_n, le_n, vin_n, decide_true, decide_false, if_true, if_false, g4, bd_s, ck_t, lt_t, mm_test_177, show ¬ (117 = 98) by decide, show ¬ (117 = 99) by decide, show ¬ (117 = 101) by decide, show ¬ (117 = 104) by decide, show ¬ (117 = 107) by decide, hw14]
    by_cases c7 : 7 ≤ f
    · have e : ∀ k, k < 7 → ∀ f, f < 10 → 7 ≤ f → undr k f = false := by decide
      rw [if_pos c7, e _ hK _ hf c7]
      rfl
    · rw [if_neg c7]
      simp only [m_und S hK hf, bd_s, b2_0]
      cases undr (aK A w) f <;> rfl
  · rw [show (1000 * 98 + 10 * 61 + f) / 10 % 100 = 61 by omega, show (1000 * 98 + 10 * 61 + f) % 10 = f by omega, show (1000 * 98 + 10 * 61 + f) / 1000 = 98 by omega]
    simp only [q0, q1, q2, q3, q4, q5, q6, q7, q8, q9, q10, q11, q14, q20, q32, q33, q38, q40, q41, q48, q57, q59, q60, q61, q62, q98, q99, q100, q101, q104, q107, q115, q117, q124, q1000, q1023, q1024, bd_s, ck_t, lt_t]
    simp (discharger := omega) only [nI_add, pk_mul, nI_clamp, ne_n, lt_n, le_n, vin_n, decide_true, decide_false, if_true, if_false, g5, bd_s, ck_t, lt_t, hw14, ite_b]
  · rw [show (1000 * 99 + 10 * 61 + f) / 10 % 100 = 61 by omega, show (1000 * 99 + 10 * 61 + f) % 10 = f by omega, show (1000 * 99 + 10 * 61 + f) / 1000 = 99 by omega]
    simp only [q0, q1, q2, q3, q4, q5, q6, q7, q8, q9, q10, q11, q14, q20, q32, q33, q38, q40, q41, q48, q57, q59, q60, q61, q62, q98, q99, q100, q101, q104, q107, q115, q117, q124, q1000, q1023, q1024, bd_s, ck_t, lt_t]
    simp (discharger := omega) only [nI_add, pk_mul, nI_clamp, ne_n, lt_n, le_n, vin_n, decide_true, decide_false, if_true, if_false, g5, g3, bd_s, ck_t, lt_t, hw14, hB, m_has S (show aKn A (aB A w) < 2 ^ 31 by omega) (show f < 32 by omega), z01_b, show ¬ (99 = 98) by decide]
  · rw [show (1000 * 101 + 10 * 61 + f) / 10 % 100 = 61 by omega, show (1000 * 101 + 10 * 61 + f) % 10 = f by omega, show (1000 * 101 + 10 * 61 + f) / 1000 = 101 by omega]
    simp only [q0, q1, q2, q3, q4, q5, q6, q7, q8, q9, q10, q11, q14, q20, q32, q33, q38, q40, q41, q48, q57, q59, q60, q61, q62, q98, q99, q100, q101, q104, q107, q115, q117, q124, q1000, q1023, q1024, bd_s, ck_t, lt_t]
    simp (discharger := omega) only [nI_add, pk_mul, nI_clamp, ne_n, lt_n, le_n, vin_n, decide_true, decide_false, if_true, if_false, bd_s, ck_t, lt_t, show ¬ (101 = 98) by decide, show ¬ (101 = 99) by decide, ite_b]
  · rw [show (1000 * 115 + 10 * 61 + f) / 10 % 100 = 61 by omega, show (1000 * 115 + 10 * 61 + f) % 10 = f by omega, show (1000 * 115 + 10 * 61 + f) / 1000 = 115 by omega]
    simp only [q0, q1, q2, q3, q4, q5, q6, q7, q8, q9, q10, q11, q14, q20, q32, q33, q38, q40, q41, q48, q57, q59, q60, q61, q62, q98, q99, q100, q101, q104, q107, q115, q117, q124, q1000, q1023, q1024, bd_s, ck_t, lt_t]
    simp (discharger := omega) only [nI_add, pk_mul, nI_clamp, ne_n, lt_n, le_n, vin_n, decide_true, decide_false, if_true, if_false, bd_s, ck_t, lt_t, mm_test_226, g24, m_has S (show v.1 < 2 ^ 31 by omega) (show f < 32 by omega), z01_b, show ¬ (115 = 98) by decide, show ¬ (115 = 99) by decide, show ¬ (115 = 101) by decide, show ¬ (115 = 104) by decide, show ¬ (115 = 107) by decide, show ¬ (115 = 117) by decide]
end PMH
