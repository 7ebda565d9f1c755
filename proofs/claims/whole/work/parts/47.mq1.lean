section PMQ1
variable {A : AA} {v : VV} {S : MS}
theorem acc_t {f : Nat → Bool} {i : Nat} (h : f i = true) : nI (msk f i) ||| nI (2 ^ i) = nI (msk f (i + 1)) := by rw [or_n, msk_or f i h]
theorem acc_f {f : Nat → Bool} {i : Nat} (h : f i = false) : nI (msk f i) ||| nI 0 = nI (msk f (i + 1)) := by rw [or_n, Nat.or_zero, msk_no f i h]
theorem m_onl (S : MS) : ∀ (n a x fuel : Nat), a < 2 ^ 14 → cn a.testBit 14 = n → n < fuel → mm_ones_4L fuel (nI x) (nI a) S = some (nI (x + n), S) := by
  intro n
  induction n with
  | zero =>
    intro a x fuel ha hc hf
    obtain ⟨fu, rfl⟩ : ∃ fu, fuel = fu + 1 := ⟨fuel - 1, by omega⟩
    have h0 : a = 0 := eq0_of.mpr (fun i => by
      rcases Nat.lt_or_ge i 14 with q | q
      · exact cn_0 hc i q
      · cases c : a.testBit i with
        | false => rfl
        | true => exact absurd (of_lt ha c) (by omega))
    subst h0
    show mm_ones_4 _ _ _ _ = _
    unfold mm_ones_4
    simp only [q0, if_true]
    rfl
  | succ n ih =>
    intro a x fuel ha hc hf
    obtain ⟨fu, rfl⟩ : ∃ fu, fuel = fu + 1 := ⟨fuel - 1, by omega⟩
    have h0 : a ≠ 0 := fun e => by
      subst e
      have : cn (Nat.testBit 0) 14 = 0 := by decide
      omega
    obtain ⟨k, h1, h2⟩ := low_bit 14 a ha h0
    have hk := of_lt ha h1
    have hr := cn_rm (f := (a &&& (a - 1)).testBit) (g := a.testBit) hk (by rw [h2]; simp) h1 (fun i hi => by rw [h2]; simp [hi])
    have hlt : a &&& (a - 1) < 2 ^ 14 := Nat.lt_of_le_of_lt Nat.and_le_left ha
    show mm_ones_4 _ _ _ _ = _
    unfold mm_ones_4
    simp (discharger := omega) only [q0, q1, q2, q3, q4, q5, q6, q7, q8, q9, q10, q11, q14, q20, q32, q33, q38, q40, q41, q48, q57, q59, q60, q61, q62, q98, q99, q100, q101, q104, q107, q115, q117, q124, q1000, q1023, q1024, bd_s, ck_t, lt_t, nI_add, pk_mul, nI_clamp, ne_n, lt_n, le_n, vin_n, decide_true, decide_false, if_true, if_false, h0, pk_sub (show 1 ≤ a by omega), and_n]
    rw [ih _ (x + 1) fu hlt (by omega) (by omega)]
    congr 3
    omega
theorem m_ones (S : MS) {a : Nat} (ha : a < 2 ^ 14) : mm_ones S (nI a) = some (nI (cn a.testBit 14), S) := by
  have := cn_le a.testBit 14
  unfold mm_ones
  rw [lt_t, q0, m_onl S _ a 0 4000 ha rfl (by omega), Nat.zero_add]
def sMeets (A : AA) (a b c d : Int32) : Int32 := match ix (aR A) a, ix (aN A) b, ix 4 c, ix 3 d with
  | some r, some w, some e, some q => if q = 0 then nI (mts A (v0 A) w e r).toNat else if q = 1 then nI (kps A (v0 A) w e r).toNat else (match wyo A (v0 A) w e r with | some k => nI k | none => -5)
  | _, _, _, _ => -1
theorem wyo_b (h : WF A) {r w e : Nat} (hr : r < aR A) : ∀ k, wyo A v w e r = some k → k < 2 ^ 31 := by
  intro k q
  unfold wyo at q
  split at q
  · exact fi_b h hr k q
  · cases q
theorem MM.as {S T : MS} (h : MM A S) (f : Fm mAs [27] S T) : MM A T := h.fm (f.wk (by decide) (by decide))
theorem b01 (b : Bool) {S : MS} : (if b = false then some (nI 0, S) else some (nI 1, S)) = some (nI b.toNat, S) := by cases b <;> simp
theorem mq_meets (h : WF A) (g : MM A S) (a b c d : Int32) : ∃ S', mm_meets S a b c d = some (sMeets A a b c d, S') ∧ MM A S' := by
  unfold mm_meets mm_meets_35 sMeets
  have i2 := m_in' S 2 d (by decide)
  simp only [q0, q1, q2, q3, q4, q5, q6, q7, q8, q9, q10, q11, q14, q20, q32, q33, q38, q40, q41, q48, q57, q59, q60, q61, q62, q98, q99, q100, q101, q104, q107, q115, q117, q124, q1000, q1023, q1024] at i2 ⊢
  simp only [m_isR h g, m_isW h g, m_isE, i2, bd_s, ck_t, lt_t, b2_0]
  cases h1 : ix (aR A) a with
  | none => exact ⟨S, by simp [q1], g⟩
  | some r =>
  cases h2 : ix (aN A) b with
  | none => exact ⟨S, by simp [q1], g⟩
  | some w =>
  cases h3 : ix 4 c with
  | none => exact ⟨S, by simp [q1], g⟩
  | some e =>
  cases h4 : ix 3 d with
  | none => exact ⟨S, by simp [q1, h4], g⟩
  | some q =>
  have h4' : ix (2 + 1) d = some q := h4
  obtain ⟨hr, rfl⟩ := ix_s (by have := wfR h; omega) h1
  obtain ⟨hw, rfl⟩ := ix_s (by have := wfN h; omega) h2
  obtain ⟨he, rfl⟩ := ix_s (by decide) h3
  obtain ⟨hq, rfl⟩ := ix_s (by decide) h4
  obtain ⟨S0, x, e0, f0, v0'⟩ := m_asIs h g
  simp (discharger := omega) only [h4', Option.isSome_some, reduceCtorEq, if_false, e0, bd_s, ne_n]
  by_cases c0 : q = 0
  · obtain ⟨S1, e1, f1⟩ := m_meetsIt v0' hr hw he
    simp only [c0, if_true, e1, bd_s, b2_0]
    exact ⟨S1, b01 _, (v0'.f1 f1).2.1⟩
  · by_cases c1 : q = 1
    · obtain ⟨S1, e1, f1⟩ := m_kps v0' hr hw he
      simp only [c0, c1, if_false, if_true, e1, bd_s, b2_0]
      exact ⟨S1, b01 _, (v0'.f1 f1).2.1⟩
    · obtain ⟨S1, e1, f1⟩ := m_way v0' hr hw he
      obtain ⟨S2, e2, f2⟩ := m_way (v0'.f1 f1) hr hw he
      simp only [c0, c1, if_false, e1, e2, bd_s, oI_ge (wyo_b h hr)]
      cases wyo A (v0 A) w e r with
      | none => exact ⟨S1, rfl, (v0'.f1 f1).2.1⟩
      | some k => exact ⟨S2, rfl, ((v0'.f1 f1).f1 f2).2.1⟩
def sHeard (A : AA) (a b c : Int32) : Int32 := match ix (aN A) a, ix 4 b, ix 2 c with
  | some w, some e, some l => nI (hrE A (v0 A) l e w).toNat
  | _, _, _ => -1
theorem mq_heard (h : WF A) (g : MM A S) (a b c : Int32) : ∃ S', mm_heard S a b c = some (sHeard A a b c, S') ∧ MM A S' := by
  unfold mm_heard sHeard
  simp only [q0, q1, q2, q3, q4, q5, q6, q7, q8, q9, q10, q11, q14, q20, q32, q33, q38, q40, q41, q48, q57, q59, q60, q61, q62, q98, q99, q100, q101, q104, q107, q115, q117, q124, q1000, q1023, q1024, m_isLay h g, bd_s, ck_t, lt_t, b2_0]
  cases h1 : ix (aN A) a with
  | none => exact ⟨S, by simp [q1], g⟩
  | some w =>
  cases h2 : ix 4 b with
  | none => exact ⟨S, by simp [q1], g⟩
  | some e =>
  cases h3 : ix 2 c with
  | none => exact ⟨S, by simp [q1], g⟩
  | some l =>
  obtain ⟨hw, rfl⟩ := ix_s (by have := wfN h; omega) h1
  obtain ⟨he, rfl⟩ := ix_s (by decide) h2
  obtain ⟨hl, rfl⟩ := ix_s (by decide) h3
  obtain ⟨S0, x, e0, f0, v0'⟩ := m_asIs h g
  obtain ⟨S1, e1, f1⟩ := m_hrE v0' hw he hl
  simp only [Option.isSome_some, Bool.and_true, reduceCtorEq, if_false, e0, bd_s, e1, b2_0]
  exact ⟨S1, b01 _, (v0'.f2 f1).2.1⟩
-- why
def whyF (A : AA) (v : VV) (l : Nat) : Nat → Nat → Nat → Int32
  | 0, _, _ => -5
  | f + 1, w, e => match kpr A v w e l with
    | some r => nI (100 * w + r)
    | none => if e = 1 then -5 else (match (aP A w).find? (fun p => !hrd A v l p) with | some p => whyF A v l f p 0 | none => -5)
def sWhy (A : AA) (a b c : Int32) : Int32 := match ix (aN A) a, ix 4 b, ix 2 c with
  | some w, some e, some l => whyF A (v0 A) l 15 w e
  | _, _, _ => -1
theorem kpr_lt {w e l r : Nat} (q : kpr A v w e l = some r) : r < aR A := List.mem_range.mp (List.mem_of_find?_eq_some q)
theorem m_why59 {w e l : Nat} {k31 : Int32 → Int32 → Int32 → MS → Option (Int32 × MS)} (hw : w < aN A) (he : e < 4) : ∀ (L : List Nat) (k fuel : Nat), MV A v S → HO S (hrd A v l) (aN A) → (aP A w).drop k = L → k ≤ (aP A w).length → L.length < fuel →
    mm_why_59L k31 fuel (nI l) (nI w) (nI e) (nI k) S = (if e = 1 then some (-5, S) else match L.find? (fun p => !hrd A v l p) with | some p => k31 (nI l) (nI p) (nI 0) S | none => some (-5, S)) := by
  intro L
  induction L with
  | nil =>
    intro k fuel h ho hd hk hf
    obtain ⟨fu, rfl⟩ : ∃ fu, fuel = fu + 1 := ⟨fuel - 1, by simp at hf; omega⟩
    have hN := wfN h.1
    obtain ⟨-, g7, -⟩ := h.2.1.1.2 w (by omega)
    have hl := drop_n hd
    have h4 := wfPl h.1 w
    have hkl : k = (aP A w).length := by omega
    show mm_why_59 _ _ _ _ _ _ _ = _
    unfold mm_why_59 mm_why_103
    simp (discharger := omega) only [q0, q1, q2, q3, q4, q5, q6, q7, q8, q9, q10, q11, q14, q20, q32, q33, q38, q40, q41, q48, q57, q59, q60, q61, q62, q98, q99, q100, q101, q104, q107, q115, q117, q124, q1000, q1023, q1024, bd_s, ck_t, lt_t, nI_add, pk_mul, nI_clamp, ne_n, lt_n, le_n, vin_n, decide_true, decide_false, if_true, if_false, g7, hkl, show w < 14 by omega, Nat.le_refl]
    split <;> rfl
  | cons p L ih =>
    intro k fuel h ho hd hk hf
    obtain ⟨fu, rfl⟩ : ∃ fu, fuel = fu + 1 := ⟨fuel - 1, by simp at hf; omega⟩
    have hN := wfN h.1
    obtain ⟨-, g7, g8⟩ := h.2.1.1.2 w (by omega)
    have h4 := wfPl h.1 w
    obtain ⟨hkp, hd2, hlt⟩ := drop_c hd
    have g8' := g8 k hlt
    rw [getD_s hkp] at g8'
    have hpw := wfP h.1 hw p (List.mem_of_getElem? hkp)
    have i1 := ih (k + 1) fu h ho hd2 hlt (by simp at hf; omega)
    have hop := ho p (by omega)
    show mm_why_59 _ _ _ _ _ _ _ = _
    unfold mm_why_59 mm_why_103 mm_why_97
    simp (discharger := omega) only [q0, q1, q2, q3, q4, q5, q6, q7, q8, q9, q10, q11, q14, q20, q32, q33, q38, q40, q41, q48, q57, q59, q60, q61, q62, q98, q99, q100, q101, q104, q107, q115, q117, q124, q1000, q1023, q1024, bd_s, ck_t, lt_t, nI_add, pk_mul, nI_clamp, ne_n, lt_n, le_n, vin_n, decide_true, decide_false, if_true, if_false, g7, g8', hop, b2_0, i1, show w < 14 by omega, show p < 14 by omega, show 4 * w + k < 56 by omega, show ¬ ((aP A w).length ≤ k) by omega, show ¬ (k = (aP A w).length) by omega]
    by_cases q : e = 1
    · simp only [q, if_true]
    · rw [if_neg q, if_neg q, if_neg q, List.find?_cons]
      cases hrd A v l p <;> simp
theorem m_why31 {l : Nat} (hl : l < 2) : ∀ (f w e fuel : Nat) (S : MS), MV A v S → HO S (hrd A v l) (aN A) → w < aN A → e < 4 → w < f → f ≤ fuel → ∃ S', mm_why_31L fuel (nI l) (nI w) (nI e) S = some (whyF A v l f w e, S') ∧ Fm [] ev1 S S' := by
  intro f
  induction f with
  | zero => intro w e fuel S h ho hw he hf; cases hf
  | succ f ih =>
    intro w e fuel S h ho hw he hwf hf
    obtain ⟨fu, rfl⟩ : ∃ fu, fuel = fu + 1 := ⟨fuel - 1, by omega⟩
    have hN := wfN h.1
    have hR := wfR h.1
    have h4 := wfPl h.1 w
    obtain ⟨S1, e1, f1⟩ := m_kpr h hw he hl
    have h1 := h.f1 f1
    have o1 : HO S1 (hrd A v l) (aN A) := fun i hi => by rw [f1.2.1 29 (by decide)]; exact ho i hi
    have e2 := m_why59 (l := l) (k31 := mm_why_31L fu) hw he (aP A w) 0 4000 h1 o1 rfl (Nat.zero_le _) (by omega)
    show ∃ S', mm_why_31 _ _ _ _ _ = _ ∧ _
    unfold mm_why_31 whyF
    simp only [q0, q1, q2, q3, q4, q5, q6, q7, q8, q9, q10, q11, q14, q20, q32, q33, q38, q40, q41, q48, q57, q59, q60, q61, q62, q98, q99, q100, q101, q104, q107, q115, q117, q124, q1000, q1023, q1024, bd_s, ck_t, lt_t, e1, oI_lt (kpr_b h.1)]
    cases hk : kpr A v w e l with
    | some r =>
      have := kpr_lt hk
      refine ⟨S1, ?_, f1⟩
      simp only [Option.isSome_some, reduceCtorEq, if_false]
      show some (nI 100 * nI w + nI r, S1) = _
      rw [pk_mul, nI_add]
    | none =>
      simp only [Option.isSome_none, eq_self, if_true, e2]
      by_cases q : e = 1
      · exact ⟨S1, by rw [if_pos q, if_pos q]; rfl, f1⟩
      · rw [if_neg q, if_neg q]
        cases hp : (aP A w).find? (fun p => !hrd A v l p) with
        | none => exact ⟨S1, rfl, f1⟩
        | some p =>
          have hpw := wfP h.1 hw p (List.mem_of_find?_eq_some hp)
          obtain ⟨S2, e3, f3⟩ := ih p 0 fu S1 h1 o1 (by omega) (by decide) (by omega) (by omega)
          exact ⟨S2, e3, f1.tr f3⟩
theorem mq_why (h : WF A) (g : MM A S) (a b c : Int32) : ∃ S', mm_why S a b c = some (sWhy A a b c, S') ∧ MM A S' := by
  unfold mm_why sWhy
  simp only [q0, q1, q2, q3, q4, q5, q6, q7, q8, q9, q10, q11, q14, q20, q32, q33, q38, q40, q41, q48, q57, q59, q60, q61, q62, q98, q99, q100, q101, q104, q107, q115, q117, q124, q1000, q1023, q1024, m_isLay h g, bd_s, ck_t, lt_t, b2_0]
  cases h1 : ix (aN A) a with
  | none => exact ⟨S, by simp [q1], g⟩
  | some w =>
  cases h2 : ix 4 b with
  | none => exact ⟨S, by simp [q1], g⟩
  | some e =>
  cases h3 : ix 2 c with
  | none => exact ⟨S, by simp [q1], g⟩
  | some l =>
  have hN := wfN h
  obtain ⟨hw, rfl⟩ := ix_s (by omega) h1
  obtain ⟨he, rfl⟩ := ix_s (by decide) h2
  obtain ⟨hl, rfl⟩ := ix_s (by decide) h3
  obtain ⟨S0, x, e0, f0, v0'⟩ := m_asIs h g
  obtain ⟨S1, y, e1, f1, o1⟩ := m_fh v0' (Nat.le_refl _) hl
  obtain ⟨S2, e2, f2⟩ := m_why31 hl 15 w e 4000 S1 (v0'.f2 f1) o1 hw he (by omega) (by decide)
  refine ⟨S2, ?_, ((v0'.f2 f1).f1 f2).2.1⟩
  simp only [Option.isSome_some, Bool.and_true, reduceCtorEq, if_false, e0, bd_s]
  rw [v0'.2.1.1.1, e1, bd_s, e2]
-- ends
def sEnds (A : AA) (a b : Int32) : Int32 := match ix (aN A) a, ix 2 b with
  | some w, some l => nI (msk (fun e => hrE A (v0 A) l e w) 4)
  | _, _ => -1
theorem m_endl {w l : Nat} (hw : w < aN A) (hl : l < 2) : ∀ (n k fuel : Nat) (S : MS), MV A v S → k + n = 4 → n < fuel → ∃ S', mm_ends_27L fuel (nI w) (nI l) (nI (msk (fun e => hrE A v l e w) k)) (nI k) S = some (nI (msk (fun e => hrE A v l e w) 4), S') ∧ Fm [] ev2 S S' := by
  intro n
  induction n with
  | zero =>
    intro k fuel S h hk hf
    obtain ⟨fu, rfl⟩ : ∃ fu, fuel = fu + 1 := ⟨fuel - 1, by omega⟩
    obtain rfl : k = 4 := by omega
    refine ⟨S, ?_, Fm.rf⟩
    show mm_ends_27 _ _ _ _ _ _ = _
    unfold mm_ends_27
    simp (discharger := omega) only [q0, q1, q2, q3, q4, q5, q6, q7, q8, q9, q10, q11, q14, q20, q32, q33, q38, q40, q41, q48, q57, q59, q60, q61, q62, q98, q99, q100, q101, q104, q107, q115, q117, q124, q1000, q1023, q1024, bd_s, ck_t, lt_t, nI_add, pk_mul, nI_clamp, ne_n, lt_n, le_n, vin_n, decide_true, decide_false, if_true, if_false, Nat.le_refl]
  | succ n ih =>
    intro k fuel S h hk hf
    obtain ⟨fu, rfl⟩ : ∃ fu, fuel = fu + 1 := ⟨fuel - 1, by omega⟩
    obtain ⟨S1, e1, f1⟩ := m_hrE h hw (show k < 4 by omega) hl
    obtain ⟨S2, e2, f2⟩ := ih (k + 1) fu S1 (h.f2 f1) (by omega) (by omega)
    refine ⟨S2, ?_, f1.tr f2⟩
    show mm_ends_27 _ _ _ _ _ _ = _
    unfold mm_ends_27 mm_ends_53
    have hk4 : ¬ 4 ≤ k := by omega
    have hk32 : k < 32 := by omega
    simp (discharger := omega) only [q0, q1, q2, q3, q4, q5, q6, q7, q8, q9, q10, q11, q14, q20, q32, q33, q38, q40, q41, q48, q57, q59, q60, q61, q62, q98, q99, q100, q101, q104, q107, q115, q117, q124, q1000, q1023, q1024, bd_s, ck_t, lt_t, nI_add, pk_mul, nI_clamp, ne_n, lt_n, le_n, vin_n, decide_true, decide_false, if_true, if_false, hk4, e1, b2_0, shl_n hk32]
    cases hh : hrE A v l k w with
    | true =>
      simp only [reduceCtorEq, if_false]
      rw [acc_t (f := fun e => hrE A v l e w) hh, e2]
    | false =>
      simp only [if_true]
      rw [acc_f (f := fun e => hrE A v l e w) hh, e2]
theorem mq_ends (h : WF A) (g : MM A S) (a b : Int32) : ∃ S', mm_ends S a b = some (sEnds A a b, S') ∧ MM A S' := by
  unfold mm_ends mm_ends_16 sEnds
  simp only [q0, q1, q2, q3, q4, q5, q6, q7, q8, q9, q10, q11, q14, q20, q32, q33, q38, q40, q41, q48, q57, q59, q60, q61, q62, q98, q99, q100, q101, q104, q107, q115, q117, q124, q1000, q1023, q1024, m_isW h g, m_isL, bd_s, ck_t, lt_t, b2_0]
  cases h1 : ix (aN A) a with
  | none => exact ⟨S, by simp [q1], g⟩
  | some w =>
  cases h3 : ix 2 b with
  | none => exact ⟨S, by simp [q1], g⟩
  | some l =>
  have hN := wfN h
  obtain ⟨hw, rfl⟩ := ix_s (by omega) h1
  obtain ⟨hl, rfl⟩ := ix_s (by decide) h3
  obtain ⟨S0, x, e0, f0, v0'⟩ := m_asIs h g
  obtain ⟨S1, e1, f1⟩ := m_endl hw hl 4 0 4000 S0 v0' rfl (by decide)
  refine ⟨S1, ?_, (v0'.f2 f1).2.1⟩
  simp only [Option.isSome_some, reduceCtorEq, if_false, e0, bd_s]
  exact e1
end PMQ1
