section PMR
variable {A : AA} {v : VV} {S : MS}
def oI (o : Option Nat) : Int32 := match o with
  | some k => nI k
  | none => -1
theorem oI_lt {o : Option Nat} (h : ∀ k, o = some k → k < 2 ^ 31) : (oI o < nI 0) = (o.isSome = false) := by
  cases o with
  | none => exact propext ⟨fun _ => rfl, fun _ => by decide⟩
  | some k =>
    have := nI_pos (h k rfl)
    exact propext ⟨fun q => absurd q this, fun q => by cases q⟩
theorem oI_ge {o : Option Nat} (h : ∀ k, o = some k → k < 2 ^ 31) : (nI 0 ≤ oI o) = (o.isSome = true) := by
  cases o with
  | none => exact propext ⟨fun q => absurd q (by decide), fun q => by cases q⟩
  | some k => exact propext ⟨fun _ => rfl, fun _ => nI_pos' (h k rfl)⟩
theorem fi_lt {α : Type} {p : α → Bool} : ∀ {L : List α} {k : Nat}, L.findIdx? p = some k → k < L.length
  | [], k, h => by cases h
  | a :: L, k, h => by
    rw [List.findIdx?_cons] at h
    by_cases q : p a = true
    · rw [if_pos q] at h
      cases h
      simp
    · rw [if_neg q] at h
      cases e : L.findIdx? p with
      | none => rw [e] at h; cases h
      | some j =>
        rw [e] at h
        cases h
        have := fi_lt e
        simp
        omega
theorem fi_any {α : Type} {p : α → Bool} : ∀ {L : List α}, (L.findIdx? p).isSome = L.any p
  | [] => rfl
  | a :: L => by
    rw [List.findIdx?_cons, List.any_cons]
    by_cases q : p a = true
    · rw [if_pos q, q]
      rfl
    · rw [if_neg q, Bool.eq_false_iff.mpr q, Bool.false_or, ← fi_any, Option.isSome_map]
theorem drop_c {α : Type} {L T : List α} {c : α} {k : Nat} (h : L.drop k = c :: T) : L[k]? = some c ∧ L.drop (k + 1) = T ∧ k < L.length := by
  have hl : k < L.length := by
    rcases Nat.lt_or_ge k L.length with q | q
    · exact q
    · rw [List.drop_eq_nil_of_le q] at h
      cases h
  rw [List.drop_eq_getElem_cons hl] at h
  injection h with h1 h2
  exact ⟨by rw [List.getElem?_eq_getElem hl, h1], h2, hl⟩
theorem drop_n {α : Type} {L : List α} {k : Nat} (h : L.drop k = []) : L.length ≤ k := List.drop_eq_nil_iff.mp h
theorem m_holds (h : MV A v S) {r k w e : Nat} {c : Nat × Nat × List Nat} (hr : r < aR A) (hk : (aC A r)[k]? = some c) (hw : w < aN A) (he : e < 4) : ∃ S', mm_holds S (nI (6 * r + k)) (nI w) (nI e) = some (nI (hc A v w e c).toNat, S') ∧ Fm [] ev1 S S' := by
  have hR := wfR h.1
  have hl := wfCl h.1 hr
  have hkl : k < (aC A r).length := (List.getElem?_eq_some_iff.mp hk).1
  obtain ⟨-, -, f, g1, g2, g3, g4, g5⟩ := (h.2.1.2.1.2 r hr).2.2 k c hk
  obtain ⟨-, -, o1, o2⟩ := wfC h.1 hr c (List.mem_of_getElem? hk)
  obtain ⟨S', e1, e2⟩ := m_hl hw he (c := 6 * r + k) (by omega) c.2.2 [] S f 4000 h trivial o2 (by decide) (by omega) g2 g5 (by omega)
  refine ⟨S', ?_, e2⟩
  unfold mm_holds
  simp (discharger := omega) only [q0, q1, q2, q3, q4, q5, q6, q7, q8, q9, q10, q11, q14, q20, q32, q33, q38, q40, q41, q48, q57, q59, q60, q61, q62, q98, q99, q100, q101, q104, q107, q115, q117, q124, q1000, q1023, q1024, bd_s, ck_t, lt_t, nI_add, pk_mul, nI_clamp, ne_n, lt_n, le_n, vin_n, decide_true, decide_false, if_true, if_false, g1, show 6 * r + k < 60 by omega]
  exact e1
theorem m_fl {r w e s : Nat} (hr : r < aR A) (hw : w < aN A) (he : e < 4) (hs : s < 4) : ∀ (L : List (Nat × Nat × List Nat)) (k fuel : Nat) (S : MS), MV A v S → (aC A r).drop k = L → k ≤ (aC A r).length → L.length < fuel →
    ∃ S', mm_firstOf_3L fuel (nI r) (nI s) (nI w) (nI e) (nI k) S = some (oI ((L.findIdx? fun c => isS s c && hc A v w e c).map (· + k)), S') ∧ Fm [] ev1 S S' := by
  intro L
  induction L with
  | nil =>
    intro k fuel S h hd hkl hf
    obtain ⟨fu, rfl⟩ : ∃ fu, fuel = fu + 1 := ⟨fuel - 1, by simp at hf; omega⟩
    refine ⟨S, ?_, Fm.rf⟩
    have hR := wfR h.1
    have g := (h.2.1.2.1.2 r hr).2.1
    have hl := drop_n hd
    have hl6 := wfCl h.1 hr
    show mm_firstOf_3 _ _ _ _ _ _ _ = _
    unfold mm_firstOf_3
    simp (discharger := omega) only [q0, q1, q2, q3, q4, q5, q6, q7, q8, q9, q10, q11, q14, q20, q32, q33, q38, q40, q41, q48, q57, q59, q60, q61, q62, q98, q99, q100, q101, q104, q107, q115, q117, q124, q1000, q1023, q1024, bd_s, ck_t, lt_t, nI_add, pk_mul, nI_clamp, ne_n, lt_n, le_n, vin_n, decide_true, decide_false, if_true, if_false, g, show r < 10 by omega, hl]
    rfl
  | cons c L ih =>
    intro k fuel S h hd hkl hf
    obtain ⟨fu, rfl⟩ : ∃ fu, fuel = fu + 1 := ⟨fuel - 1, by simp at hf; omega⟩
    have hR := wfR h.1
    obtain ⟨-, g14, gc⟩ := h.2.1.2.1.2 r hr
    obtain ⟨hk, hd2, hlt⟩ := drop_c hd
    have hl6 := wfCl h.1 hr
    obtain ⟨g15, -⟩ := gc k c hk
    have hcl := wfC h.1 hr c (List.mem_of_getElem? hk)
    have hc4 := hcl.1
    show ∃ S', mm_firstOf_3 _ _ _ _ _ _ _ = _ ∧ _
    unfold mm_firstOf_3 mm_firstOf_50
    simp (discharger := omega) only [q0, q1, q2, q3, q4, q5, q6, q7, q8, q9, q10, q11, q14, q20, q32, q33, q38, q40, q41, q48, q57, q59, q60, q61, q62, q98, q99, q100, q101, q104, q107, q115, q117, q124, q1000, q1023, q1024, bd_s, ck_t, lt_t, nI_add, pk_mul, nI_clamp, ne_n, lt_n, le_n, vin_n, decide_true, decide_false, if_true, if_false, g14, g15, show r < 10 by omega, show ¬ ((aC A r).length ≤ k) by omega, show 6 * r + k < 60 by omega]
    rw [List.findIdx?_cons]
    by_cases hsr : c.1 = s
    · obtain ⟨S1, e1, f1⟩ := m_holds h hr hk hw he
      have hiS : isS s c = true := by unfold isS; rw [hsr]; simp
      simp only [if_pos hsr, e1, bd_s, b2_0, hiS, Bool.true_and]
      cases hh : hc A v w e c with
      | true => exact ⟨S1, by simp [oI], f1⟩
      | false =>
        obtain ⟨S2, e2, f2⟩ := ih (k + 1) fu S1 (h.f1 f1) hd2 hlt (by simp at hf; omega)
        refine ⟨S2, ?_, f1.tr f2⟩
        simp only [eq_self, if_true, e2, reduceCtorEq, if_false, Option.map_map]
        congr 3
        apply Option.map_congr
        intro x _
        simp only [Function.comp]
        omega
    · have hiS : isS s c = false := by unfold isS; simp [hsr]
      obtain ⟨S2, e2, f2⟩ := ih (k + 1) fu S h hd2 hlt (by simp at hf; omega)
      refine ⟨S2, ?_, f2⟩
      simp only [if_neg hsr, hiS, Bool.false_and, e2, reduceCtorEq, if_false, Option.map_map]
      congr 3
      apply Option.map_congr
      intro x _
      simp only [Function.comp]
      omega
theorem m_first (h : MV A v S) {r w e s : Nat} (hr : r < aR A) (hw : w < aN A) (he : e < 4) (hs : s < 4) : ∃ S', mm_firstOf S (nI r) (nI s) (nI w) (nI e) = some (oI ((aC A r).findIdx? fun c => isS s c && hc A v w e c), S') ∧ Fm [] ev1 S S' := by
  have hl6 := wfCl h.1 hr
  obtain ⟨S', e1, f⟩ := m_fl hr hw he hs (aC A r) 0 4000 S h rfl (Nat.zero_le _) (by omega)
  refine ⟨S', ?_, f⟩
  unfold mm_firstOf
  rw [lt_t, q0, e1]
  congr 3
  cases (aC A r).findIdx? fun c => isS s c && hc A v w e c <;> rfl
theorem fi_b (h : WF A) {r : Nat} (hr : r < aR A) {p : Nat × Nat × List Nat → Bool} : ∀ k, (aC A r).findIdx? p = some k → k < 2 ^ 31 := by
  intro k q
  have := fi_lt q
  have := wfCl h hr
  omega
theorem m_lkl {r w e : Nat} (hr : r < aR A) (hw : w < aN A) (he : e < 4) : ∀ (L : List (Nat × Nat × List Nat)) (k fuel : Nat) (S : MS), MV A v S → (aC A r).drop k = L → k ≤ (aC A r).length → L.length < fuel →
    ∃ S', mm_lacks_3L fuel (nI r) (nI w) (nI e) (nI k) S = some (nI (L.any fun c => isS 2 c && !v.1.testBit c.2.1 && hc A v w e c).toNat, S') ∧ Fm [] ev1 S S' := by
  intro L
  induction L with
  | nil =>
    intro k fuel S h hd hkl hf
    obtain ⟨fu, rfl⟩ : ∃ fu, fuel = fu + 1 := ⟨fuel - 1, by simp at hf; omega⟩
    refine ⟨S, ?_, Fm.rf⟩
    have hR := wfR h.1
    have g := (h.2.1.2.1.2 r hr).2.1
    have hl := drop_n hd
    have hl6 := wfCl h.1 hr
    show mm_lacks_3 _ _ _ _ _ _ = _
    unfold mm_lacks_3
    simp (discharger := omega) only [q0, q1, q2, q3, q4, q5, q6, q7, q8, q9, q10, q11, q14, q20, q32, q33, q38, q40, q41, q48, q57, q59, q60, q61, q62, q98, q99, q100, q101, q104, q107, q115, q117, q124, q1000, q1023, q1024, bd_s, ck_t, lt_t, nI_add, pk_mul, nI_clamp, ne_n, lt_n, le_n, vin_n, decide_true, decide_false, if_true, if_false, g, show r < 10 by omega, hl]
    rfl
  | cons c L ih =>
    intro k fuel S h hd hkl hf
    obtain ⟨fu, rfl⟩ : ∃ fu, fuel = fu + 1 := ⟨fuel - 1, by simp at hf; omega⟩
    have hR := wfR h.1
    obtain ⟨-, g14, gc⟩ := h.2.1.2.1.2 r hr
    obtain ⟨hk, hd2, hlt⟩ := drop_c hd
    have hl6 := wfCl h.1 hr
    obtain ⟨g15, g16, -⟩ := gc k c hk
    have hcl := wfC h.1 hr c (List.mem_of_getElem? hk)
    have hc4 := hcl.1
    have hc10 := hcl.2.1
    have g24 := h.2.2.1
    have hsh := h.2.2.2.2.1
    have hgo : ∀ S1, Fm [] ev1 S S1 → (isS 2 c && !v.1.testBit c.2.1 && hc A v w e c) = false → ∃ S', mm_lacks_3L fu (nI r) (nI w) (nI e) (nI (k + 1)) S1 = some (nI ((c :: L).any fun c => isS 2 c && !v.1.testBit c.2.1 && hc A v w e c).toNat, S') ∧ Fm [] ev1 S S' := by
      intro S1 f1 q
      obtain ⟨S2, e2, f2⟩ := ih (k + 1) fu S1 (h.f1 f1) hd2 hlt (by simp at hf; omega)
      exact ⟨S2, by rw [e2, List.any_cons, q, Bool.false_or], f1.tr f2⟩
    show ∃ S', mm_lacks_3 _ _ _ _ _ _ = _ ∧ _
    unfold mm_lacks_3 mm_lacks_71
    simp (discharger := omega) only [q0, q1, q2, q3, q4, q5, q6, q7, q8, q9, q10, q11, q14, q20, q32, q33, q38, q40, q41, q48, q57, q59, q60, q61, q62, q98, q99, q100, q101, q104, q107, q115, q117, q124, q1000, q1023, q1024, bd_s, ck_t, lt_t, nI_add, pk_mul, nI_clamp, ne_n, lt_n, le_n, vin_n, decide_true, decide_false, if_true, if_false, g14, g15, show r < 10 by omega, show ¬ ((aC A r).length ≤ k) by omega, show 6 * r + k < 60 by omega]
    by_cases hsr : c.1 = 2
    · have hiS : isS 2 c = true := by unfold isS; rw [hsr]; simp
      simp (discharger := omega) only [if_pos hsr, g16 hsr, g24, m_has S (show v.1 < 2 ^ 31 by omega) (show c.2.1 < 32 by omega), bd_s, ck_t, lt_t, b2_0]
      cases hb : v.1.testBit c.2.1 with
      | true =>
        obtain ⟨S2, e2, f2⟩ := hgo S Fm.rf (by rw [hb]; simp)
        exact ⟨S2, by simp only [reduceCtorEq, if_false, e2], f2⟩
      | false =>
        obtain ⟨S1, e1, f1⟩ := m_holds h hr hk hw he
        simp only [eq_self, if_true, e1, bd_s, b2_0]
        cases hh : hc A v w e c with
        | true => exact ⟨S1, by simp [hiS, hb, hh], f1⟩
        | false =>
          obtain ⟨S2, e2, f2⟩ := hgo S1 f1 (by rw [hh]; simp)
          exact ⟨S2, by simp only [eq_self, if_true, e2], f2⟩
    · obtain ⟨S2, e2, f2⟩ := hgo S Fm.rf (by unfold isS; simp [hsr])
      exact ⟨S2, by simp only [if_neg hsr, e2], f2⟩
theorem m_lacks (h : MV A v S) {r w e : Nat} (hr : r < aR A) (hw : w < aN A) (he : e < 4) : ∃ S', mm_lacks S (nI r) (nI w) (nI e) = some (nI (lcks A v w e r).toNat, S') ∧ Fm [] ev1 S S' := by
  have hl6 := wfCl h.1 hr
  obtain ⟨S', e1, f⟩ := m_lkl hr hw he (aC A r) 0 4000 S h rfl (Nat.zero_le _) (by omega)
  refine ⟨S', ?_, f⟩
  unfold mm_lacks
  rw [lt_t, q0, e1]
  rfl
theorem m_meetsl {r w e : Nat} (hr : r < aR A) (hw : w < aN A) (he : e < 4) : ∀ (L : List (Nat × Nat × List Nat)) (k fuel : Nat) (S : MS), MV A v S → (aC A r).drop k = L → k ≤ (aC A r).length → L.length < fuel →
    ∃ S', mm_meetsIt_3L fuel (nI r) (nI w) (nI e) (nI k) S = some (nI (L.any (hc A v w e)).toNat, S') ∧ Fm [] ev1 S S' := by
  intro L
  induction L with
  | nil =>
    intro k fuel S h hd hkl hf
    obtain ⟨fu, rfl⟩ : ∃ fu, fuel = fu + 1 := ⟨fuel - 1, by simp at hf; omega⟩
    refine ⟨S, ?_, Fm.rf⟩
    have hR := wfR h.1
    have g := (h.2.1.2.1.2 r hr).2.1
    have hl := drop_n hd
    have hl6 := wfCl h.1 hr
    show mm_meetsIt_3 _ _ _ _ _ _ = _
    unfold mm_meetsIt_3
    simp (discharger := omega) only [q0, q1, q2, q3, q4, q5, q6, q7, q8, q9, q10, q11, q14, q20, q32, q33, q38, q40, q41, q48, q57, q59, q60, q61, q62, q98, q99, q100, q101, q104, q107, q115, q117, q124, q1000, q1023, q1024, bd_s, ck_t, lt_t, nI_add, pk_mul, nI_clamp, ne_n, lt_n, le_n, vin_n, decide_true, decide_false, if_true, if_false, g, show r < 10 by omega, hl]
    rfl
  | cons c L ih =>
    intro k fuel S h hd hkl hf
    obtain ⟨fu, rfl⟩ : ∃ fu, fuel = fu + 1 := ⟨fuel - 1, by simp at hf; omega⟩
    have hR := wfR h.1
    obtain ⟨-, g14, gc⟩ := h.2.1.2.1.2 r hr
    obtain ⟨hk, hd2, hlt⟩ := drop_c hd
    have hl6 := wfCl h.1 hr
    show ∃ S', mm_meetsIt_3 _ _ _ _ _ _ = _ ∧ _
    unfold mm_meetsIt_3
    obtain ⟨S1, e1, f1⟩ := m_holds h hr hk hw he
    simp (discharger := omega) only [q0, q1, q2, q3, q4, q5, q6, q7, q8, q9, q10, q11, q14, q20, q32, q33, q38, q40, q41, q48, q57, q59, q60, q61, q62, q98, q99, q100, q101, q104, q107, q115, q117, q124, q1000, q1023, q1024, bd_s, ck_t, lt_t, nI_add, pk_mul, nI_clamp, ne_n, lt_n, le_n, vin_n, decide_true, decide_false, if_true, if_false, g14, e1, b2_0, show r < 10 by omega, show ¬ ((aC A r).length ≤ k) by omega]
    cases hh : hc A v w e c with
    | true => exact ⟨S1, by simp [hh], f1⟩
    | false =>
      obtain ⟨S2, e2, f2⟩ := ih (k + 1) fu S1 (h.f1 f1) hd2 hlt (by simp at hf; omega)
      exact ⟨S2, by simp only [eq_self, if_true, e2, List.any_cons, hh, Bool.false_or], f1.tr f2⟩
theorem m_meetsIt (h : MV A v S) {r w e : Nat} (hr : r < aR A) (hw : w < aN A) (he : e < 4) : ∃ S', mm_meetsIt S (nI r) (nI w) (nI e) = some (nI (mts A v w e r).toNat, S') ∧ Fm [] ev1 S S' := by
  have hl6 := wfCl h.1 hr
  obtain ⟨S', e1, f⟩ := m_meetsl hr hw he (aC A r) 0 4000 S h rfl (Nat.zero_le _) (by omega)
  refine ⟨S', ?_, f⟩
  unfold mm_meetsIt
  rw [lt_t, q0, e1]
  rfl
theorem m_kps (h : MV A v S) {r w e : Nat} (hr : r < aR A) (hw : w < aN A) (he : e < 4) : ∃ S', mm_keepsOut S (nI r) (nI w) (nI e) = some (nI (kps A v w e r).toNat, S') ∧ Fm [] ev1 S S' := by
  have hR := wfR h.1
  have h24 : ∀ S, MV A v S → ∃ S', mm_keepsOut_24 (nI r) (nI w) (nI e) S = some (nI (lcks A v w e r || (!v.2.1.testBit r && anyS A v w e r 3)).toNat, S') ∧ Fm [] ev1 S S' := by
    intro S h
    have g25 := h.2.2.2.1
    have hju := h.2.2.2.2.2.1
    obtain ⟨S1, e1, f1⟩ := m_lacks h hr hw he
    have h1 := h.f1 f1
    have g25' : S1.1 25 = nI v.2.1 := by rw [f1.1 25 (by simp), g25]
    obtain ⟨S2, e2, f2⟩ := m_first h1 hr hw he (s := 3) (by decide)
    unfold mm_keepsOut_24 mm_keepsOut_63
    simp (discharger := omega) only [q0, q1, q2, q3, q4, q5, q6, q7, q8, q9, q10, q11, q14, q20, q32, q33, q38, q40, q41, q48, q57, q59, q60, q61, q62, q98, q99, q100, q101, q104, q107, q115, q117, q124, q1000, q1023, q1024, bd_s, ck_t, lt_t, e1, b2_0, g25', m_has S1 (show v.2.1 < 2 ^ 31 by omega) (show r < 32 by omega), e2, oI_lt (fi_b h.1 hr), fi_any]
    cases lcks A v w e r with
    | true => exact ⟨S1, by simp, f1⟩
    | false =>
      cases v.2.1.testBit r with
      | true => exact ⟨S1, by simp, f1⟩
      | false =>
        refine ⟨S2, ?_, f1.tr f2⟩
        unfold anyS
        cases (aC A r).any fun c => isS 3 c && hc A v w e c <;> simp
  obtain ⟨S1, e1, f1⟩ := m_first h hr hw he (s := 0) (by decide)
  have h1 := h.f1 f1
  obtain ⟨S2, e2, f2⟩ := m_first h1 hr hw he (s := 1) (by decide)
  have h2 := h1.f1 f2
  obtain ⟨S3, e3, f3⟩ := h24 S1 h1
  obtain ⟨S4, e4, f4⟩ := h24 S2 h2
  unfold mm_keepsOut kps
  simp only [q0, q1, q2, q3, q4, q5, q6, q7, q8, q9, q10, q11, q14, q20, q32, q33, q38, q40, q41, q48, q57, q59, q60, q61, q62, q98, q99, q100, q101, q104, q107, q115, q117, q124, q1000, q1023, q1024, bd_s, ck_t, lt_t] at e1 e2 ⊢
  simp only [e1, e2, bd_s, oI_lt (fi_b h.1 hr), oI_ge (fi_b h.1 hr), fi_any, e3, e4]
  have a0 : anyS A v w e r 0 = (aC A r).any fun c => isS 0 c && hc A v w e c := rfl
  have a1 : anyS A v w e r 1 = (aC A r).any fun c => isS 1 c && hc A v w e c := rfl
  rw [← a0, ← a1]
  cases anyS A v w e r 0 with
  | false => exact ⟨S3, by simp, f1.tr f3⟩
  | true =>
    cases anyS A v w e r 1 with
    | false => exact ⟨S2, by simp, f1.tr f2⟩
    | true => exact ⟨S4, by simp, (f1.tr f2).tr f4⟩
theorem m_way (h : MV A v S) {r w e : Nat} (hr : r < aR A) (hw : w < aN A) (he : e < 4) : ∃ S', mm_wayOf S (nI r) (nI w) (nI e) = some (oI (wyo A v w e r), S') ∧ Fm [] ev1 S S' := by
  obtain ⟨S1, e1, f1⟩ := m_first h hr hw he (s := 0) (by decide)
  have h1 := h.f1 f1
  obtain ⟨S2, e2, f2⟩ := m_first h1 hr hw he (s := 1) (by decide)
  unfold mm_wayOf wyo
  simp only [q0, q1, q2, q3, q4, q5, q6, q7, q8, q9, q10, q11, q14, q20, q32, q33, q38, q40, q41, q48, q57, q59, q60, q61, q62, q98, q99, q100, q101, q104, q107, q115, q117, q124, q1000, q1023, q1024, bd_s, ck_t, lt_t] at e1 e2 ⊢
  simp only [e1, e2, bd_s, oI_ge (fi_b h.1 hr), fi_any]
  have a0 : anyS A v w e r 0 = (aC A r).any fun c => isS 0 c && hc A v w e c := rfl
  rw [← a0]
  cases anyS A v w e r 0 with
  | false => exact ⟨S1, by simp [oI, q1], f1⟩
  | true => exact ⟨S2, by simp, f1.tr f2⟩
end PMR
