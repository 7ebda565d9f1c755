section PMU2
variable {A A' : AA} {S S' : MS}
-- hold
def sHold (A : AA) (a b : Int32) : Int32 × AA := match ix (aN A) a, ix (aN A) b with
  | some w, some p => if w ≤ p then (-2, A) else if room (aK A w) = 0 then (-12, A) else if p ∈ aP A w then (-3, A) else if (aP A w).length = room (aK A w) then (-4, A) else (nI ((aP A w).length + 1), uW A (aN A, aK A, aB A, aF A, va_up (aP A) w (aP A w ++ [p])))
  | _, _ => (-1, A)
theorem m_room (h : WF A) (g : MM A S) {w : Nat} (hw : w < aN A) : mm_roomOf S (nI w) = some (nI (room (aK A w)), S) := by
  have hN := wfN h
  have hK := wfK h hw
  obtain ⟨g4, -⟩ := (g.1.2 w (by omega)).1 hw
  have hw14 : w < 14 := by omega
  unfold mm_roomOf mm_roomOf_35 room
  simp (discharger := omega) only [q0, q1, q2, q3, q4, q5, q6, q7, q8, q9, q10, q11, q14, q20, q32, q33, q38, q40, q41, q48, q57, q59, q60, q61, q62, q98, q99, q100, q101, q104, q107, q115, q117, q124, q1000, q1023, q1024, bd_s, ck_t, lt_t, nI_add, pk_mul, nI_clamp, ne_n, lt_n, le_n, vin_n, decide_true, decide_false, if_true, if_false, g4, hw14]
  repeat' split
  all_goals first | rfl | omega
theorem uW_MM (g : MM A S) {x : Nat × (Nat → Nat) × (Nat → Nat) × (Nat → Nat) × (Nat → List Nat)} (hW : MW (uW A x) S') (f : Fm [] [7, 8] S S') : MM (uW A x) S' := by
  obtain ⟨gW, gR, gK, gS, gJ, gT, gt, gB, gb, gP⟩ := g
  obtain ⟨f1, f2, f3⟩ := f
  have fi : ∀ k, S'.1 k = S.1 k := fun k => f1 k (by simp)
  refine ⟨hW, gR.fr rfl (fi 9) (fun k hk => f2 k (fun z => ?_)), fun p hp => ?_, by rw [fi]; exact gS, by rw [fi]; exact gJ, by rw [fi]; exact gT, fun i c hc => ?_, by rw [fi]; exact gB, fun i hi hj => ?_, gP.fr rfl (fun k hk => f2 k (fun z => ?_)) (by rw [f3])⟩
  · exact (by decide : ∀ k ∈ [13, 14, 15, 16, 17, 18, 19], k ∉ [7, 8]) k hk z
  · rw [f2 3 (by decide)]
    exact gK p hp
  · rw [f2 12 (by decide)]
    exact gt i c hc
  · rw [f2 35 (by decide)]
    exact gb i hi hj
  · exact (by decide : ∀ k ∈ [36, 37], k ∉ [7, 8]) k hk z
theorem m_holdl (h : WF A) {w p : Nat} (hw : w < aN A) (hp : p < w) (hr : 0 < room (aK A w)) : ∀ (L : List Nat) (k fuel : Nat) (S : MS), MM A S → (aP A w).drop k = L → k ≤ (aP A w).length → L.length < fuel → p ∉ (aP A w).take k →
    ∃ S', mm_hold_39L fuel (nI w) (nI p) (nI k) S = some ((if p ∈ aP A w then (-3, A) else if (aP A w).length = room (aK A w) then (-4, A) else (nI ((aP A w).length + 1), uW A (aN A, aK A, aB A, aF A, va_up (aP A) w (aP A w ++ [p])))).1, S') ∧ MM (if p ∈ aP A w then (-3, A) else if (aP A w).length = room (aK A w) then (-4, A) else (nI ((aP A w).length + 1), uW A (aN A, aK A, aB A, aF A, va_up (aP A) w (aP A w ++ [p])))).2 S' := by
  intro L
  induction L with
  | nil =>
    intro k fuel S g hd hk hf hno
    obtain ⟨fu, rfl⟩ : ∃ fu, fuel = fu + 1 := ⟨fuel - 1, by simp at hf; omega⟩
    have hN := wfN h
    have hl := drop_n hd
    have hkl : k = (aP A w).length := by omega
    subst hkl
    rw [List.take_length] at hno
    have h4 := wfPl h w
    obtain ⟨-, g7, g8⟩ := g.1.2 w (by omega)
    have hw14 : w < 14 := by omega
    have hrm := wfRm h hw
    have hr4 : room (aK A w) ≤ 4 := by unfold room; (repeat' split) <;> omega
    have ero := m_room h g hw
    simp only [if_neg hno]
    show ∃ S', mm_hold_39 _ _ _ _ _ = _ ∧ _
    unfold mm_hold_39
    simp (discharger := omega) only [q0, q1, q2, q3, q4, q5, q6, q7, q8, q9, q10, q11, q14, q20, q32, q33, q38, q40, q41, q48, q57, q59, q60, q61, q62, q98, q99, q100, q101, q104, q107, q115, q117, q124, q1000, q1023, q1024, bd_s, ck_t, lt_t, nI_add, pk_mul, nI_clamp, ne_n, lt_n, le_n, vin_n, decide_true, decide_false, if_true, if_false, g7, hw14, Nat.le_refl, ero]
    by_cases q : (aP A w).length = room (aK A w)
    · simp only [if_pos q]
      exact ⟨S, rfl, g⟩
    · simp only [if_neg q]
      have h56 : 4 * w + (aP A w).length < 56 := by omega
      refine ⟨mR (mR S 8 (4 * w + (aP A w).length) (nI p)) 7 w (nI ((aP A w).length + 1)), ?_, uW_MM g ⟨g.1.1, fun x hx => ⟨fun hxn => ?_, ?_, fun j hj => ?_⟩⟩ ((Fm.mR (by decide)).tr (Fm.mR (by decide)))⟩
      · rw [mR_n (l := 7) (k := 8) (by decide), g7, mR_s, if_pos rfl]
        simp (discharger := omega) only [nI_add, pk_mul, nI_clamp, ne_n, lt_n, le_n, vin_n, decide_true, decide_false, if_true, if_false, ck_t, lt_t, h56, hw14]
      · rw [mR_n (by decide), mR_n (by decide), mR_n (by decide), mR_n (by decide), mR_n (by decide), mR_n (by decide)]
        exact (g.1.2 x hx).1 hxn
      · show _ = nI (va_up (aP A) w (aP A w ++ [p]) x).length
        rw [mR_s, mR_n (by decide), va_upN]
        by_cases c : x = w
        · rw [if_pos c, if_pos c, List.length_append]
          rfl
        · rw [if_neg c, if_neg c]
          exact (g.1.2 x hx).2.1
      · have hj' : j < (va_up (aP A) w (aP A w ++ [p]) x).length := hj
        show _ = nI ((va_up (aP A) w (aP A w ++ [p]) x).getD j 0)
        rw [mR_n (by decide), mR_s]
        rw [va_upN] at hj' ⊢
        by_cases c : x = w
        · rw [if_pos c] at hj' ⊢
          rw [c]
          by_cases e : j = (aP A w).length
          · rw [if_pos (by omega), e, List.getD_eq_getElem?_getD, List.getElem?_append_right (Nat.le_refl _), Nat.sub_self]
            rfl
          · have hjl : j < (aP A w).length := by
              rw [List.length_append] at hj'
              simp at hj'
              omega
            rw [if_neg (by omega), List.getD_eq_getElem?_getD, List.getElem?_append_left hjl, ← List.getD_eq_getElem?_getD]
            exact g8 j hjl
        · rw [if_neg c] at hj' ⊢
          have h4x := wfPl h x
          rw [if_neg (by omega)]
          exact (g.1.2 x hx).2.2 j hj'
  | cons y L ih =>
    intro k fuel S g hd hk hf hno
    obtain ⟨fu, rfl⟩ : ∃ fu, fuel = fu + 1 := ⟨fuel - 1, by simp at hf; omega⟩
    have hN := wfN h
    have h4 := wfPl h w
    obtain ⟨-, g7, g8⟩ := g.1.2 w (by omega)
    obtain ⟨hkp, hd2, hlt⟩ := drop_c hd
    have g8' := g8 k hlt
    rw [getD_s hkp] at g8'
    have hym := List.mem_of_getElem? hkp
    have hyw := wfP h hw y hym
    have hw14 : w < 14 := by omega
    have h56 : 4 * w + k < 56 := by omega
    have hkl : ¬ (aP A w).length ≤ k := by omega
    show ∃ S', mm_hold_39 _ _ _ _ _ = _ ∧ _
    unfold mm_hold_39
    simp (discharger := omega) only [q0, q1, q2, q3, q4, q5, q6, q7, q8, q9, q10, q11, q14, q20, q32, q33, q38, q40, q41, q48, q57, q59, q60, q61, q62, q98, q99, q100, q101, q104, q107, q115, q117, q124, q1000, q1023, q1024, bd_s, ck_t, lt_t, nI_add, pk_mul, nI_clamp, ne_n, lt_n, le_n, vin_n, decide_true, decide_false, if_true, if_false, g7, hw14, hkl, h56, g8']
    by_cases c : y = p
    · have hm : p ∈ aP A w := c ▸ hym
      refine ⟨S, ?_, ?_⟩
      · rw [if_pos c, if_pos hm]
        all_goals rfl
      · rw [if_pos hm]
        exact g
    · rw [if_neg c]
      refine ih (k + 1) fu S g hd2 hlt (by simp at hf; omega) (fun z => ?_)
      rw [List.take_succ, hkp] at z
      rcases List.mem_append.mp z with z | z
      · exact hno z
      · have : p = y := by simpa using z
        exact c this.symm
theorem mu_hold (h : WF A) (g : MM A S) (a b : Int32) : ∃ S', mm_hold S a b = some ((sHold A a b).1, S') ∧ MM (sHold A a b).2 S' ∧ WF (sHold A a b).2 := by
  have hN := wfN h
  unfold mm_hold mm_hold_16 sHold
  simp only [q0, q1, q2, q3, q4, q5, q6, q7, q8, q9, q10, q11, q14, q20, q32, q33, q38, q40, q41, q48, q57, q59, q60, q61, q62, q98, q99, q100, q101, q104, q107, q115, q117, q124, q1000, q1023, q1024, m_isW h g, bd_s, ck_t, lt_t, b2_0]
  cases h1 : ix (aN A) a with
  | none => exact ⟨S, by simp [q1], g, h⟩
  | some w =>
  cases h2 : ix (aN A) b with
  | none => exact ⟨S, by simp [q1], g, h⟩
  | some p =>
  obtain ⟨hw, rfl⟩ := ix_s (by omega) h1
  obtain ⟨hp, rfl⟩ := ix_s (by omega) h2
  have hrb : room (aK A w) ≤ 4 := by unfold room; (repeat' split) <;> omega
  simp (discharger := omega) only [Option.isSome_some, reduceCtorEq, if_false, lt_n]
  by_cases c : w ≤ p
  · have c' : ¬ p < w := by omega
    simp only [c, c', if_true, if_false]
    exact ⟨S, rfl, g, h⟩
  · have c' : p < w := by omega
    simp (discharger := omega) only [c, c', if_true, if_false, m_room h g hw, bd_s, ne_n]
    by_cases c0 : room (aK A w) = 0
    · simp only [c0, if_true]
      exact ⟨S, rfl, g, h⟩
    · simp only [c0, if_false]
      have h4 := wfPl h w
      obtain ⟨S', e, m⟩ := m_holdl h hw c' (by omega) (aP A w) 0 4000 S g rfl (Nat.zero_le _) (by omega) (by simp)
      refine ⟨S', e, m, ?_⟩
      by_cases i1 : p ∈ aP A w
      · rw [if_pos i1]
        exact h
      · rw [if_neg i1]
        by_cases i2 : (aP A w).length = room (aK A w)
        · rw [if_pos i2]
          exact h
        · rw [if_neg i2]
          refine ⟨⟨h.1.1, fun x => ⟨fun hx => ?_, fun hx => ?_⟩⟩, h.2⟩
          · have h0 := (h.1.2 x).1 hx
            show aK A x < 7 ∧ aB A x < 8 ∧ aF A x < 1024 ∧ (va_up (aP A) w (aP A w ++ [p]) x).length ≤ room (aK A x) ∧ (va_up (aP A) w (aP A w ++ [p]) x).Nodup ∧ ∀ y ∈ va_up (aP A) w (aP A w ++ [p]) x, y < x
            rw [va_upN]
            by_cases e : x = w
            · rw [if_pos e]
              subst e
              refine ⟨h0.1, h0.2.1, h0.2.2.1, ?_, ?_, fun y hy => ?_⟩
              · have := h0.2.2.2.1
                rw [List.length_append]
                simp
                omega
              · rw [List.nodup_append]
                exact ⟨h0.2.2.2.2.1, by simp, fun u hu z hz => by
                  have : z = p := by simpa using hz
                  rw [this]
                  exact fun e => i1 (e ▸ hu)⟩
              · rcases List.mem_append.mp hy with z | z
                · exact h0.2.2.2.2.2 y z
                · have : y = p := by simpa using z
                  omega
            · rw [if_neg e]
              exact h0
          · show va_up (aP A) w (aP A w ++ [p]) x = []
            have hx' : aN A ≤ x := hx
            rw [va_upN, if_neg (by omega)]
            exact (h.1.2 x).2 hx
-- of, taken, trace, count
def sOf (A : AA) (a b : Int32) : Int32 := match ix (aN A) a, ix 8 b with
  | some w, some q => if q = 0 then nI (aK A w) else if q = 1 then nI (aB A w) else if q = 2 then nI (aF A w) else if q = 3 then nI (aP A w).length else (match (aP A w)[q - 4]? with | some p => nI p | none => -5)
  | _, _ => -1
theorem mq_of (h : WF A) (g : MM A S) (a b : Int32) : mm_of S a b = some (sOf A a b, S) := by
  have hN := wfN h
  unfold mm_of mm_of_19 sOf
  have i2 := m_in' S 7 b (by decide)
  simp only [q0, q1, q2, q3, q4, q5, q6, q7, q8, q9, q10, q11, q14, q20, q32, q33, q38, q40, q41, q48, q57, q59, q60, q61, q62, q98, q99, q100, q101, q104, q107, q115, q117, q124, q1000, q1023, q1024] at i2 ⊢
  simp only [m_isW h g, i2, bd_s, ck_t, lt_t, b2_0]
  cases h1 : ix (aN A) a with
  | none => simp [q1]
  | some w =>
  cases h2 : ix 8 b with
  | none => simp [q1, h2]
  | some q =>
  have h2' : ix (7 + 1) b = some q := h2
  obtain ⟨hw, rfl⟩ := ix_s (by omega) h1
  obtain ⟨hq, rfl⟩ := ix_s (by decide) h2
  have hw14 : w < 14 := by omega
  obtain ⟨g4, g7, g8⟩ := g.1.2 w hw14
  obtain ⟨g4, g5, g6⟩ := g4 hw
  have h4 := wfPl h w
  simp (discharger := omega) only [h2', Option.isSome_some, reduceCtorEq, if_false, ne_n, vin_n, hw14, decide_true, ck_t, nI_clamp, g4, g5, g6, g7]
  by_cases c0 : q = 0
  · simp [c0]
  · by_cases c1 : q = 1
    · simp [c1]
    · by_cases c2 : q = 2
      · simp [c2]
      · by_cases c3 : q = 3
        · simp [c3]
        · simp (discharger := omega) only [c0, c1, c2, c3, if_false, pk_sub (show 4 ≤ q by omega), le_n]
          have e1 : nI 4 * nI w + nI q - nI 4 = nI (4 * w + (q - 4)) := by
            rw [pk_mul, nI_add, pk_sub (by omega)]
            congr 1
            omega
          rw [e1]
          by_cases c : (aP A w).length ≤ q - 4
          · rw [if_pos c, List.getElem?_eq_none c]
            all_goals rfl
          · have hlt : q - 4 < (aP A w).length := by omega
            rw [if_neg c, List.getElem?_eq_getElem hlt]
            have e2 := g8 (q - 4) hlt
            rw [getD_s (List.getElem?_eq_getElem hlt)] at e2
            have h56 : 4 * w + (q - 4) < 56 := by omega
            simp (discharger := omega) only [vin_n, h56, decide_true, ck_t, nI_clamp, e2]
def sTaken (A : AA) (a b : Int32) : Int32 := match ix 7 b, ix (aN A) a with
  | some k, some w => if undr (aK A w) k = true then nI (aK A w) else -12
  | some _, none => -11
  | none, _ => -2
theorem mq_taken (h : WF A) (g : MM A S) (a b : Int32) : mm_taken S a b = some (sTaken A a b, S) := by
  have hN := wfN h
  unfold mm_taken sTaken
  have i2 := m_in' S 6 b (by decide)
  simp only [q0, q1, q2, q3, q4, q5, q6, q7, q8, q9, q10, q11, q14, q20, q32, q33, q38, q40, q41, q48, q57, q59, q60, q61, q62, q98, q99, q100, q101, q104, q107, q115, q117, q124, q1000, q1023, q1024] at i2 ⊢
  simp only [m_isW h g, i2, bd_s, ck_t, lt_t, b2_0]
  cases h2 : ix 7 b with
  | none => simp [q2, h2]
  | some k =>
  cases h1 : ix (aN A) a with
  | none =>
    simp only [show ix (6 + 1) b = some k from h2, Option.isSome_some, Option.isSome_none, reduceCtorEq, if_false, if_true]
    all_goals rfl
  | some w =>
  have h2' : ix (6 + 1) b = some k := h2
  obtain ⟨hw, rfl⟩ := ix_s (by omega) h1
  obtain ⟨hq, rfl⟩ := ix_s (by decide) h2
  have hw14 : w < 14 := by omega
  have hK := wfK h hw
  obtain ⟨g4, -⟩ := (g.1.2 w hw14).1 hw
  simp (discharger := omega) only [h2', Option.isSome_some, reduceCtorEq, if_false, vin_n, hw14, decide_true, ck_t, nI_clamp, g4, m_und S hK (show k < 10 by omega), bd_s, b2_0]
  cases undr (aK A w) k <;> simp
def sTrace (A : AA) (a : Int32) : Int32 := match ix 20 a with
  | some i => if i < aRn A then nI (aBd A i) else -1
  | none => -1
theorem mq_trace (h : WF A) (g : MM A S) (a : Int32) : mm_trace S a = some (sTrace A a, S) := by
  have hrn := h.2.2.2.2.2.2.2.1
  obtain ⟨gW, gR, gK, gS, gJ, gT, gt, gB, gb, gP⟩ := g
  unfold mm_trace mm_trace_28 sTrace
  have i2 := m_in' S 19 a (by decide)
  simp only [q0, q1, q2, q3, q4, q5, q6, q7, q8, q9, q10, q11, q14, q20, q32, q33, q38, q40, q41, q48, q57, q59, q60, q61, q62, q98, q99, q100, q101, q104, q107, q115, q117, q124, q1000, q1023, q1024] at i2 ⊢
  simp only [show (19 : Int32) = nI 19 from rfl, i2, bd_s, ck_t, lt_t, b2_0]
  cases h2 : ix 20 a with
  | none => simp [q1, h2]
  | some i =>
  have h2' : ix (19 + 1) a = some i := h2
  obtain ⟨hi, rfl⟩ := ix_s (by decide) h2
  simp (discharger := omega) only [h2', Option.isSome_some, reduceCtorEq, if_false, gB, le_n, vin_n, hi, decide_true, ck_t, nI_clamp]
  by_cases c : i < aRn A
  · rw [if_neg (by omega), if_pos c, gb i hi c]
  · rw [if_pos (by omega), if_neg c]
    all_goals rfl
def sCount (A : AA) (a : Int32) : Int32 := match ix 5 a with
  | some q => if q = 0 then nI (aN A) else if q = 1 then nI (aR A) else if q = 2 then nI (aTx A).length else if q = 3 then nI (cn (fun r => aL A r == 0) (aR A)) else nI (aRn A)
  | none => -2
theorem m_cntl (h : WF A) (g : MM A S) : ∀ (n k fuel : Nat), k + n = aR A → n < fuel → mm_count_55L fuel (nI (cn (fun r => aL A r == 0) k)) (nI k) S = some (nI (cn (fun r => aL A r == 0) (aR A)), S) := by
  intro n
  induction n with
  | zero =>
    intro k fuel hk hf
    obtain ⟨fu, rfl⟩ : ∃ fu, fuel = fu + 1 := ⟨fuel - 1, by omega⟩
    have hR := wfR h
    obtain rfl : k = aR A := by omega
    have g9 := g.2.1.1
    show mm_count_55 _ _ _ _ = _
    unfold mm_count_55
    simp (discharger := omega) only [nI_add, pk_mul, nI_clamp, ne_n, lt_n, le_n, vin_n, decide_true, decide_false, if_true, if_false, g9, Nat.le_refl]
  | succ n ih =>
    intro k fuel hk hf
    obtain ⟨fu, rfl⟩ : ∃ fu, fuel = fu + 1 := ⟨fuel - 1, by omega⟩
    have hR := wfR h
    have g9 := g.2.1.1
    have hk1 : ¬ aR A ≤ k := by omega
    have hk10 : k < 10 := by omega
    have hkr : k < aR A := by omega
    have g13 := (g.2.1.2 k hkr).1
    have hL := wfL h hkr
    have i1 := ih (k + 1) fu (by omega) (by omega)
    have hcn : cn (fun r => aL A r == 0) (k + 1) = cn (fun r => aL A r == 0) k + (aL A k == 0).toNat := rfl
    rw [hcn] at i1
    show mm_count_55 _ _ _ _ = _
    unfold mm_count_55 mm_count_78
    simp (discharger := omega) only [q0, q1, q2, q3, q4, q5, q6, q7, q8, q9, q10, q11, q14, q20, q32, q33, q38, q40, q41, q48, q57, q59, q60, q61, q62, q98, q99, q100, q101, q104, q107, q115, q117, q124, q1000, q1023, q1024, bd_s, ck_t, lt_t, nI_add, pk_mul, nI_clamp, ne_n, lt_n, le_n, vin_n, decide_true, decide_false, if_true, if_false, g9, hk1, hk10, g13]
    by_cases c : aL A k = 0
    · rw [if_pos c]
      rw [show (aL A k == 0) = true by simp [c]] at i1
      exact i1
    · rw [if_neg c]
      rw [show (aL A k == 0) = false by simp [c]] at i1
      exact i1
theorem mq_count (h : WF A) (g : MM A S) (a : Int32) : mm_count S a = some (sCount A a, S) := by
  have hR := wfR h
  have e3 := m_cntl h g (aR A) 0 4000 (by omega) (by omega)
  obtain ⟨gW, gR, gK, gS, gJ, gT, gt, gB, gb, gP⟩ := g
  unfold mm_count sCount
  rw [gW.1, gR.1, gT, gB]
  have hc : ∀ n, n < 5 → ¬ a = nI n → True := fun _ _ _ => trivial
  cases h2 : ix 5 a with
  | none =>
    have hn : ∀ n, n < 5 → ¬ a = nI n := fun n hn e => by
      subst e
      rw [ix_i hn (by decide)] at h2
      cases h2
    simp only [q0, q1, q2, q3, q4, q5, q6, q7, q8, q9, q10, q11, q14, q20, q32, q33, q38, q40, q41, q48, q57, q59, q60, q61, q62, q98, q99, q100, q101, q104, q107, q115, q117, q124, q1000, q1023, q1024, hn 0 (by decide), hn 1 (by decide), hn 2 (by decide), hn 3 (by decide), hn 4 (by decide), if_false]
  | some q =>
    obtain ⟨hq, rfl⟩ := ix_s (by decide) h2
    simp (discharger := omega) only [q0, q1, q2, q3, q4, q5, q6, q7, q8, q9, q10, q11, q14, q20, q32, q33, q38, q40, q41, q48, q57, q59, q60, q61, q62, q98, q99, q100, q101, q104, q107, q115, q117, q124, q1000, q1023, q1024, ne_n, lt_t, nI_add]
    have hqq : q = 0 ∨ q = 1 ∨ q = 2 ∨ q = 3 ∨ q = 4 := by omega
    rcases hqq with rfl | rfl | rfl | rfl | rfl
    · rfl
    · rfl
    · rfl
    · exact e3
    · rfl
end PMU2
