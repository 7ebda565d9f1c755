section PMU1
variable {A A' : AA} {S S' : MS}
def uW (A : AA) (x : Nat × (Nat → Nat) × (Nat → Nat) × (Nat → Nat) × (Nat → List Nat)) : AA := (x, A.2)
def uR (A : AA) (x : Nat × (Nat → Nat) × (Nat → List (Nat × Nat × List Nat))) : AA := (A.1, x, A.2.2)
def uK (A : AA) (x : (Nat → Nat) × Nat × Nat) : AA := (A.1, A.2.1, x, A.2.2.2)
def uT (A : AA) (x : List Nat) : AA := (A.1, A.2.1, A.2.2.1, x, A.2.2.2.2)
def uB (A : AA) (x : Nat × (Nat → Nat)) : AA := (A.1, A.2.1, A.2.2.1, A.2.2.2.1, x, A.2.2.2.2.2)
def uP (A : AA) (x : (Nat → Int32) × (Nat → Nat) × (Nat → Nat → Int64)) : AA := (A.1, A.2.1, A.2.2.1, A.2.2.2.1, A.2.2.2.2.1, x)
theorem MW.fr (h : MW A S) (e : A'.1 = A.1) (i : S'.1 0 = S.1 0) (r : ∀ k, k ∈ [4, 5, 6, 7, 8] → S'.2.1 k = S.2.1 k) : MW A' S' := by
  unfold MW aN aK aB aF aP at *
  rw [e, i, r 4 (by decide), r 5 (by decide), r 6 (by decide), r 7 (by decide), r 8 (by decide)]
  exact h
theorem MRl.fr (h : MRl A S) (e : A'.2.1 = A.2.1) (i : S'.1 9 = S.1 9) (r : ∀ k, k ∈ [13, 14, 15, 16, 17, 18, 19] → S'.2.1 k = S.2.1 k) : MRl A' S' := by
  unfold MRl MCl aR aL aC at *
  rw [e, i, r 13 (by decide), r 14 (by decide), r 15 (by decide), r 16 (by decide), r 17 (by decide), r 18 (by decide), r 19 (by decide)]
  exact h
theorem MT.fr (h : MT A S) (e : A'.2.2.2.2.2 = A.2.2.2.2.2) (r : ∀ k, k ∈ [36, 37] → S'.2.1 k = S.2.1 k) (q : S'.2.2 38 = S.2.2 38) : MT A' S' := by
  unfold MT aTs aTl aTi at *
  rw [e, q, r 36 (by decide), r 37 (by decide)]
  exact h
-- known
def sKnown (A : AA) (a b : Int32) : Int32 × AA := match ix 8 a, ix 64 b with
  | some p, some k => (nI (aKn A p), uK A (va_up (aKn A) p k, aSh A, aJu A))
  | some _, none => (-2, A)
  | none, _ => (-1, A)
theorem va_upN {α : Type} {f : Nat → α} {k : Nat} {x : α} {j : Nat} : va_up f k x j = if j = k then x else f j := by
  by_cases h : j = k
  · subst h
    rw [if_pos rfl, va_up_self]
  · rw [if_neg h, va_up_ne _ _ h]
theorem mu_known (h : WF A) (g : MM A S) (a b : Int32) : ∃ S', mm_known S a b = some ((sKnown A a b).1, S') ∧ MM (sKnown A a b).2 S' ∧ WF (sKnown A a b).2 := by
  unfold mm_known sKnown
  have i1 := m_in' S 7 a (by decide)
  have i2 := m_in' S 63 b (by decide)
  simp only [q0, q1, q2, q3, q4, q5, q6, q7, q8, q9, q10, q11, q14, q20, q32, q33, q38, q40, q41, q48, q57, q59, q60, q61, q62, q98, q99, q100, q101, q104, q107, q115, q117, q124, q1000, q1023, q1024] at i1 i2 ⊢
  simp only [show (63 : Int32) = nI 63 from rfl, i1, i2, bd_s, ck_t, lt_t, b2_0]
  cases h1 : ix 8 a with
  | none => exact ⟨S, by simp [q1, h1], g, h⟩
  | some p =>
  cases h2 : ix 64 b with
  | none => exact ⟨S, by simp [q2, h1, h2], g, h⟩
  | some k =>
  have h1' : ix (7 + 1) a = some p := h1
  have h2' : ix (63 + 1) b = some k := h2
  obtain ⟨hp, rfl⟩ := ix_s (by decide) h1
  obtain ⟨hk, rfl⟩ := ix_s (by decide) h2
  obtain ⟨gW, gR, gK, gS, gJ, gT, gt, gB, gb, gP⟩ := g
  refine ⟨mR S 3 p (nI k), ?_, ⟨gW.fr rfl rfl (fun k hk => mR_n (fun e => by subst e; revert hk; decide)), gR.fr rfl rfl (fun k hk => mR_n (fun e => by subst e; revert hk; decide)), fun q hq => ?_, gS, gJ, gT, fun i c hc => by rw [mR_n (by decide)]; exact gt i c hc, gB, fun i hi hj => by rw [mR_n (by decide)]; exact gb i hi hj, gP.fr rfl (fun k hk => mR_n (fun e => by subst e; revert hk; decide)) rfl⟩, ⟨h.1, h.2.1, fun q hq => ?_, h.2.2.2⟩⟩
  · simp (discharger := omega) only [h1', h2', Option.isSome_some, reduceCtorEq, if_false, nI_add, pk_mul, nI_clamp, ne_n, lt_n, le_n, vin_n, decide_true, decide_false, if_true, if_false, bd_s, ck_t, lt_t, gK p hp, hp]
  · show _ = nI (va_up (aKn A) p k q)
    rw [mR_s, va_upN]
    by_cases c : q = p
    · simp only [c, if_true]
    · simp only [c, if_false]
      exact gK q hq
  · show va_up (aKn A) p k q < 64
    rw [va_upN]
    split
    · omega
    · exact h.2.2.1 q hq
-- show, judge
def sShow (A : AA) (a : Int32) : Int32 × AA := match ix 1024 a with
  | some k => (nI (aSh A), uK A (aKn A, k, aJu A))
  | none => (-2, A)
theorem mu_show (h : WF A) (g : MM A S) (a : Int32) : ∃ S', mm_show S a = some ((sShow A a).1, S') ∧ MM (sShow A a).2 S' ∧ WF (sShow A a).2 := by
  unfold mm_show sShow
  have i1 := m_in' S 1023 a (by decide)
  simp only [q0, q1, q2, q3, q4, q5, q6, q7, q8, q9, q10, q11, q14, q20, q32, q33, q38, q40, q41, q48, q57, q59, q60, q61, q62, q98, q99, q100, q101, q104, q107, q115, q117, q124, q1000, q1023, q1024] at i1 ⊢
  simp only [i1, bd_s, ck_t, lt_t, b2_0]
  cases h1 : ix 1024 a with
  | none => exact ⟨S, by simp [q2, h1], g, h⟩
  | some k =>
  have h1' : ix (1023 + 1) a = some k := h1
  obtain ⟨hk, rfl⟩ := ix_s (by decide) h1
  obtain ⟨gW, gR, gK, gS, gJ, gT, gt, gB, gb, gP⟩ := g
  refine ⟨mP S 1 (nI k), ?_, ⟨gW.fr rfl (mP_n (by decide)) (fun _ _ => rfl), gR.fr rfl (mP_n (by decide)) (fun _ _ => rfl), gK, mP_s, by rw [mP_n (by decide)]; exact gJ, by rw [mP_n (by decide)]; exact gT, gt, by rw [mP_n (by decide)]; exact gB, gb, gP.fr rfl (fun _ _ => rfl) rfl⟩, ⟨h.1, h.2.1, h.2.2.1, hk, h.2.2.2.2⟩⟩
  simp only [h1', Option.isSome_some, reduceCtorEq, if_false, gS]
def sJudge (A : AA) (a : Int32) : Int32 × AA := match ix (2 ^ aR A) a with
  | some k => (nI (aJu A), uK A (aKn A, aSh A, k))
  | none => (-2, A)
theorem mu_judge (h : WF A) (g : MM A S) (a : Int32) : ∃ S', mm_judge S a = some ((sJudge A a).1, S') ∧ MM (sJudge A a).2 S' ∧ WF (sJudge A a).2 := by
  have hR := wfR h
  have hp : 2 ^ aR A ≤ 2 ^ 10 := Nat.pow_le_pow_right (by decide) hR
  have h32 : aR A < 32 := by omega
  unfold mm_judge sJudge
  have i1 := m_in S (2 ^ aR A) a (by omega)
  simp only [q0, q1, q2, q3, q4, q5, q6, q7, q8, q9, q10, q11, q14, q20, q32, q33, q38, q40, q41, q48, q57, q59, q60, q61, q62, q98, q99, q100, q101, q104, q107, q115, q117, q124, q1000, q1023, q1024] at i1 ⊢
  simp only [g.2.1.1, shl_n h32, i1, bd_s, ck_t, lt_t, b2_0]
  cases h1 : ix (2 ^ aR A) a with
  | none => exact ⟨S, by simp [q2], g, h⟩
  | some k =>
  obtain ⟨hk, rfl⟩ := ix_s (by omega) h1
  obtain ⟨gW, gR, gK, gS, gJ, gT, gt, gB, gb, gP⟩ := g
  refine ⟨mP S 2 (nI k), ?_, ⟨gW.fr rfl (mP_n (by decide)) (fun _ _ => rfl), gR.fr rfl (mP_n (by decide)) (fun _ _ => rfl), gK, by rw [mP_n (by decide)]; exact gS, mP_s, by rw [mP_n (by decide)]; exact gT, gt, by rw [mP_n (by decide)]; exact gB, gb, gP.fr rfl (fun _ _ => rfl) rfl⟩, ⟨h.1, h.2.1, h.2.2.1, h.2.2.2.1, hk, h.2.2.2.2.2⟩⟩
  simp only [Option.isSome_some, reduceCtorEq, if_false, gJ]
-- word
def sWord (A : AA) (a b c : Int32) : Int32 × AA := match ix 7 a, ix 8 b, ix 1024 c with
  | some k, some p, some f => if aN A = 14 then (-4, A) else (nI (aN A), uW A (aN A + 1, va_up (aK A) (aN A) k, va_up (aB A) (aN A) p, va_up (aF A) (aN A) f, aP A))
  | some _, some _, none => (-2, A)
  | _, _, _ => (-1, A)
theorem mu_word (h : WF A) (g : MM A S) (a b c : Int32) : ∃ S', mm_word S a b c = some ((sWord A a b c).1, S') ∧ MM (sWord A a b c).2 S' ∧ WF (sWord A a b c).2 := by
  have hN := wfN h
  unfold mm_word mm_word_22 sWord
  have i1 := m_in' S 6 a (by decide)
  have i2 := m_in' S 7 b (by decide)
  have i3 := m_in' S 1023 c (by decide)
  simp only [q0, q1, q2, q3, q4, q5, q6, q7, q8, q9, q10, q11, q14, q20, q32, q33, q38, q40, q41, q48, q57, q59, q60, q61, q62, q98, q99, q100, q101, q104, q107, q115, q117, q124, q1000, q1023, q1024] at i1 i2 i3 ⊢
  simp only [i1, i2, i3, bd_s, ck_t, lt_t, b2_0]
  cases h1 : ix 7 a with
  | none => exact ⟨S, by simp [q1, h1], g, h⟩
  | some k =>
  cases h2 : ix 8 b with
  | none => exact ⟨S, by simp [q1, h1, h2], g, h⟩
  | some p =>
  cases h3 : ix 1024 c with
  | none => exact ⟨S, by simp [q2, h1, h2, h3], g, h⟩
  | some f =>
  have h1' : ix (6 + 1) a = some k := h1
  have h2' : ix (7 + 1) b = some p := h2
  have h3' : ix (1023 + 1) c = some f := h3
  obtain ⟨hk, rfl⟩ := ix_s (by decide) h1
  obtain ⟨hp, rfl⟩ := ix_s (by decide) h2
  obtain ⟨hf, rfl⟩ := ix_s (by decide) h3
  have g0 := g.1.1
  have e1 : (mm_word_22 S = some (-1, S)) := rfl
  simp (discharger := omega) only [h1', h2', h3', Option.isSome_some, reduceCtorEq, if_false, g0, ne_n]
  by_cases c14 : aN A = 14
  · exact ⟨S, by simp [c14, q4], by simp only [c14, if_true]; exact g, by simp only [c14, if_true]; exact h⟩
  · have hlt : aN A < 14 := by omega
    simp only [c14, if_false]
    obtain ⟨gW, gR, gK, gS, gJ, gT, gt, gB, gb, gP⟩ := g
    refine ⟨mP (mR (mR (mR S 4 (aN A) (nI k)) 5 (aN A) (nI p)) 6 (aN A) (nI f)) 0 (nI (aN A + 1)), ?_, ⟨⟨mP_s, fun w hw => ⟨fun hwn => ?_, ?_, ?_⟩⟩, gR.fr rfl (mP_n (by decide)) (fun k hk => ?_), gK, by rw [mP_n (by decide)]; exact gS, by rw [mP_n (by decide)]; exact gJ, by rw [mP_n (by decide)]; exact gT, gt, by rw [mP_n (by decide)]; exact gB, gb, gP.fr rfl (fun k hk => ?_) rfl⟩, ⟨⟨show aN A + 1 ≤ 14 by omega, fun w => ⟨fun hwn => ?_, fun hwn => ?_⟩⟩, h.2⟩⟩
    · simp (discharger := omega) only [mR_i, g0, vin_n, hlt, decide_true, ck_t, nI_clamp, nI_add, mP_s, pk_sub (show 1 ≤ aN A + 1 by omega), Nat.add_sub_cancel]
    · show (mR (mR (mR S 4 (aN A) (nI k)) 5 (aN A) (nI p)) 6 (aN A) (nI f)).2.1 4 w = nI (va_up (aK A) (aN A) k w) ∧ (mR (mR (mR S 4 (aN A) (nI k)) 5 (aN A) (nI p)) 6 (aN A) (nI f)).2.1 5 w = nI (va_up (aB A) (aN A) p w) ∧ (mR (mR (mR S 4 (aN A) (nI k)) 5 (aN A) (nI p)) 6 (aN A) (nI f)).2.1 6 w = nI (va_up (aF A) (aN A) f w)
      have hwn' : w < aN A + 1 := hwn
      rw [mR_n (by decide), mR_n (by decide), mR_s, mR_n (by decide), mR_s, mR_s, mR_n (by decide), mR_n (by decide), mR_n (by decide), va_upN, va_upN, va_upN]
      by_cases q : w = aN A
      · simp only [q, if_true]
        exact ⟨trivial, trivial, trivial⟩
      · simp only [q, if_false]
        exact (gW.2 w hw).1 (by omega)
    · exact (gW.2 w hw).2.1
    · exact (gW.2 w hw).2.2
    · show (mR (mR (mR S 4 (aN A) (nI _)) 5 (aN A) (nI p)) 6 (aN A) (nI f)).2.1 k = _
      rw [mR_n (fun e => by subst e; revert hk; decide), mR_n (fun e => by subst e; revert hk; decide), mR_n (fun e => by subst e; revert hk; decide)]
    · show (mR (mR (mR S 4 (aN A) (nI _)) 5 (aN A) (nI p)) 6 (aN A) (nI f)).2.1 k = _
      rw [mR_n (fun e => by subst e; revert hk; decide), mR_n (fun e => by subst e; revert hk; decide), mR_n (fun e => by subst e; revert hk; decide)]
    · show va_up (aK A) (aN A) k w < 7 ∧ va_up (aB A) (aN A) p w < 8 ∧ va_up (aF A) (aN A) f w < 1024 ∧ (aP A w).length ≤ room (va_up (aK A) (aN A) k w) ∧ (aP A w).Nodup ∧ ∀ p ∈ aP A w, p < w
      have hwn' : w < aN A + 1 := hwn
      rw [va_upN, va_upN, va_upN]
      by_cases q : w = aN A
      · have e := (h.1.2 w).2 (by omega)
        simp only [q, if_true]
        rw [← q, e]
        exact ⟨hk, hp, hf, Nat.zero_le _, List.nodup_nil, fun x hx => nomatch hx⟩
      · simp only [q, if_false]
        exact (h.1.2 w).1 (by omega)
    · exact (h.1.2 w).2 (by have : aN A + 1 ≤ w := hwn; omega)
end PMU1
