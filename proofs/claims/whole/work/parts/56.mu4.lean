section PMU4
variable {A A' : AA} {S S' : MS}
theorem bap_WF (h : WF A) {L : List Nat} (hL : L.length < 1000) : WF (bap A L) := ⟨h.1, h.2.1, h.2.2.1, h.2.2.2.1, h.2.2.2.2.1, h.2.2.2.2.2.1, h.2.2.2.2.2.2.1, hL, fun _ => rfl, h.2.2.2.2.2.2.2.2.2⟩
theorem mu_act (h : WF A) (g : MM A S) (a b x : Int32) : ∃ S', mm_act S a b x = some ((sAct A a b x).1, S') ∧ MM (sAct A a b x).2 S' ∧ WF (sAct A a b x).2 := by
  have hN := wfN h
  have g0 : MM (bap A []) (mP S 34 (nI 0)) := by
    obtain ⟨gW, gR, gK, gS, gJ, gT, gt, gB, gb, gP⟩ := g
    exact ⟨gW.fr rfl (mP_n (by decide)) (fun _ _ => rfl), gR.fr rfl (mP_n (by decide)) (fun _ _ => rfl), gK, by rw [mP_n (by decide)]; exact gS, by rw [mP_n (by decide)]; exact gJ, by rw [mP_n (by decide)]; exact gT, gt, mP_s, fun i hi hj => absurd hj (Nat.not_lt_zero i), gP.fr rfl (fun _ _ => rfl) rfl⟩
  have w0 : WF (bap A []) := bap_WF h (by decide)
  have i2 := m_in' (mP S 34 (nI 0)) 2 b (by decide)
  have i1 := m_isW w0 g0 a
  unfold mm_act mm_act_23 sAct
  simp only [q0, q1, q2, q3, q4, q5, q6, q7, q8, q9, q10, q11, q14, q20, q32, q33, q38, q40, q41, q48, q57, q59, q60, q61, q62, q98, q99, q100, q101, q104, q107, q115, q117, q124, q1000, q1023, q1024] at i2 ⊢
  simp only [i1, i2, bd_s, ck_t, lt_t, b2_0]
  cases h1 : ix (aN A) a with
  | none => exact ⟨_, by simp [show ix (aN (bap A [])) a = none from h1, q0], g0, w0⟩
  | some w =>
  cases h2 : ix 3 b with
  | none => exact ⟨_, by simp [show ix (aN (bap A [])) a = some w from h1, h2, q0], g0, w0⟩
  | some q =>
  have h1' : ix (aN (bap A [])) a = some w := h1
  have h2' : ix (2 + 1) b = some q := h2
  obtain ⟨hw, rfl⟩ := ix_s (by omega) h1
  obtain ⟨hq, rfl⟩ := ix_s (by decide) h2
  simp (discharger := omega) only [h1', h2', Option.isSome_some, reduceCtorEq, if_false, ne_n]
  by_cases c0 : q = 0
  · obtain ⟨S1, e1, g1⟩ := m_hrs h (x := x) hw (by decide) g0
    have := hrs_len (A := A) w x
    simp only [c0, if_true, e1, bd_s]
    exact ⟨S1, rfl, g1, bap_WF h (by omega)⟩
  · by_cases c1 : q = 1
    · obtain ⟨S1, e1, g1⟩ := m_kpv h (x := x) hw (by decide) g0
      have := kpv_len (A := A) w x
      simp only [c0, c1, if_true, if_false, e1, bd_s]
      exact ⟨S1, rfl, g1, bap_WF h (by omega)⟩
    · obtain ⟨S1, e1, g1⟩ := m_tlv h (x := x) hw (by decide) g0
      have := tlv_len (A := A) w x
      simp only [c0, c1, if_false, e1, bd_s]
      exact ⟨S1, rfl, g1, bap_WF h (by omega)⟩
-- tapes
def sTape (A : AA) (a b c : Int32) : Int32 × AA := match ix 6 a with
  | none => (-1, A)
  | some t => if b = -1 then (1, uP A (va_up (aTs A) t (-1), va_up (aTl A) t 0, va_up (aTi A) t (fun _ => 0))) else (match ix 5 b with
    | none => (-2, A)
    | some s => if nI 60 < c then (-2, A) else if c < 0 then (-14, A) else (1, uP A (va_up (aTs A) t (nI s), va_up (aTl A) t c.toNatClampNeg, va_up (aTi A) t (fun _ => 0))))
theorem mJ_s {S : MS} {k i j : Nat} {x : Int64} : (mJ S k i x).2.2 k j = if j = i then x else S.2.2 k j := by
  show va_up S.2.2 k (vp_updL (S.2.2 k) i x) k j = _
  rw [va_up_self]
  rfl
theorem uP_MM (g : MM A S) {x : (Nat → Int32) × (Nat → Nat) × (Nat → Nat → Int64)} (hT : MT (uP A x) S') (h1 : S'.1 = S.1) (f2 : ∀ k, k ∉ [36, 37] → S'.2.1 k = S.2.1 k) : MM (uP A x) S' := by
  obtain ⟨gW, gR, gK, gS, gJ, gT, gt, gB, gb, gP⟩ := g
  refine ⟨gW.fr rfl (by rw [h1]) (fun k hk => f2 k ((by decide : ∀ k ∈ [4, 5, 6, 7, 8], k ∉ [36, 37]) k hk)), gR.fr rfl (by rw [h1]) (fun k hk => f2 k ((by decide : ∀ k ∈ [13, 14, 15, 16, 17, 18, 19], k ∉ [36, 37]) k hk)), fun p hp => ?_, by rw [h1]; exact gS, by rw [h1]; exact gJ, by rw [h1]; exact gT, fun i c hc => ?_, by rw [h1]; exact gB, fun i hi hj => ?_, hT⟩
  · rw [f2 3 (by decide)]; exact gK p hp
  · rw [f2 12 (by decide)]; exact gt i c hc
  · rw [f2 35 (by decide)]; exact gb i hi hj
theorem m_tpl {t : Nat} (ht : t < 6) : ∀ (n k fuel : Nat) (S : MS), k + n = 60 → n < fuel → (∀ i, i < k → S.2.2 38 (60 * t + i) = 0) → ∃ S', mm_tape_69L fuel (nI t) (nI k) S = some (1, S') ∧ S'.1 = S.1 ∧ S'.2.1 = S.2.1 ∧ (∀ i, i < 60 → S'.2.2 38 (60 * t + i) = 0) ∧ ∀ j, (j < 60 * t ∨ 60 * t + 60 ≤ j) → S'.2.2 38 j = S.2.2 38 j := by
  intro n
  induction n with
  | zero =>
    intro k fuel S hk hf hz
    obtain ⟨fu, rfl⟩ : ∃ fu, fuel = fu + 1 := ⟨fuel - 1, by omega⟩
    obtain rfl : k = 60 := by omega
    exact ⟨S, rfl, rfl, rfl, hz, fun _ _ => rfl⟩
  | succ n ih =>
    intro k fuel S hk hf hz
    obtain ⟨fu, rfl⟩ : ∃ fu, fuel = fu + 1 := ⟨fuel - 1, by omega⟩
    have hk1 : ¬ 60 ≤ k := by omega
    have h360 : 60 * t + k < 360 := by omega
    obtain ⟨S', e, a1, a2, a3, a4⟩ := ih (k + 1) fu (mJ S 38 (60 * t + k) 0) (by omega) (by omega) (fun i hi => by
      rw [mJ_s]
      split
      · rfl
      · exact hz i (by omega))
    refine ⟨S', ?_, a1, a2, a3, fun j hj => ?_⟩
    · show mm_tape_69 _ _ _ _ = _
      unfold mm_tape_69
      simp (discharger := omega) only [q60, q1, bd_s, ck_t, lt_t, nI_add, pk_mul, nI_clamp, ne_n, lt_n, le_n, vin_n, decide_true, decide_false, if_true, if_false, hk1, h360]
      exact e
    · rw [a4 j hj, mJ_s, if_neg (by omega)]
theorem m_tp65 (h : WF A) (g : MM A S) {t n : Nat} {s : Int32} (ht : t < 6) (hn : n ≤ 60) (hs : s = -1 ∨ ∃ k, k < 5 ∧ s = nI k) (hsn : s = -1 → n = 0) : ∃ S', mm_tape_65 (nI t) (nI t) (nI n) (mR S 36 t s) = some (1, S') ∧ MM (uP A (va_up (aTs A) t s, va_up (aTl A) t n, va_up (aTi A) t (fun _ => 0))) S' ∧ WF (uP A (va_up (aTs A) t s, va_up (aTl A) t n, va_up (aTi A) t (fun _ => 0))) := by
  obtain ⟨S', e, a1, a2, a3, a4⟩ := m_tpl ht 60 0 4000 (mR (mR S 36 t s) 37 t (nI n)) rfl (by decide) (fun i hi => absurd hi (Nat.not_lt_zero i))
  have gP := g.2.2.2.2.2.2.2.2.2
  refine ⟨S', ?_, uP_MM g (fun u hu => ⟨?_, ?_, fun i hi => ?_⟩) a1 (fun k hk => ?_), ⟨h.1, h.2.1, h.2.2.1, h.2.2.2.1, h.2.2.2.2.1, h.2.2.2.2.2.1, h.2.2.2.2.2.2.1, h.2.2.2.2.2.2.2.1, fun _ => rfl, fun u hu => ?_⟩⟩
  · unfold mm_tape_65
    simp (discharger := omega) only [nI_add, pk_mul, nI_clamp, ne_n, lt_n, le_n, vin_n, decide_true, decide_false, if_true, if_false, bd_s, ck_t, lt_t, ht]
    exact e
  · show S'.2.1 36 u = va_up (aTs A) t s u
    rw [a2, mR_n (by decide), mR_s, va_upN]
    by_cases c : u = t
    · rw [if_pos c, if_pos c]
    · rw [if_neg c, if_neg c]
      exact (gP u hu).1
  · show S'.2.1 37 u = nI (va_up (aTl A) t n u)
    rw [a2, mR_s, mR_n (by decide), va_upN]
    by_cases c : u = t
    · rw [if_pos c, if_pos c]
    · rw [if_neg c, if_neg c]
      exact (gP u hu).2.1
  · show S'.2.2 38 (60 * u + i) = va_up (aTi A) t (fun _ => 0) u i
    rw [va_upN]
    by_cases c : u = t
    · rw [if_pos c, c]
      exact a3 i hi
    · rw [if_neg c, a4 _ (by omega)]
      exact (gP u hu).2.2 i hi
  · rw [a2, mR_n (fun e => hk (by rw [e]; decide)), mR_n (fun e => hk (by rw [e]; decide))]
  · show (va_up (aTs A) t s u = -1 ∨ ∃ k, k < 5 ∧ va_up (aTs A) t s u = nI k) ∧ va_up (aTl A) t n u ≤ 60 ∧ (va_up (aTs A) t s u = -1 → va_up (aTl A) t n u = 0)
    rw [va_upN, va_upN]
    by_cases c : u = t
    · rw [if_pos c, if_pos c]
      exact ⟨hs, hn, hsn⟩
    · rw [if_neg c, if_neg c]
      exact h.2.2.2.2.2.2.2.2.2 u hu
theorem mu_tape (h : WF A) (g : MM A S) (a b c : Int32) : ∃ S', mm_tape S a b c = some ((sTape A a b c).1, S') ∧ MM (sTape A a b c).2 S' ∧ WF (sTape A a b c).2 := by
  unfold mm_tape mm_tape_30 mm_tape_33 mm_tape_44 sTape
  simp only [m_isT, bd_s, q0, b2_0]
  cases h1 : ix 6 a with
  | none => exact ⟨S, rfl, g, h⟩
  | some t =>
  obtain ⟨ht, rfl⟩ := ix_s (by decide) h1
  simp only [Option.isSome_some, reduceCtorEq, if_false]
  have hin : mm_in S b (-1) (4 : Int32) = some (nI (decide (b = -1) || (ix 5 b).isSome).toNat, S) := by
    unfold mm_in mm_in_14
    rcases pk_ix b (n := 5) (by decide) with z | z | ⟨j, hj, rfl⟩
    · have e1 : ix 5 b = none := by unfold ix; rw [if_pos (Or.inl z)]
      rw [e1]
      by_cases y : b = -1
      · subst y; rfl
      · have hlt : b < -1 := by
          rw [Int32.lt_iff_toInt_lt] at z ⊢
          have h0 : (0 : Int32).toInt = 0 := rfl
          have h2 : (-1 : Int32).toInt = -1 := rfl
          have hne : b.toInt ≠ -1 := fun e => y (Int32.toInt_inj.mp (by rw [e, h2]))
          omega
        rw [if_pos hlt]
        simp [y, q0]
    · have e1 : ix 5 b = none := by unfold ix; rw [if_pos (Or.inr z)]
      rw [e1]
      have z' : (5 : Int).toNat ≤ b.toInt.toNat := by
        rw [Int32.le_iff_toInt_le] at z
        have h0 : (nI 5).toInt = 5 := rfl
        omega
      have hb : (5 : Int) ≤ b.toInt := by
        rw [Int32.le_iff_toInt_le] at z
        have h0 : (nI 5).toInt = 5 := rfl
        omega
      have hn1 : ¬ b < -1 := by
        rw [Int32.lt_iff_toInt_lt]
        have h2 : (-1 : Int32).toInt = -1 := rfl
        omega
      have hn2 : (4 : Int32) < b := by
        rw [Int32.lt_iff_toInt_lt]
        have h2 : (4 : Int32).toInt = 4 := rfl
        omega
      have y : ¬ b = -1 := fun e => by subst e; revert hb; decide
      rw [if_neg hn1, if_pos hn2]
      simp [y, q0]
    · rw [ix_i hj (by decide)]
      have hd : ∀ j, j < 5 → ¬ (nI j < -1) ∧ ¬ ((4 : Int32) < nI j) := by decide
      rw [if_neg (hd j hj).1, if_neg (hd j hj).2]
      simp [q1]
  rw [hin, bd_s]
  by_cases y : b = -1
  · subst y
    obtain ⟨S', e, m, w⟩ := m_tp65 h g (t := t) (n := 0) (s := -1) ht (by decide) (Or.inl rfl) (fun _ => rfl)
    refine ⟨S', ?_, m, w⟩
    simp (discharger := omega) only [vin_n, nI_clamp, ht, decide_true, ck_t, lt_t]
    exact e
  · rw [if_neg y]
    cases h2 : ix 5 b with
    | none =>
      refine ⟨S, ?_, g, h⟩
      have : (decide (b = -1) || (none : Option Nat).isSome) = false := by simp [y]
      rw [this]
      rfl
    | some s =>
      obtain ⟨hs, rfl⟩ := ix_s (by decide) h2
      have e1 : (decide (nI s = -1) || (some s).isSome) = true := by simp
      have hs0 : ¬ nI s < nI 0 := by rw [lt_n (by omega) (by decide)]; omega
      have hs1 : nI 0 ≤ nI s := nI_pos' (by omega)
      rw [e1]
      simp (discharger := omega) only [Bool.toNat_true, ne_n, show ¬ (1 = 0) by decide, if_false, hs0, hs1, if_true, vin_n, nI_clamp, ht, decide_true, ck_t, lt_t, q60]
      by_cases z1 : c ≤ nI 60
      · have z1' : ¬ nI 60 < c := by rw [Int32.lt_iff_toInt_lt]; rw [Int32.le_iff_toInt_le] at z1; omega
        rw [if_pos z1, if_neg z1']
        by_cases z2 : nI 0 ≤ c
        · have z2' : ¬ c < 0 := by
            rw [Int32.lt_iff_toInt_lt]
            rw [Int32.le_iff_toInt_le] at z2
            have : (nI 0).toInt = (0 : Int32).toInt := rfl
            omega
          obtain ⟨n, hn, rfl⟩ := nI_of2 (n := 60) (M := nI 60) rfl z2' z1
          have hne : ¬ nI s = -1 := y
          obtain ⟨S', e, m, w⟩ := m_tp65 h g (t := t) (n := n) (s := nI s) ht hn (Or.inr ⟨s, hs, rfl⟩) (fun z => absurd z hne)
          rw [nI_clamp (by omega)]
          refine ⟨S', ?_, ?_, ?_⟩
          · simp only [show ¬ nI n < nI 0 from z2', z2, if_true, if_false]
            exact e
          · simp only [show ¬ nI n < nI 0 from z2', if_false]
            exact m
          · simp only [show ¬ nI n < nI 0 from z2', if_false]
            exact w
        · have z2' : c < 0 := by
            rw [Int32.lt_iff_toInt_lt]
            rw [Int32.le_iff_toInt_le] at z2
            have : (nI 0).toInt = (0 : Int32).toInt := rfl
            omega
          refine ⟨S, ?_, ?_, ?_⟩
          · simp only [show c < nI 0 from z2', z2, if_true, if_false]
          · simp only [show c < nI 0 from z2', if_true]
            exact g
          · simp only [show c < nI 0 from z2', if_true]
            exact h
      · have z1' : nI 60 < c := by rw [Int32.lt_iff_toInt_lt]; rw [Int32.le_iff_toInt_le] at z1; omega
        rw [if_neg z1, if_pos z1']
        exact ⟨S, rfl, g, h⟩
-- item, read, shift
def nrw (s : Int32) (v : Int64) : Int64 := if s = 0 then ((v.toInt32).toInt8.toInt32).toInt64 else if s = 1 then ((v.toInt32).toInt16.toInt32).toInt64 else if s = 2 then (v.toInt32).toInt64 else if s = 4 then (if v = 0 then 0 else 1) else v
def sItem (A : AA) (a b : Int32) (v : Int64) : Int32 × AA := match ix 6 a with
  | none => (-1, A)
  | some t => if aTs A t = -1 then (-11, A) else (match ix (aTl A t) b with
    | none => (-13, A)
    | some i => (1, uP A (aTs A, aTl A, va_up (aTi A) t (va_up (aTi A t) i (nrw (aTs A t) v)))))
def sRead (A : AA) (a b : Int32) : Int64 := match ix 6 a with
  | none => -9223372036854775808
  | some t => if aTs A t = -1 then -9223372036854775808 else (match ix (aTl A t) b with
    | none => -9223372036854775808
    | some i => aTi A t i)
theorem cmp_0 {x y : Int64} : (lg_cmp x y = 0) = (x = y) := by
  unfold lg_cmp
  by_cases h : x > y
  · have hne : x ≠ y := fun e => by
      subst e
      exact absurd h (by rw [gt_iff_lt, Int64.lt_iff_toInt_lt]; omega)
    simp [h, hne]
  · by_cases e : x = y
    · simp [e, h]
    · simp [e, h]
theorem m_nrw (S : MS) (s : Int32) (v : Int64) : mm_narrow S s v = some (nrw s v, S) := by
  unfold mm_narrow nrw
  simp only [cmp_0]
  repeat' split
  all_goals first | rfl | contradiction
theorem srt_lt (h : WF A) {t : Nat} (ht : t < 6) : (aTs A t < nI 0) = (aTs A t = -1) := by
  rcases (h.2.2.2.2.2.2.2.2.2 t ht).1 with e | ⟨k, hk, e⟩
  · rw [e]; exact propext ⟨fun _ => rfl, fun _ => by decide⟩
  · rw [e]
    have hd : ∀ k, k < 5 → ¬ nI k < nI 0 ∧ ¬ nI k = -1 := by decide
    exact propext ⟨fun z => absurd z (hd k hk).1, fun z => absurd z (hd k hk).2⟩
theorem srt_ge (h : WF A) {t : Nat} (ht : t < 6) : (nI 0 ≤ aTs A t) = ¬ (aTs A t = -1) := by
  rcases (h.2.2.2.2.2.2.2.2.2 t ht).1 with e | ⟨k, hk, e⟩
  · rw [e]; exact propext ⟨fun z => absurd z (by decide), fun z => absurd rfl z⟩
  · rw [e]
    have hd : ∀ k, k < 5 → nI 0 ≤ nI k ∧ ¬ nI k = -1 := by decide
    exact propext ⟨fun _ => (hd k hk).2, fun _ => (hd k hk).1⟩
theorem mu_item (h : WF A) (g : MM A S) (a b : Int32) (v : Int64) : ∃ S', mm_item S a b v = some ((sItem A a b v).1, S') ∧ MM (sItem A a b v).2 S' ∧ WF (sItem A a b v).2 := by
  unfold mm_item sItem
  simp only [m_isT, bd_s, q0, b2_0]
  cases h1 : ix 6 a with
  | none => exact ⟨S, rfl, g, h⟩
  | some t =>
  obtain ⟨ht, rfl⟩ := ix_s (by decide) h1
  have gP := g.2.2.2.2.2.2.2.2.2
  obtain ⟨g36, g37, g38⟩ := gP t ht
  obtain ⟨hs1, hl, hs2⟩ := h.2.2.2.2.2.2.2.2.2 t ht
  simp (discharger := omega) only [Option.isSome_some, reduceCtorEq, if_false, vin_n, nI_clamp, ht, decide_true, ck_t, g36, g37, srt_ge h ht]
  by_cases c : aTs A t = -1
  · simp only [c, not_true_eq_false, if_false, if_true]
    exact ⟨S, rfl, g, h⟩
  · simp only [c, not_false_eq_true, if_false, if_true]
    have i2 := m_in S (aTl A t) b (by omega)
    simp only [q1, i2, bd_s, b2_0]
    cases h2 : ix (aTl A t) b with
    | none => exact ⟨S, rfl, g, h⟩
    | some i =>
      obtain ⟨hi, rfl⟩ := ix_s (by omega) h2
      have h360 : 60 * t + i < 360 := by omega
      simp (discharger := omega) only [Option.isSome_some, reduceCtorEq, if_false, m_nrw, bd_s, q60, pk_mul, nI_add, vin_n, nI_clamp, h360, decide_true, ck_t, lt_t, g36]
      refine ⟨_, rfl, uP_MM g (fun u hu => ⟨(gP u hu).1, (gP u hu).2.1, fun j hj => ?_⟩) rfl (fun _ _ => rfl), ⟨h.1, h.2.1, h.2.2.1, h.2.2.2.1, h.2.2.2.2.1, h.2.2.2.2.2.1, h.2.2.2.2.2.2.1, h.2.2.2.2.2.2.2.1, fun _ => rfl, h.2.2.2.2.2.2.2.2.2⟩⟩
      show (mJ S 38 (60 * t + i) (nrw (aTs A t) v)).2.2 38 (60 * u + j) = va_up (aTi A) t (va_up (aTi A t) i (nrw (aTs A t) v)) u j
      rw [mJ_s, va_upN]
      by_cases e : u = t
      · rw [if_pos e, va_upN, e]
        by_cases e2 : j = i
        · rw [if_pos (by omega), if_pos e2]
        · rw [if_neg (by omega), if_neg e2]
          exact g38 j hj
      · rw [if_neg e, if_neg (by omega)]
        exact (gP u hu).2.2 j hj
theorem mq_read (h : WF A) (g : MM A S) (a b : Int32) : mm_read S a b = some (sRead A a b, S) := by
  unfold mm_read mm_read_34 sRead
  simp only [m_isT, bd_s, q0, b2_0]
  cases h1 : ix 6 a with
  | none => rfl
  | some t =>
  obtain ⟨ht, rfl⟩ := ix_s (by decide) h1
  obtain ⟨g36, g37, g38⟩ := g.2.2.2.2.2.2.2.2.2 t ht
  obtain ⟨hs1, hl, hs2⟩ := h.2.2.2.2.2.2.2.2.2 t ht
  simp (discharger := omega) only [Option.isSome_some, reduceCtorEq, if_false, vin_n, nI_clamp, ht, decide_true, ck_t, g36, g37, srt_lt h ht]
  by_cases c : aTs A t = -1
  · simp only [c, if_true]
  · simp only [c, if_false]
    have i2 := m_in S (aTl A t) b (by omega)
    simp only [q1, i2, bd_s, b2_0]
    cases h2 : ix (aTl A t) b with
    | none => rfl
    | some i =>
      obtain ⟨hi, rfl⟩ := ix_s (by omega) h2
      have h360 : 60 * t + i < 360 := by omega
      simp (discharger := omega) only [Option.isSome_some, reduceCtorEq, if_false, q60, pk_mul, nI_add, vin_n, nI_clamp, h360, decide_true, ck_t, g38 i (by omega)]
end PMU4
