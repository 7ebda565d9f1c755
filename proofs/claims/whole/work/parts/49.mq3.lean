section PMQ3
variable {A : AA} {v : VV} {S : MS}
-- cut
def cts (A : AA) (v : VV) (l w e : Nat) : Nat := if e = 1 then 0 else msk (fun k => !hrd A v l ((aP A w).getD k 0)) (aP A w).length
def lef (A : AA) (c : Nat) : List Nat → Nat → Nat → Nat
  | [], _, x => x
  | p :: L, k, x => lef A c L (k + 1) (if c.testBit k = true then sd x (aF A p) else x)
def sCut (A : AA) (a b c d : Int32) : Int32 := match ix (aN A) a, ix 4 b, ix 2 c, ix 2 d with
  | some w, some e, some l, some q => if (kpr A (v0 A) w e l).isSome = true then -5 else if q = 0 then nI (cts A (v0 A) l w e) else nI (lef A (cts A (v0 A) l w e) (aP A w) 0 (aF A w))
  | _, _, _, _ => -1
theorem apc_iff {c : Nat} {f : Nat → Bool} : ∀ {L : List Nat} {k : Nat}, apc c f L k = true ↔ ∀ i, i < L.length → c.testBit (k + i) = true ∨ f (L.getD i 0) = true
  | [], k => ⟨fun _ i h => absurd h (Nat.not_lt_zero i), fun _ => rfl⟩
  | p :: L, k => by
    have ih := apc_iff (c := c) (f := f) (L := L) (k := k + 1)
    show (((c.testBit k || f p) && apc c f L (k + 1)) = true) ↔ _
    rw [Bool.and_eq_true, Bool.or_eq_true, ih]
    constructor
    · intro h i hi
      cases i with
      | zero => exact h.1
      | succ i =>
        have := h.2 i (by simp at hi; omega)
        rw [show k + 1 + i = k + (i + 1) by omega] at this
        exact this
    · intro h
      refine ⟨h 0 (by simp), fun i hi => ?_⟩
      have := h (i + 1) (by simp; omega)
      rw [show k + (i + 1) = k + 1 + i by omega] at this
      exact this
theorem sub_le {a b : Nat} (h : ∀ i, a.testBit i = true → b.testBit i = true) : a ≤ b := by
  have e : a &&& b = a := by
    apply Nat.eq_of_testBit_eq
    intro i
    rw [Nat.testBit_and]
    cases c : a.testBit i with
    | false => rfl
    | true => rw [h i c]; rfl
  rw [← e]
  exact Nat.and_le_right
def cok (A : AA) (v : VV) (l w e c : Nat) : Bool := e == 1 || apc c (hrd A v l) (aP A w) 0
theorem cok_sub {w e l c : Nat} (h : cok A v l w e c = true) : ∀ i, (cts A v l w e).testBit i = true → c.testBit i = true := by
  intro i hi
  unfold cts at hi
  split at hi
  · rw [Nat.zero_testBit] at hi
    cases hi
  · rename_i q
    rw [msk_t, Bool.and_eq_true] at hi
    unfold cok at h
    have q' : (e == 1) = false := by simp [q]
    rw [q', Bool.false_or] at h
    have := apc_iff.mp h i (of_decide_eq_true hi.1)
    rw [Nat.zero_add] at this
    rcases this with z | z
    · exact z
    · rw [z] at hi
      cases hi.2
theorem cok_self {w e l : Nat} : cok A v l w e (cts A v l w e) = true := by
  unfold cok
  by_cases q : e = 1
  · simp [q]
  · have q' : (e == 1) = false := by simp [q]
    rw [q', Bool.false_or, apc_iff]
    intro i hi
    unfold cts
    rw [if_neg q, Nat.zero_add, msk_t]
    cases hrd A v l ((aP A w).getD i 0) <;> simp [hi]
theorem cts_lt {w e l : Nat} : cts A v l w e < 2 ^ (aP A w).length := by
  unfold cts
  split
  · exact Nat.pow_pos (by decide)
  · exact msk_lt _ _
theorem m_lefl {w c : Nat} (hw : w < aN A) (hc : c < 2 ^ 31) : ∀ (L : List Nat) (k x fuel : Nat) (S : MS), MV A v S → (aP A w).drop k = L → k ≤ (aP A w).length → L.length < fuel →
    mm_cut_130L fuel (nI w) (nI c) (nI x) (nI k) S = some (nI (lef A c L k x), S) := by
  intro L
  induction L with
  | nil =>
    intro k x fuel S h hd hk hf
    obtain ⟨fu, rfl⟩ : ∃ fu, fuel = fu + 1 := ⟨fuel - 1, by simp at hf; omega⟩
    have hN := wfN h.1
    obtain ⟨-, g7, -⟩ := h.2.1.1.2 w (by omega)
    have hl := drop_n hd
    have h4 := wfPl h.1 w
    have hw14 : w < 14 := by omega
    show mm_cut_130 _ _ _ _ _ _ = _
    unfold mm_cut_130
    simp (discharger := omega) only [q0, q1, q2, q3, q4, q5, q6, q7, q8, q9, q10, q11, q14, q20, q32, q33, q38, q40, q41, q48, q57, q59, q60, q61, q62, q98, q99, q100, q101, q104, q107, q115, q117, q124, q1000, q1023, q1024, bd_s, ck_t, lt_t, nI_add, pk_mul, nI_clamp, ne_n, lt_n, le_n, vin_n, decide_true, decide_false, if_true, if_false, g7, hl, hw14]
    rfl
  | cons p L ih =>
    intro k x fuel S h hd hk hf
    obtain ⟨fu, rfl⟩ : ∃ fu, fuel = fu + 1 := ⟨fuel - 1, by simp at hf; omega⟩
    have hN := wfN h.1
    obtain ⟨-, g7, g8⟩ := h.2.1.1.2 w (by omega)
    have h4 := wfPl h.1 w
    obtain ⟨hkp, hd2, hlt⟩ := drop_c hd
    have g8' := g8 k hlt
    rw [getD_s hkp] at g8'
    have hpw := wfP h.1 hw p (List.mem_of_getElem? hkp)
    obtain ⟨-, -, g6⟩ := (h.2.1.1.2 p (by omega)).1 (by omega)
    have hw14 : w < 14 := by omega
    have hp14 : p < 14 := by omega
    have h56 : 4 * w + k < 56 := by omega
    have hkk : ¬ (aP A w).length ≤ k := by omega
    have i1 := ih (k + 1) (if c.testBit k = true then sd x (aF A p) else x) fu S h hd2 hlt (by simp at hf; omega)
    show mm_cut_130 _ _ _ _ _ _ = _
    unfold mm_cut_130 mm_cut_176
    simp (discharger := omega) only [bd_s, ck_t, lt_t, nI_add, pk_mul, nI_clamp, ne_n, lt_n, le_n, vin_n, decide_true, decide_false, if_true, if_false, g7, m_has S hc (show k < 32 by omega), hw14, hkk, q0, b2_0]
    simp (discharger := omega) only [q4, bd_s, ck_t, lt_t, nI_add, pk_mul, nI_clamp, ne_n, lt_n, le_n, vin_n, decide_true, decide_false, if_true, if_false, g8', g6, hw14, hp14, h56]
    rw [q1, nI_add]
    show _ = some (nI (lef A c L (k + 1) (if c.testBit k = true then sd x (aF A p) else x)), S)
    rw [← i1]
    cases c.testBit k with
    | true =>
      rw [if_neg (by decide), if_pos rfl]
      have := sd_n x (aF A p)
      rw [← this]
      rfl
    | false =>
      rw [if_pos rfl, if_neg (by decide)]
      have e : nI x &&& (-nI 1) = nI x := by
        have := Int32.and_neg_one (a := nI x)
        exact this
      first | rw [e] | (rw [show nI x &&& (-1 : Int32) = nI x from e])
theorem m_cutl {w e l q : Nat} (hw : w < aN A) (he : e < 4) (hq : q < 2) : ∀ (n s fuel : Nat) (best : Int32) (S : MS), MV A v S → HO S (hrd A v l) w → s + n = 2 ^ (aP A w).length → n < fuel →
    (s ≤ cts A v l w e → best = -5) → (cts A v l w e < s → best = nI (cts A v l w e)) →
    mm_cut_53L fuel (nI w) (nI e) (nI q) best (nI s) S = some (if q = 0 then nI (cts A v l w e) else nI (lef A (cts A v l w e) (aP A w) 0 (aF A w)), S) := by
  intro n
  induction n with
  | zero =>
    intro s fuel best S h ho hs hf h1 h2
    obtain ⟨fu, rfl⟩ : ∃ fu, fuel = fu + 1 := ⟨fuel - 1, by omega⟩
    have hlt : cts A v l w e < 2 ^ (aP A w).length := cts_lt
    have h4 := wfPl h.1 w
    have hp : 2 ^ (aP A w).length ≤ 2 ^ 4 := Nat.pow_le_pow_right (by decide) h4
    have hb := h2 (by omega)
    subst hb
    have hN := wfN h.1
    obtain ⟨g4, g7, -⟩ := h.2.1.1.2 w (by omega)
    obtain ⟨-, -, g6⟩ := g4 hw
    have hw14 : w < 14 := by omega
    have h32 : (aP A w).length < 32 := by omega
    have hle : 2 ^ (aP A w).length ≤ s := by omega
    have e3 := m_lefl hw (c := cts A v l w e) (by omega) (aP A w) 0 (aF A w) 4000 S h rfl (Nat.zero_le _) (by omega)
    show mm_cut_53 _ _ _ _ _ _ _ = _
    unfold mm_cut_53
    simp (discharger := omega) only [q0, q1, q2, q3, q4, q5, q6, q7, q8, q9, q10, q11, q14, q20, q32, q33, q38, q40, q41, q48, q57, q59, q60, q61, q62, q98, q99, q100, q101, q104, q107, q115, q117, q124, q1000, q1023, q1024, bd_s, ck_t, lt_t, nI_add, pk_mul, nI_clamp, ne_n, lt_n, le_n, vin_n, decide_true, decide_false, if_true, if_false, g7, g6, hw14, shl_n h32, hle]
    rw [e3]
    split <;> rfl
  | succ n ih =>
    intro s fuel best S h ho hs hf h1 h2
    obtain ⟨fu, rfl⟩ : ∃ fu, fuel = fu + 1 := ⟨fuel - 1, by omega⟩
    have h4 := wfPl h.1 w
    have hp : 2 ^ (aP A w).length ≤ 2 ^ 4 := Nat.pow_le_pow_right (by decide) h4
    have hlt : cts A v l w e < 2 ^ (aP A w).length := cts_lt
    have hN := wfN h.1
    obtain ⟨g4, g7, -⟩ := h.2.1.1.2 w (by omega)
    have hw14 : w < 14 := by omega
    have h32 : (aP A w).length < 32 := by omega
    have hle : ¬ 2 ^ (aP A w).length ≤ s := by omega
    have e86 : ∀ best, mm_cut_86 (mm_cut_53L fu) (nI w) (nI e) (nI q) best (nI s) S = mm_cut_53L fu (nI w) (nI e) (nI q) (if cok A v l w e s = true then nI s else best) (nI (s + 1)) S := by
      intro best
      have a1 := m_aph h hw (c := s) (by omega) ho (wfP h.1 hw)
      unfold mm_cut_86 mm_cut_101 mm_cut_105 cok
      simp (discharger := omega) only [q0, q1, q2, q3, q4, q5, q6, q7, q8, q9, q10, q11, q14, q20, q32, q33, q38, q40, q41, q48, q57, q59, q60, q61, q62, q98, q99, q100, q101, q104, q107, q115, q117, q124, q1000, q1023, q1024, bd_s, ck_t, lt_t, nI_add, pk_mul, nI_clamp, ne_n, lt_n, le_n, vin_n, decide_true, decide_false, if_true, if_false, a1, b2_0]
      by_cases q1 : e = 1
      · simp [q1]
      · have q1' : (e == 1) = false := by simp [q1]
        rw [if_neg q1, q1']
        cases apc s (hrd A v l) (aP A w) 0 <;> simp
    show mm_cut_53 _ _ _ _ _ _ _ = _
    unfold mm_cut_53
    simp (discharger := omega) only [q0, q1, q2, q3, q4, q5, q6, q7, q8, q9, q10, q11, q14, q20, q32, q33, q38, q40, q41, q48, q57, q59, q60, q61, q62, q98, q99, q100, q101, q104, q107, q115, q117, q124, q1000, q1023, q1024, bd_s, ck_t, lt_t, nI_add, pk_mul, nI_clamp, ne_n, lt_n, le_n, vin_n, decide_true, decide_false, if_true, if_false, g7, hw14, shl_n h32, hle]
    rcases Nat.lt_or_ge (cts A v l w e) s with c | c
    · have hb := h2 c
      subst hb
      have hn : ¬ cts A v l w e < 0 := by omega
      simp (discharger := omega) only [nI_add, pk_mul, nI_clamp, ne_n, lt_n, le_n, vin_n, decide_true, decide_false, if_true, if_false, hn, m_ones S (show s < 2 ^ 14 by omega), m_ones S (show cts A v l w e < 2 ^ 14 by omega), bd_s, ck_t, lt_t]
      have c14 := cn_le s.testBit 14
      have c15 := cn_le (cts A v l w e).testBit 14
      simp (discharger := omega) only [nI_add, pk_mul, nI_clamp, ne_n, lt_n, le_n, vin_n, decide_true, decide_false, if_true, if_false, e86]
      have i1 := ih (s + 1) fu (nI (cts A v l w e)) S h ho (by omega) (by omega) (fun z => by omega) (fun _ => rfl)
      unfold mm_cut_105
      simp only [q0, q1, q2, q3, q4, q5, q6, q7, q8, q9, q10, q11, q14, q20, q32, q33, q38, q40, q41, q48, q57, q59, q60, q61, q62, q98, q99, q100, q101, q104, q107, q115, q117, q124, q1000, q1023, q1024, lt_t, nI_add]
      cases hc : cok A v l w e s with
      | true =>
        have := cn_mono (f := (cts A v l w e).testBit) (g := s.testBit) (n := 14) (fun i _ z => cok_sub hc i z)
        rw [if_pos this, i1]
      | false =>
        simp only [reduceCtorEq, if_false, i1, ite_self]
    · have hb := h1 c
      subst hb
      simp only [eq_true (show (-5 : Int32) < nI 0 by decide), if_true, e86]
      cases hc : cok A v l w e s with
      | true =>
        have hes : cts A v l w e = s := by
          have := sub_le (cok_sub hc)
          omega
        simp only [if_true]
        exact ih (s + 1) fu (nI s) S h ho (by omega) (by omega) (fun z => by omega) (fun _ => by rw [hes])
      | false =>
        have hes : cts A v l w e ≠ s := fun z => by
          have := cok_self (A := A) (v := v) (l := l) (w := w) (e := e)
          rw [z, hc] at this
          cases this
        simp only [reduceCtorEq, if_false]
        exact ih (s + 1) fu (-5) S h ho (by omega) (by omega) (fun z => rfl) (fun z => by omega)
theorem mq_cut (h : WF A) (g : MM A S) (a b c d : Int32) : ∃ S', mm_cut S a b c d = some (sCut A a b c d, S') ∧ MM A S' := by
  unfold mm_cut mm_cut_21 sCut
  have i2 := m_in' S 1 d (by decide)
  simp only [q0, q1, q2, q3, q4, q5, q6, q7, q8, q9, q10, q11, q14, q20, q32, q33, q38, q40, q41, q48, q57, q59, q60, q61, q62, q98, q99, q100, q101, q104, q107, q115, q117, q124, q1000, q1023, q1024] at i2 ⊢
  simp only [m_isLay h g, i2, bd_s, ck_t, lt_t, b2_0]
  cases h1 : ix (aN A) a with
  | none => exact ⟨S, by simp [q1], g⟩
  | some w =>
  cases h2 : ix 4 b with
  | none => exact ⟨S, by simp [q1], g⟩
  | some e =>
  cases h3 : ix 2 c with
  | none => exact ⟨S, by simp [q1], g⟩
  | some l =>
  cases h4 : ix 2 d with
  | none => exact ⟨S, by simp [q1, h4], g⟩
  | some q =>
  have h4' : ix (1 + 1) d = some q := h4
  have hN := wfN h
  obtain ⟨hw, rfl⟩ := ix_s (by omega) h1
  obtain ⟨he, rfl⟩ := ix_s (by decide) h2
  obtain ⟨hl, rfl⟩ := ix_s (by decide) h3
  obtain ⟨hq, rfl⟩ := ix_s (by decide) h4
  obtain ⟨S0, x, e0, f0, v0'⟩ := m_asIs h g
  obtain ⟨S1, e1, f1⟩ := m_kpr v0' hw he hl
  have v1' := v0'.f1 f1
  obtain ⟨S2, y, e2, f2, o2⟩ := m_fh v1' (Nat.le_of_lt hw) hl
  have v2' := v1'.f2 f2
  have hp4 := wfPl h w
  have hpp : 2 ^ (aP A w).length ≤ 2 ^ 4 := Nat.pow_le_pow_right (by decide) hp4
  have e3 := m_cutl (q := q) hw he hq (2 ^ (aP A w).length) 0 4000 (-5) S2 v2' o2 (by omega) (by omega) (fun _ => rfl) (fun z => absurd z (Nat.not_lt_zero _))
  simp only [h4', Option.isSome_some, Bool.and_true, reduceCtorEq, if_false, e0, bd_s, e1, oI_lt (kpr_b h), e2]
  cases hk : kpr A (v0 A) w e l with
  | some r => exact ⟨S1, rfl, v1'.2.1⟩
  | none =>
    refine ⟨S2, ?_, v2'.2.1⟩
    simp only [Option.isSome_none, eq_self, if_true, reduceCtorEq, if_false]
    exact e3
end PMQ3
