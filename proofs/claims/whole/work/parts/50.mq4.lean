section PMQ4
variable {A : AA} {v : VV} {S : MS}
theorem or1024 {a b : Nat} (ha : a < 1024) (hb : b < 1024) : a ||| b < 1024 := Nat.or_lt_two_pow (n := 10) ha hb
-- opened
def v1 (A : AA) (w : Nat) : VV := (aSh A ||| aF A w, aJu A, fun p => if p = aB A w then 1 else 0, fun _ => false)
def opn (A : AA) (l w o : Nat) : Bool := hrd A (v1 A w) l o && !hrd A (v0 A) l o
def sOpened (A : AA) (a b : Int32) : Int32 := match ix (aN A) a, ix 2 b with
  | some w, some l => if hrd A (v0 A) l w = false then -3 else nI (msk (opn A l w) (aN A))
  | _, _ => -1
theorem m_op2 {w l was : Nat} (hw : w < aN A) (hwas : was = msk (hrd A (v0 A) l) (aN A)) (hh : hrd A (v0 A) l w = true) : ∀ (n k fuel : Nat) (S : MS), MV A (v1 A w) S → HO S (hrd A (v1 A w) l) (aN A) → k + n = aN A → n < fuel → mm_opened_126L fuel (nI w) (nI was) (nI (msk (opn A l w) k)) (nI k) S = some (nI (msk (opn A l w) (aN A)), S) := by
  intro n
  induction n with
  | zero =>
    intro k fuel S h ho hk hf
    obtain ⟨fu, rfl⟩ : ∃ fu, fuel = fu + 1 := ⟨fuel - 1, by omega⟩
    have hN := wfN h.1
    obtain rfl : k = aN A := by omega
    have g := h.2.1.1.1
    show mm_opened_126 _ _ _ _ _ _ = _
    unfold mm_opened_126
    simp (discharger := omega) only [q0, q1, q2, q3, q4, q5, q6, q7, q8, q9, q10, q11, q14, q20, q32, q33, q38, q40, q41, q48, q57, q59, q60, q61, q62, q98, q99, q100, q101, q104, q107, q115, q117, q124, q1000, q1023, q1024, bd_s, ck_t, lt_t, nI_add, pk_mul, nI_clamp, ne_n, lt_n, le_n, vin_n, decide_true, decide_false, if_true, if_false, g, Nat.le_refl]
  | succ n ih =>
    intro k fuel S h ho hk hf
    obtain ⟨fu, rfl⟩ : ∃ fu, fuel = fu + 1 := ⟨fuel - 1, by omega⟩
    have hN := wfN h.1
    have g := h.2.1.1.1
    have hk1 : ¬ aN A ≤ k := by omega
    have hk14 : k < 14 := by omega
    have hk32 : k < 32 := by omega
    have hok := ho k (by omega)
    have i1 := ih (k + 1) fu S h ho (by omega) (by omega)
    have hwl : was < 2 ^ 31 := by
      have := msk_lt (hrd A (v0 A) l) (aN A)
      have : 2 ^ aN A ≤ 2 ^ 14 := Nat.pow_le_pow_right (by decide) hN
      omega
    have hwt : was.testBit k = hrd A (v0 A) l k := by
      rw [hwas, msk_t]
      simp [show k < aN A by omega]
    show mm_opened_126 _ _ _ _ _ _ = _
    unfold mm_opened_126 mm_opened_170 mm_opened_171
    simp (discharger := omega) only [q0, q1, q2, q3, q4, q5, q6, q7, q8, q9, q10, q11, q14, q20, q32, q33, q38, q40, q41, q48, q57, q59, q60, q61, q62, q98, q99, q100, q101, q104, q107, q115, q117, q124, q1000, q1023, q1024, bd_s, ck_t, lt_t, nI_add, pk_mul, nI_clamp, ne_n, lt_n, le_n, vin_n, decide_true, decide_false, if_true, if_false, g, hk1, hk14, hok, b2_0, m_has S hwl hk32, hwt, shl_n hk32]
    have hF : opn A l w k = false → mm_opened_126L fu (nI w) (nI was) (nI (msk (opn A l w) k) ||| nI 0) (nI (k + 1)) S = some (nI (msk (opn A l w) (aN A)), S) := fun z => by rw [acc_f z, i1]
    have hT : opn A l w k = true → mm_opened_126L fu (nI w) (nI was) (nI (msk (opn A l w) k) ||| nI (2 ^ k)) (nI (k + 1)) S = some (nI (msk (opn A l w) (aN A)), S) := fun z => by rw [acc_t z, i1]
    by_cases q : k = w
    · simp only [q, if_true]
      rw [q] at hF
      exact hF (by unfold opn; rw [hh]; simp)
    · simp only [q, if_false]
      unfold opn at hF hT
      cases h1 : hrd A (v1 A w) l k with
      | false =>
        simp only [if_true]
        exact hF (by rw [h1]; rfl)
      | true =>
        cases h0 : hrd A (v0 A) l k with
        | false =>
          simp only [reduceCtorEq, if_true, if_false]
          exact hT (by rw [h1, h0]; rfl)
        | true =>
          simp only [reduceCtorEq, if_false]
          exact hF (by rw [h1, h0]; rfl)
theorem m_op1 {w l : Nat} (hw : w < aN A) (hl : l < 2) (hh : hrd A (v0 A) l w = true) : ∀ (n k fuel : Nat) (S : MS), MV A (v0 A) S → HO S (hrd A (v0 A) l) (aN A) → k + n = aN A → n < fuel → ∃ S', mm_opened_48L fuel (nI w) (nI l) (nI (msk (hrd A (v0 A) l) k)) (nI k) S = some (nI (msk (opn A l w) (aN A)), S') ∧ MM A S' := by
  intro n
  induction n with
  | zero =>
    intro k fuel S h ho hk hf
    obtain ⟨fu, rfl⟩ : ∃ fu, fuel = fu + 1 := ⟨fuel - 1, by omega⟩
    have hN := wfN h.1
    have hB := wfB h.1 hw
    have hF := wfF h.1 hw
    have hS := wfS h.1
    have hJ := wfJ' h.1
    obtain rfl : k = aN A := by omega
    have g := h.2.1.1.1
    obtain ⟨g4, -⟩ := h.2.1.1.2 w (by omega)
    obtain ⟨-, g5, g6⟩ := g4 hw
    have g1 := h.2.1.2.2.2.1
    have hw14 : w < 14 := by omega
    have f1 : Fm [24] [27] S (mR (mP S 24 (nI (aSh A ||| aF A w))) 27 (aB A w) (nI 1)) := (Fm.mP (by decide)).tr (Fm.mR (by decide))
    have h2 : MV A (v1 A w) (mR (mP S 24 (nI (aSh A ||| aF A w))) 27 (aB A w) (nI 1)) := by
      refine ⟨h.1, h.2.1.fm (f1.wk (by decide) (by decide)), ?_, ?_, or1024 hS hF, hJ, fun p hp => ?_, fun x hx => ?_⟩
      · rw [mR_i, mP_s]
        rfl
      · rw [mR_i, mP_n (by decide)]
        exact h.2.2.2.1
      · rw [mR_s]
        show (if p = aB A w then _ else _) = nI (if p = aB A w then 1 else 0) ∧ (if p = aB A w then 1 else 0) < 100
        by_cases q : p = aB A w
        · simp only [q, if_true]
          exact ⟨trivial, by decide⟩
        · simp only [q, if_false]
          exact ⟨(h.2.2.2.2.2.2.1 p hp).1, by decide⟩
      · rw [mR_i, mP_n (by decide)]
        exact h.2.2.2.2.2.2.2 x hx
    obtain ⟨S2, y, e2, f2, o2⟩ := m_fh h2 (Nat.le_refl _) hl
    have e3 := m_op2 hw rfl hh (aN A) 0 4000 S2 (h2.f2 f2) o2 (by omega) (by omega)
    refine ⟨S2, ?_, (h2.f2 f2).2.1⟩
    show mm_opened_48 _ _ _ _ _ _ = _
    unfold mm_opened_48
    simp (discharger := omega) only [q0, q1, q2, q3, q4, q5, q6, q7, q8, q9, q10, q11, q14, q20, q32, q33, q38, q40, q41, q48, q57, q59, q60, q61, q62, q98, q99, q100, q101, q104, q107, q115, q117, q124, q1000, q1023, q1024, bd_s, ck_t, lt_t, nI_add, pk_mul, nI_clamp, ne_n, lt_n, le_n, vin_n, decide_true, decide_false, if_true, if_false, g, Nat.le_refl, hw14, g1, g6, or_n, mP_r, g5, hB]
    rw [mR_i, mP_n (by decide), g, e2, bd_s]
    exact e3
  | succ n ih =>
    intro k fuel S h ho hk hf
    obtain ⟨fu, rfl⟩ : ∃ fu, fuel = fu + 1 := ⟨fuel - 1, by omega⟩
    have hN := wfN h.1
    have g := h.2.1.1.1
    have hk1 : ¬ aN A ≤ k := by omega
    have hk14 : k < 14 := by omega
    have hk32 : k < 32 := by omega
    have hok := ho k (by omega)
    obtain ⟨S1, e1, m1⟩ := ih (k + 1) fu S h ho (by omega) (by omega)
    refine ⟨S1, ?_, m1⟩
    show mm_opened_48 _ _ _ _ _ _ = _
    unfold mm_opened_48 mm_opened_76
    simp (discharger := omega) only [q0, q1, q2, q3, q4, q5, q6, q7, q8, q9, q10, q11, q14, q20, q32, q33, q38, q40, q41, q48, q57, q59, q60, q61, q62, q98, q99, q100, q101, q104, q107, q115, q117, q124, q1000, q1023, q1024, bd_s, ck_t, lt_t, nI_add, pk_mul, nI_clamp, ne_n, lt_n, le_n, vin_n, decide_true, decide_false, if_true, if_false, g, hk1, hk14, hok, b2_0, shl_n hk32]
    cases hb : hrd A (v0 A) l k with
    | false =>
      simp only [if_true]
      rw [acc_f hb, e1]
    | true =>
      simp only [reduceCtorEq, if_false]
      rw [acc_t hb, e1]
theorem mq_opened (h : WF A) (g : MM A S) (a b : Int32) : ∃ S', mm_opened S a b = some (sOpened A a b, S') ∧ MM A S' := by
  unfold mm_opened mm_opened_16 sOpened
  simp only [q0, q1, q2, q3, q4, q5, q6, q7, q8, q9, q10, q11, q14, q20, q32, q33, q38, q40, q41, q48, q57, q59, q60, q61, q62, q98, q99, q100, q101, q104, q107, q115, q117, q124, q1000, q1023, q1024, m_isW h g, m_isL, bd_s, ck_t, lt_t, b2_0]
  cases h1 : ix (aN A) a with
  | none => exact ⟨S, by simp [q1], g⟩
  | some w =>
  cases h3 : ix 2 b with
  | none => exact ⟨S, by simp [q1], g⟩
  | some l =>
  have hN := wfN h
  obtain ⟨hw, rfl⟩ := ix_s (by omega) h1
  obtain ⟨hl, rfl⟩ := ix_s (by decide) h3
  have hw14 : w < 14 := by omega
  obtain ⟨S0, x, e0, f0, v0'⟩ := m_asIs h g
  obtain ⟨S1, y, e1, f1, o1⟩ := m_fh v0' (Nat.le_refl _) hl
  have v1' := v0'.f2 f1
  simp only [Option.isSome_some, reduceCtorEq, if_false, e0, bd_s]
  rw [v0'.2.1.1.1, e1, bd_s]
  simp (discharger := omega) only [nI_add, pk_mul, nI_clamp, ne_n, lt_n, le_n, vin_n, decide_true, decide_false, if_true, if_false, ck_t, hw14, o1 w hw, b2_0]
  cases hh : hrd A (v0 A) l w with
  | false => exact ⟨S1, rfl, v1'.2.1⟩
  | true =>
    obtain ⟨S2, e2, m2⟩ := m_op1 hw hl hh (aN A) 0 4000 S1 v1' o1 (by omega) (by omega)
    refine ⟨S2, ?_, m2⟩
    simp only [reduceCtorEq, if_false]
    exact e2
-- proved, needed
def fcs (A : AA) (f : Nat → Bool) : Nat → Nat
  | 0 => 0
  | n + 1 => fcs A f n ||| (if f n = true then aF A n else 0)
def pst (A : AA) (v : VV) (l : Nat) : Nat := v.1 ||| fcs A (hrd A v l) (aN A)
def prv (A : AA) (v : VV) (l : Nat) : Nat → Nat → Nat
  | 0, sh => sh
  | f + 1, sh => if pst A (sh, v.2) l = sh then sh else prv A v l f (pst A (sh, v.2) l)
theorem fcs_lt (h : WF A) (f : Nat → Bool) : ∀ n, n ≤ aN A → fcs A f n < 1024 := by
  intro n
  induction n with
  | zero => intro _; show 0 < 1024; decide
  | succ n ih =>
    intro hn
    show fcs A f n ||| _ < 1024
    refine or1024 (ih (by omega)) ?_
    split
    · exact wfF h (by omega)
    · decide
theorem pst_lt (h : WF A) {v : VV} {l : Nat} (hv : v.1 < 1024) : pst A v l < 1024 := or1024 hv (fcs_lt h _ _ (Nat.le_refl _))
theorem cn_or {a b n : Nat} (ha : a < 2 ^ n) (hb : b < 2 ^ n) (hne : a ||| b ≠ a) : cn a.testBit n < cn (a ||| b).testBit n := by
  have hex : ∃ i, i < n ∧ a.testBit i = false ∧ b.testBit i = true := by
    apply Classical.byContradiction
    intro hno
    apply hne
    apply Nat.eq_of_testBit_eq
    intro i
    rw [Nat.testBit_or]
    cases ca : a.testBit i with
    | true => rfl
    | false =>
      cases cb : b.testBit i with
      | false => rfl
      | true => exact absurd ⟨i, of_lt hb cb, ca, cb⟩ hno
  obtain ⟨i, hi, h1, h2⟩ := hex
  exact cn_lt hi h1 (by rw [Nat.testBit_or, h2, Bool.or_true]) (fun j _ z => by rw [Nat.testBit_or, z, Bool.true_or])
theorem MVw_sh {v : VV} {S T : MS} {sh : Nat} (h : MVw v S) (hs : sh < 1024) (h24 : T.1 24 = nI sh) (h25 : T.1 25 = S.1 25) (h26 : T.1 26 = S.1 26) (h27 : T.2.1 27 = S.2.1 27) : MVw (sh, v.2) T := by
  obtain ⟨a, b, c, d, e, f⟩ := h
  refine ⟨h24, by rw [h25]; exact b, hs, d, fun p hp => ?_, fun w hw => ?_⟩
  · rw [h27]
    exact e p hp
  · rw [h26]
    exact f w hw
theorem m_pr34 {l : Nat} {hf0 : Nat → Bool} {k10 : Int32 → Int32 → MS → Option (Int32 × MS)} {x2 : Int32} {sh : Nat} : ∀ (n k fuel : Nat) (S : MS), WF A → MM A S → HO S hf0 (aN A) → S.1 24 = nI (sh ||| fcs A hf0 k) → k + n = aN A → n < fuel → ∃ S', mm_provedOf_34L k10 fuel (nI l) x2 (nI k) S = k10 (nI l) x2 S' ∧ Fm [24] [] S S' ∧ S'.1 24 = nI (sh ||| fcs A hf0 (aN A)) := by
  intro n
  induction n with
  | zero =>
    intro k fuel S h g ho h24 hk hf
    obtain ⟨fu, rfl⟩ : ∃ fu, fuel = fu + 1 := ⟨fuel - 1, by omega⟩
    have hN := wfN h
    obtain rfl : k = aN A := by omega
    have g0 := g.1.1
    refine ⟨S, ?_, Fm.rf, h24⟩
    show mm_provedOf_34 _ _ _ _ _ _ = _
    unfold mm_provedOf_34
    simp (discharger := omega) only [q0, q1, q2, q3, q4, q5, q6, q7, q8, q9, q10, q11, q14, q20, q32, q33, q38, q40, q41, q48, q57, q59, q60, q61, q62, q98, q99, q100, q101, q104, q107, q115, q117, q124, q1000, q1023, q1024, bd_s, ck_t, lt_t, nI_add, pk_mul, nI_clamp, ne_n, lt_n, le_n, vin_n, decide_true, decide_false, if_true, if_false, g0, Nat.le_refl]
  | succ n ih =>
    intro k fuel S h g ho h24 hk hf
    obtain ⟨fu, rfl⟩ : ∃ fu, fuel = fu + 1 := ⟨fuel - 1, by omega⟩
    have hN := wfN h
    have g0 := g.1.1
    have hk' : k < aN A := by omega
    have hk1 : ¬ aN A ≤ k := by omega
    have hk14 : k < 14 := by omega
    have hok := ho k hk'
    obtain ⟨g4, -⟩ := g.1.2 k (by omega)
    obtain ⟨-, -, g6⟩ := g4 hk'
    have hstep : ∀ y, sh ||| fcs A hf0 (k + 1) = (sh ||| fcs A hf0 k) ||| y → ∃ S', mm_provedOf_34L k10 fu (nI l) x2 (nI (k + 1)) (mP S 24 (nI ((sh ||| fcs A hf0 k) ||| y))) = k10 (nI l) x2 S' ∧ Fm [24] [] S S' ∧ S'.1 24 = nI (sh ||| fcs A hf0 (aN A)) := by
      intro y hy
      have f1 : Fm [24] [] S (mP S 24 (nI ((sh ||| fcs A hf0 k) ||| y))) := Fm.mP (by decide)
      obtain ⟨S', e, f, o⟩ := ih (k + 1) fu (mP S 24 (nI ((sh ||| fcs A hf0 k) ||| y))) h (g.fm (f1.wk (by decide) (by decide))) ho (by rw [mP_s, hy]) (by omega) (by omega)
      exact ⟨S', e, f1.tr f, o⟩
    show ∃ S', mm_provedOf_34 _ _ _ _ _ _ = _ ∧ _
    unfold mm_provedOf_34 mm_provedOf_66
    simp (discharger := omega) only [q0, q1, q2, q3, q4, q5, q6, q7, q8, q9, q10, q11, q14, q20, q32, q33, q38, q40, q41, q48, q57, q59, q60, q61, q62, q98, q99, q100, q101, q104, q107, q115, q117, q124, q1000, q1023, q1024, bd_s, ck_t, lt_t, nI_add, pk_mul, nI_clamp, ne_n, lt_n, le_n, vin_n, decide_true, decide_false, if_true, if_false, g0, hk1, hk14, hok, b2_0, h24, g6, or_n]
    have hfs : fcs A hf0 (k + 1) = fcs A hf0 k ||| (if hf0 k = true then aF A k else 0) := rfl
    cases hb : hf0 k with
    | false =>
      simp only [if_true]
      exact hstep 0 (by rw [hfs, hb, Nat.or_assoc]; rfl)
    | true =>
      simp only [reduceCtorEq, if_false]
      exact hstep (aF A k) (by rw [hfs, hb, Nat.or_assoc]; rfl)
theorem m_pr10 {l : Nat} (hl : l < 2) : ∀ (f sh : Nat) (x2 : Int32) (fuel : Nat) (S : MS), MV A (sh, v.2) S → x2 ≠ nI sh → 10 - cn sh.testBit 10 < f → f < fuel → ∃ S', mm_provedOf_10L fuel (nI l) x2 S = some (nI (prv A v l f sh), S') ∧ Fm [24] ev2 S S' ∧ MV A (prv A v l f sh, v.2) S' := by
  intro f
  induction f with
  | zero => intro sh x2 fuel S h hx hc hf; exact absurd hc (Nat.not_lt_zero _)
  | succ f ih =>
    intro sh x2 fuel S h hx hc hf
    obtain ⟨fu, rfl⟩ : ∃ fu, fuel = fu + 1 := ⟨fuel - 1, by omega⟩
    have hN := wfN h.1
    have hsh : sh < 1024 := h.2.2.2.2.1
    have h24 : S.1 24 = nI sh := h.2.2.1
    obtain ⟨S1, y, e1, f1, o1⟩ := m_fh h (Nat.le_refl _) hl
    have v1' := h.f2 f1
    obtain ⟨S2, e2, f2, o2⟩ := m_pr34 (l := l) (k10 := mm_provedOf_10L fu) (x2 := nI sh) (sh := sh) (aN A) 0 4000 S1 h.1 v1'.2.1 o1 (by show S1.1 24 = nI (sh ||| 0); rw [Nat.or_zero]; exact v1'.2.2.1) (by omega) (by omega)
    have hps : sh ||| fcs A (hrd A (sh, v.2) l) (aN A) = pst A (sh, v.2) l := rfl
    rw [hps] at o2
    have hpl : pst A (sh, v.2) l < 1024 := pst_lt h.1 hsh
    have hv2 : MV A (pst A (sh, v.2) l, v.2) S2 := ⟨h.1, v1'.2.1.fm (f2.wk (by decide) (by decide)), MVw_sh (v := (sh, v.2)) v1'.2.2 hpl o2 (f2.1 25 (by decide)) (f2.1 26 (by decide)) (f2.2.1 27 (by decide))⟩
    have ff : Fm [24] ev2 S S2 := (f1.wk (fun _ q => nomatch q) (fun _ q => q)).tr (f2.wk (fun _ q => q) (fun _ q => nomatch q))
    have hhead : mm_provedOf_10L (fu + 1) (nI l) x2 S = mm_provedOf_10L fu (nI l) (nI sh) S2 := by
      show mm_provedOf_10 _ _ _ _ = _
      unfold mm_provedOf_10
      rw [h24]
      simp only [show ¬ (nI sh = x2) from fun z => hx z.symm, if_false, lt_t, h.2.1.1.1, e1, bd_s, q0]
      exact e2
    rw [hhead]
    show ∃ S', _ = some (nI (if pst A (sh, v.2) l = sh then sh else prv A v l f (pst A (sh, v.2) l)), S') ∧ _ ∧ MV A (if pst A (sh, v.2) l = sh then sh else prv A v l f (pst A (sh, v.2) l), v.2) S'
    by_cases q : pst A (sh, v.2) l = sh
    · rw [if_pos q]
      refine ⟨S2, ?_, ff, by rw [q] at hv2; exact hv2⟩
      obtain ⟨fv, rfl⟩ : ∃ fv, fu = fv + 1 := ⟨fu - 1, by omega⟩
      show mm_provedOf_10 _ _ _ _ = _
      unfold mm_provedOf_10
      rw [o2]
      simp only [q, if_true]
    · rw [if_neg q]
      have c1 := cn_or (n := 10) hsh (fcs_lt h.1 (hrd A (sh, v.2) l) (aN A) (Nat.le_refl _)) q
      rw [hps] at c1
      have c2 := cn_le (pst A (sh, v.2) l).testBit 10
      obtain ⟨S3, e3, f3⟩ := ih (pst A (sh, v.2) l) (nI sh) fu S2 hv2 (fun z => q ((nI_eq (by omega) (by omega)).mp z).symm) (by omega) (by omega)
      exact ⟨S3, e3, ff.tr f3.1, f3.2⟩
theorem m_prv {l : Nat} (hl : l < 2) (h : MV A v S) : ∃ S', mm_provedOf S (nI l) = some (nI (prv A v l 11 (aSh A)), S') ∧ Fm [24] ev2 S S' ∧ MV A (prv A v l 11 (aSh A), v.2) S' := by
  have hS := wfS h.1
  have g1 := h.2.1.2.2.2.1
  have f1 : Fm [24] ev2 S (mP S 24 (S.1 1)) := Fm.mP (by decide)
  have h1 : MV A (aSh A, v.2) (mP S 24 (S.1 1)) := ⟨h.1, h.2.1.fm (f1.wk (by decide) (by decide)), MVw_sh h.2.2 hS (by rw [mP_s, g1]) (mP_n (by decide)) (mP_n (by decide)) rfl⟩
  have hne : (-1 : Int32) ≠ nI (aSh A) := by
    intro z
    have := nI_pos (n := aSh A) (by omega)
    rw [← z] at this
    exact this (by decide)
  obtain ⟨S', e, f, m⟩ := m_pr10 hl 11 (aSh A) (-1) 4000 (mP S 24 (S.1 1)) h1 hne (by omega) (by decide)
  refine ⟨S', ?_, f1.tr f, m⟩
  unfold mm_provedOf
  rw [lt_t, lt_t, e]
end PMQ4
