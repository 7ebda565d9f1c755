section PMK
variable {A : AA} {v : VV} {S : MS}
theorem kpr_b (h : WF A) {v : VV} {w e l : Nat} : ∀ k, kpr A v w e l = some k → k < 2 ^ 31 := by
  intro k q
  have := List.mem_of_find?_eq_some q
  have := List.mem_range.mp this
  have := wfR h
  omega
theorem m_kpl {w e l : Nat} (hw : w < aN A) (he : e < 4) (hl : l < 2) : ∀ (n k fuel : Nat) (S : MS), MV A v S → k + n = aR A → n < fuel →
    ∃ S', mm_keeper_3L fuel (nI w) (nI e) (nI l) (nI k) S = some (oI ((List.range' k n).find? fun r => aL A r == l && kps A v w e r), S') ∧ Fm [] ev1 S S' := by
  intro n
  induction n with
  | zero =>
    intro k fuel S h hk hf
    obtain ⟨fu, rfl⟩ : ∃ fu, fuel = fu + 1 := ⟨fuel - 1, by omega⟩
    refine ⟨S, ?_, Fm.rf⟩
    have hR := wfR h.1
    have g := h.2.1.2.1.1
    show mm_keeper_3 _ _ _ _ _ _ = _
    unfold mm_keeper_3
    simp (discharger := omega) only [q0, q1, q2, q3, q4, q5, q6, q7, q8, q9, q10, q11, q14, q20, q32, q33, q38, q40, q41, q48, q57, q59, q60, q61, q62, q98, q99, q100, q101, q104, q107, q115, q117, q124, q1000, q1023, q1024, bd_s, ck_t, lt_t, nI_add, pk_mul, nI_clamp, ne_n, lt_n, le_n, vin_n, decide_true, decide_false, if_true, if_false, g, show aR A ≤ k by omega]
    rfl
  | succ n ih =>
    intro k fuel S h hk hf
    obtain ⟨fu, rfl⟩ : ∃ fu, fuel = fu + 1 := ⟨fuel - 1, by omega⟩
    have hR := wfR h.1
    have g := h.2.1.2.1.1
    have hk' : k < aR A := by omega
    have g13 := (h.2.1.2.1.2 k hk').1
    have hL := wfL h.1 hk'
    show ∃ S', mm_keeper_3 _ _ _ _ _ _ = _ ∧ _
    unfold mm_keeper_3 mm_keeper_37
    simp (discharger := omega) only [q0, q1, q2, q3, q4, q5, q6, q7, q8, q9, q10, q11, q14, q20, q32, q33, q38, q40, q41, q48, q57, q59, q60, q61, q62, q98, q99, q100, q101, q104, q107, q115, q117, q124, q1000, q1023, q1024, bd_s, ck_t, lt_t, nI_add, pk_mul, nI_clamp, ne_n, lt_n, le_n, vin_n, decide_true, decide_false, if_true, if_false, g, g13, show ¬ (aR A ≤ k) by omega, show k < 10 by omega]
    rw [List.range'_succ, List.find?_cons]
    by_cases hl2 : aL A k = l
    · obtain ⟨S1, e1, f1⟩ := m_kps h hk' hw he
      simp only [if_pos hl2, e1, bd_s, b2_0, beq_iff_eq.mpr hl2, Bool.true_and]
      cases kps A v w e k with
      | true => exact ⟨S1, rfl, f1⟩
      | false =>
        obtain ⟨S2, e2, f2⟩ := ih (k + 1) fu S1 (h.f1 f1) (by omega) (by omega)
        exact ⟨S2, by simp only [eq_self, if_true, e2], f1.tr f2⟩
    · obtain ⟨S2, e2, f2⟩ := ih (k + 1) fu S h (by omega) (by omega)
      have hb : (aL A k == l) = false := by simp [hl2]
      exact ⟨S2, by simp only [if_neg hl2, e2, hb, Bool.false_and], f2⟩
theorem m_kpr (h : MV A v S) {w e l : Nat} (hw : w < aN A) (he : e < 4) (hl : l < 2) : ∃ S', mm_keeper S (nI w) (nI e) (nI l) = some (oI (kpr A v w e l), S') ∧ Fm [] ev1 S S' := by
  have hR := wfR h.1
  obtain ⟨S', e1, f⟩ := m_kpl hw he hl (aR A) 0 4000 S h (by omega) (by omega)
  refine ⟨S', ?_, f⟩
  unfold mm_keeper kpr
  rw [lt_t, q0, e1, List.range_eq_range']
def HO (S : MS) (f : Nat → Bool) (n : Nat) : Prop := ∀ i, i < n → S.2.1 29 i = nI (f i).toNat
def apc (c : Nat) (f : Nat → Bool) : List Nat → Nat → Bool
  | [], _ => true
  | p :: L, k => (c.testBit k || f p) && apc c f L (k + 1)
theorem apc_0 (f : Nat → Bool) : ∀ (L : List Nat) (k : Nat), apc 0 f L k = L.all f
  | [], _ => rfl
  | p :: L, k => by
    show (((0 : Nat).testBit k || f p) && apc 0 f L (k + 1)) = _
    rw [Nat.zero_testBit, Bool.false_or, apc_0 f L (k + 1), List.all_cons]
theorem m_apl {w c n : Nat} {f : Nat → Bool} (hw : w < aN A) (hc : c < 2 ^ 31) : ∀ (L : List Nat) (k fuel : Nat) (S : MS), MV A v S → HO S f n → (∀ p ∈ aP A w, p < n) → (aP A w).drop k = L → k ≤ (aP A w).length → L.length < fuel →
    mm_arePartsHeard_2L fuel (nI w) (nI c) (nI k) S = some (nI (apc c f L k).toNat, S) := by
  intro L
  induction L with
  | nil =>
    intro k fuel S h ho hp hd hk hf
    obtain ⟨fu, rfl⟩ : ∃ fu, fuel = fu + 1 := ⟨fuel - 1, by simp at hf; omega⟩
    have hN := wfN h.1
    obtain ⟨-, g7, -⟩ := h.2.1.1.2 w (by omega)
    have hl := drop_n hd
    have h4 := wfPl h.1 w
    show mm_arePartsHeard_2 _ _ _ _ _ = _
    unfold mm_arePartsHeard_2
    simp (discharger := omega) only [q0, q1, q2, q3, q4, q5, q6, q7, q8, q9, q10, q11, q14, q20, q32, q33, q38, q40, q41, q48, q57, q59, q60, q61, q62, q98, q99, q100, q101, q104, q107, q115, q117, q124, q1000, q1023, q1024, bd_s, ck_t, lt_t, nI_add, pk_mul, nI_clamp, ne_n, lt_n, le_n, vin_n, decide_true, decide_false, if_true, if_false, g7, hl, show w < 14 by omega]
    rfl
  | cons p L ih =>
    intro k fuel S h ho hp hd hk hf
    obtain ⟨fu, rfl⟩ : ∃ fu, fuel = fu + 1 := ⟨fuel - 1, by simp at hf; omega⟩
    have hN := wfN h.1
    obtain ⟨-, g7, g8⟩ := h.2.1.1.2 w (by omega)
    have h4 := wfPl h.1 w
    obtain ⟨hkp, hd2, hlt⟩ := drop_c hd
    have g8' := g8 k hlt
    rw [getD_s hkp] at g8'
    have hpm := List.mem_of_getElem? hkp
    have hpn := hp p hpm
    have hpw := wfP h.1 hw p hpm
    have i1 := ih (k + 1) fu S h ho hp hd2 hlt (by simp at hf; omega)
    show mm_arePartsHeard_2 _ _ _ _ _ = _
    unfold mm_arePartsHeard_2 mm_arePartsHeard_41
    simp (discharger := omega) only [q0, q1, q2, q3, q4, q5, q6, q7, q8, q9, q10, q11, q14, q20, q32, q33, q38, q40, q41, q48, q57, q59, q60, q61, q62, q98, q99, q100, q101, q104, q107, q115, q117, q124, q1000, q1023, q1024, bd_s, ck_t, lt_t, nI_add, pk_mul, nI_clamp, ne_n, lt_n, le_n, vin_n, decide_true, decide_false, if_true, if_false, g7, g8', m_has S hc (show k < 32 by omega), ho p hpn, b2_0, show w < 14 by omega, show p < 14 by omega, show 4 * w + k < 56 by omega, show ¬ ((aP A w).length ≤ k) by omega, i1]
    show _ = some (nI ((c.testBit k || f p) && apc c f L (k + 1)).toNat, S)
    cases c.testBit k <;> cases f p <;> simp
theorem m_aph (h : MV A v S) {w c n : Nat} {f : Nat → Bool} (hw : w < aN A) (hc : c < 2 ^ 31) (ho : HO S f n) (hp : ∀ p ∈ aP A w, p < n) : mm_arePartsHeard S (nI w) (nI c) = some (nI (apc c f (aP A w) 0).toNat, S) := by
  have h4 := wfPl h.1 w
  unfold mm_arePartsHeard
  rw [lt_t, q0, m_apl hw hc (aP A w) 0 4000 S h ho hp rfl (Nat.zero_le _) (by omega)]
theorem m_fhl {l N : Nat} (hN : N ≤ aN A) (hl : l < 2) : ∀ (n k fuel : Nat) (S : MS), MV A v S → k + n = N → n < fuel → HO S (hrd A v l) k →
    ∃ S' x, mm_findHeard_2L fuel (nI N) (nI l) (nI k) S = some (x, S') ∧ Fm [] ev2 S S' ∧ HO S' (hrd A v l) N := by
  intro n
  induction n with
  | zero =>
    intro k fuel S h hk hf ho
    obtain ⟨fu, rfl⟩ : ∃ fu, fuel = fu + 1 := ⟨fuel - 1, by omega⟩
    have h14 := wfN h.1
    have e : k = N := by omega
    subst e
    refine ⟨S, nI 0, ?_, Fm.rf, ho⟩
    show mm_findHeard_2 _ _ _ _ _ = _
    unfold mm_findHeard_2
    simp (discharger := omega) only [q0, q1, q2, q3, q4, q5, q6, q7, q8, q9, q10, q11, q14, q20, q32, q33, q38, q40, q41, q48, q57, q59, q60, q61, q62, q98, q99, q100, q101, q104, q107, q115, q117, q124, q1000, q1023, q1024, bd_s, ck_t, lt_t, nI_add, pk_mul, nI_clamp, ne_n, lt_n, le_n, vin_n, decide_true, decide_false, if_true, if_false, Nat.le_refl]
  | succ n ih =>
    intro k fuel S h hk hf ho
    obtain ⟨fu, rfl⟩ : ∃ fu, fuel = fu + 1 := ⟨fuel - 1, by omega⟩
    have h14 := wfN h.1
    have hkn : k < aN A := by omega
    have hban := h.2.2.2.2.2.2.2 k (by omega)
    have hfin : ∀ (S1 : MS) (b : Bool), Fm [] ev2 S S1 → HO S1 (hrd A v l) k → hrd A v l k = b → ∃ S' x, mm_findHeard_2L fu (nI N) (nI l) (nI (k + 1)) (mR S1 29 k (nI b.toNat)) = some (x, S') ∧ Fm [] ev2 S S' ∧ HO S' (hrd A v l) N := by
      intro S1 b f1 o1 hb
      have f2 : Fm [] ev2 S1 (mR S1 29 k (nI b.toNat)) := Fm.mR (by decide)
      obtain ⟨S2, x, e2, f3, o3⟩ := ih (k + 1) fu (mR S1 29 k (nI b.toNat)) (h.f2 (f1.tr f2)) (by omega) (by omega) (fun i hi => by
        rw [mR_s]
        by_cases q : i = k
        · rw [if_pos q, q, hb]
        · rw [if_neg q]
          exact o1 i (by omega))
      exact ⟨S2, x, e2, (f1.tr f2).tr f3, o3⟩
    have hp := wfP h.1 hkn
    have hrk := hrd_eq v l k hp
    unfold hb1 at hrk
    show ∃ S' x, mm_findHeard_2 _ _ _ _ _ = _ ∧ _
    unfold mm_findHeard_2 mm_findHeard_43 mm_findHeard_44
    simp (discharger := omega) only [q0, q1, q2, q3, q4, q5, q6, q7, q8, q9, q10, q11, q14, q20, q32, q33, q38, q40, q41, q48, q57, q59, q60, q61, q62, q98, q99, q100, q101, q104, q107, q115, q117, q124, q1000, q1023, q1024, bd_s, ck_t, lt_t, nI_add, pk_mul, nI_clamp, ne_n, lt_n, le_n, vin_n, decide_true, decide_false, if_true, if_false, show ¬ (N ≤ k) by omega, nar_0, nar_1, show k < 14 by omega]
    by_cases hb : nI k = S.1 26
    · rw [decide_eq_true hb] at hban
      rw [hban] at hrk
      simp only [if_pos hb]
      exact hfin S false Fm.rf ho (by rw [hrk]; rfl)
    · rw [decide_eq_false hb] at hban
      rw [hban] at hrk
      have a1 := m_aph h hkn (show 0 < 2 ^ 31 by decide) ho hp
      rw [apc_0] at a1
      simp only [if_neg hb, a1, bd_s, b2_0]
      cases hall : (aP A k).all (hrd A v l) with
      | false =>
        simp only [eq_self, if_true]
        exact hfin S false Fm.rf ho (by rw [hrk, hall]; rfl)
      | true =>
        obtain ⟨S1, e1, f1⟩ := m_kpr h hkn (show 0 < 4 by decide) hl
        have o1 : HO S1 (hrd A v l) k := fun i hi => by rw [f1.2.1 29 (by decide)]; exact ho i hi
        simp only [reduceCtorEq, if_false, e1, bd_s, oI_ge (kpr_b h.1)]
        cases hkk : kpr A v k 0 l with
        | some r =>
          simp only [Option.isSome_some, if_true]
          exact hfin S1 false f1.e2 o1 (by rw [hrk, hall, hkk]; rfl)
        | none =>
          simp only [Option.isSome_none, reduceCtorEq, if_false]
          exact hfin S1 true f1.e2 o1 (by rw [hrk, hall, hkk]; rfl)
theorem m_fh (h : MV A v S) {N l : Nat} (hN : N ≤ aN A) (hl : l < 2) : ∃ S' x, mm_findHeard S (nI N) (nI l) = some (x, S') ∧ Fm [] ev2 S S' ∧ HO S' (hrd A v l) N := by
  have := wfN h.1
  obtain ⟨S', x, e1, f⟩ := m_fhl hN hl N 0 4000 S h (by omega) (by omega) (fun i hi => absurd hi (Nat.not_lt_zero i))
  refine ⟨S', x, ?_, f⟩
  unfold mm_findHeard
  rw [lt_t, q0, e1]
theorem m_hrE (h : MV A v S) {w e l : Nat} (hw : w < aN A) (he : e < 4) (hl : l < 2) : ∃ S', mm_isHeard S (nI w) (nI e) (nI l) = some (nI (hrE A v l e w).toNat, S') ∧ Fm [] ev2 S S' := by
  have hN := wfN h.1
  obtain ⟨S1, e1, f1⟩ := m_kpr h hw he hl
  have h1 := h.f1 f1
  obtain ⟨S2, x, e2, f2, o2⟩ := m_fh h1 (Nat.le_of_lt hw) hl
  have h2 := h1.f2 f2
  have e3 := m_aph h2 hw (show 0 < 2 ^ 31 by decide) o2 (wfP h.1 hw)
  rw [apc_0] at e3
  unfold mm_isHeard hrE
  simp (discharger := omega) only [q0, q1, q2, q3, q4, q5, q6, q7, q8, q9, q10, q11, q14, q20, q32, q33, q38, q40, q41, q48, q57, q59, q60, q61, q62, q98, q99, q100, q101, q104, q107, q115, q117, q124, q1000, q1023, q1024, bd_s, ck_t, lt_t, nI_add, pk_mul, nI_clamp, ne_n, lt_n, le_n, vin_n, decide_true, decide_false, if_true, if_false, e1, oI_lt (kpr_b h.1), e2, e3, z01_b]
  cases kpr A v w e l with
  | some k => exact ⟨S1, by simp, f1.e2⟩
  | none =>
    by_cases q : e = 1
    · exact ⟨S1, by simp [q], f1.e2⟩
    · have q' : (e == 1) = false := by simp [q]
      exact ⟨S2, by simp [q, q'], f1.e2.tr f2⟩
theorem m_isLay (h : WF A) (g : MM A S) (a b c : Int32) : mm_isLayer S a b c = some (nI ((ix (aN A) a).isSome && (ix 4 b).isSome && (ix 2 c).isSome).toNat, S) := by
  unfold mm_isLayer mm_isLayer_28
  simp only [q0, q1, q2, q3, q4, q5, q6, q7, q8, q9, q10, q11, q14, q20, q32, q33, q38, q40, q41, q48, q57, q59, q60, q61, q62, q98, q99, q100, q101, q104, q107, q115, q117, q124, q1000, q1023, q1024, bd_s, ck_t, lt_t, m_isW h g, m_isE, m_isL, b2_0]
  cases (ix (aN A) a).isSome <;> cases (ix 4 b).isSome <;> cases (ix 2 c).isSome <;> simp
-- as it is
def mAs : List Nat := [24, 25, 26]
theorem m_asl : ∀ (n k fuel : Nat) (S : MS), k + n = 8 → n < fuel → (∀ i, i < k → S.2.1 27 i = nI 0) → ∃ S' x, mm_asItIs_23L fuel (nI k) S = some (x, S') ∧ Fm [] [27] S S' ∧ ∀ i, i < 8 → S'.2.1 27 i = nI 0 := by
  intro n
  induction n with
  | zero =>
    intro k fuel S hk hf ho
    obtain ⟨fu, rfl⟩ : ∃ fu, fuel = fu + 1 := ⟨fuel - 1, by omega⟩
    refine ⟨S, nI 0, ?_, Fm.rf, fun i hi => ho i (by omega)⟩
    show mm_asItIs_23 _ _ _ = _
    unfold mm_asItIs_23
    simp (discharger := omega) only [q0, q1, q2, q3, q4, q5, q6, q7, q8, q9, q10, q11, q14, q20, q32, q33, q38, q40, q41, q48, q57, q59, q60, q61, q62, q98, q99, q100, q101, q104, q107, q115, q117, q124, q1000, q1023, q1024, bd_s, ck_t, lt_t, nI_add, pk_mul, nI_clamp, ne_n, lt_n, le_n, vin_n, decide_true, decide_false, if_true, if_false, show 8 ≤ k by omega]
  | succ n ih =>
    intro k fuel S hk hf ho
    obtain ⟨fu, rfl⟩ : ∃ fu, fuel = fu + 1 := ⟨fuel - 1, by omega⟩
    obtain ⟨S', x, e, f, o⟩ := ih (k + 1) fu (mR S 27 k (nI 0)) (by omega) (by omega) (fun i hi => by
      rw [mR_s]
      split
      · rfl
      · exact ho i (by omega))
    refine ⟨S', x, ?_, Fm.tr (Fm.mR (by decide)) f, o⟩
    show mm_asItIs_23 _ _ _ = _
    unfold mm_asItIs_23
    simp (discharger := omega) only [q0, q1, q2, q3, q4, q5, q6, q7, q8, q9, q10, q11, q14, q20, q32, q33, q38, q40, q41, q48, q57, q59, q60, q61, q62, q98, q99, q100, q101, q104, q107, q115, q117, q124, q1000, q1023, q1024, bd_s, ck_t, lt_t, nI_add, pk_mul, nI_clamp, ne_n, lt_n, le_n, vin_n, decide_true, decide_false, if_true, if_false, show ¬ (8 ≤ k) by omega, show k < 8 by omega, e]
theorem m_as0 {U : MS} {x : Int32} (e : mm_asItIs_23L 4000 (nI 0) (mP (mP (mP S 24 (S.1 1)) 25 ((mP S 24 (S.1 1)).1 2)) 26 (-1)) = some (x, U)) : mm_asItIs S = some (x, U) := by
  unfold mm_asItIs
  rw [lt_t, lt_t, lt_t, lt_t, q0]
  exact e
theorem m_asIs (h : WF A) (g : MM A S) : ∃ S' x, mm_asItIs S = some (x, S') ∧ Fm mAs [27] S S' ∧ MV A (v0 A) S' := by
  obtain ⟨S', x, e, f, o⟩ := m_asl 8 0 4000 (mP (mP (mP S 24 (S.1 1)) 25 ((mP S 24 (S.1 1)).1 2)) 26 (-1)) rfl (by decide) (fun i hi => absurd hi (Nat.not_lt_zero i))
  have fp : Fm mAs [27] S (mP (mP (mP S 24 (S.1 1)) 25 ((mP S 24 (S.1 1)).1 2)) 26 (-1)) := (Fm.mP (by decide)).tr ((Fm.mP (by decide)).tr (Fm.mP (by decide)))
  have ff := fp.tr (f.wk (fun _ q => nomatch q) (fun _ q => q))
  refine ⟨S', x, ?_, ff, h, g.fm (ff.wk (by decide) (by decide)), ?_⟩
  · exact m_as0 e
  · have hj := wfJ' h
    refine ⟨?_, ?_, wfS h, hj, fun p hp => ⟨o p hp, by show 0 < 100; decide⟩, fun w hw => ?_⟩
    · rw [f.1 24 (by simp), mP_n (by decide), mP_n (by decide), mP_s]
      exact g.2.2.2.1
    · rw [f.1 25 (by simp), mP_n (by decide), mP_s, mP_n (by decide)]
      exact g.2.2.2.2.1
    · rw [f.1 26 (by simp), mP_s]
      have hd : ∀ w, w < 14 → (false : Bool) = decide (nI w = (-1 : Int32)) := by decide
      exact hd w hw
end PMK
