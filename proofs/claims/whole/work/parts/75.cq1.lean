section PCQ
variable {t0 : TS} {ad : DD} {A : AA} {P : PS} {e sh ju B s l w : Nat}
theorem c_ihl (hW : WF A) (h : CC t0 ad A P) (hs : SVw A P s sh ju B) (hl : l < 2) {asked : Nat} (ha : asked < 2 ^ aN A) : ∀ (n k fuel : Nat), k + n = aN A → n < fuel → hm_X8_isHeard_36L fuel (ad 0) (nI l) s (nI asked) (nI k) P = some (nI ((List.range' k n).all fun i => !asked.testBit i || (kpr A (vS A sh ju B) i 0 l).isNone).toNat, P) := by
  have hN := wfN hW
  obtain ⟨-, f1, -⟩ := h.r
  have ls := h.ws
  have ha14 := pw14 hN ha
  intro n
  induction n with
  | zero =>
    intro k fuel hk hf
    obtain ⟨fu, rfl⟩ : ∃ fu, fuel = fu + 1 := ⟨fuel - 1, by omega⟩
    obtain rfl : k = aN A := by omega
    show hm_X8_isHeard_36 _ _ _ _ _ _ _ = _
    unfold hm_X8_isHeard_36
    have hle : nI (aN A) ≤ nI (aN A) := by rw [le_n (by omega) (by omega)]; exact Nat.le_refl _
    simp only [ck_t, nn_s, bd_s, lt_t, h.k0, f1, ls.k, ls.sz, if_pos hle]
    rfl
  | succ n ih =>
    intro k fuel hk hf
    obtain ⟨fu, rfl⟩ : ∃ fu, fuel = fu + 1 := ⟨fuel - 1, by omega⟩
    have hk' : k < aN A := by omega
    have hle : ¬ nI (aN A) ≤ nI k := by rw [le_n (by omega) (by omega)]; omega
    have eh := c_has P (a := asked) (k := k) (by omega) (by omega)
    have ek := c_kpr (e := 0) hW h hs hk' (by decide) hl
    have ek' : hm_X8_keeper P (ad 0) (ad (50 + k)) 0 (nI l) s = _ := ek
    have hkb : ∀ j, kpr A (vS A sh ju B) k 0 l = some j → j < 2 ^ 31 := kpr_b hW
    have ih' := ih (k + 1) fu (by omega) (by omega)
    have e1 : nI k + (1 : Int32) = nI (k + 1) := by rw [q1, nI_add]
    have en := isNone_lt hkb
    show hm_X8_isHeard_36 _ _ _ _ _ _ _ = _
    unfold hm_X8_isHeard_36 hm_X8_isHeard_83
    simp only [ck_t, nn_s, bd_s, lt_t, h.k0, f1, ls.k, ls.sz, if_neg hle, ls.gt hk', h.kW hN hk', eh, ek', e1]
    rw [List.range'_succ, List.all_cons]
    cases qa : asked.testBit k with
    | false =>
      rw [if_pos (show nI false.toNat = 0 from rfl), Bool.not_false, Bool.true_or, Bool.true_and]
      exact ih'
    | true =>
      rw [if_neg (show ¬ nI true.toNat = 0 by decide), Bool.not_true, Bool.false_or]
      cases qk : kpr A (vS A sh ju B) k 0 l with
      | none =>
        rw [if_pos (show oI none < 0 by decide)]
        simp only [Option.isNone_none, Bool.true_and]
        exact ih'
      | some j =>
        rw [qk] at en
        rw [if_neg (fun z => by rw [en] at z; cases z)]
        rfl
theorem asked_all (hW : WF A) {v : VV} (hv : nob v) (hw : w < aN A) : ((List.range' 0 (aN A)).all fun i => !(wpF A (aN A) (mkl (aP A w))).testBit i || (kpr A v i 0 l).isNone) = (aP A w).all (hrd A v l) := by
  apply Bool.eq_iff_iff.mpr
  rw [List.all_eq_true, List.all_eq_true]
  constructor
  · intro z
    have key : ∀ i, i < aN A → (wpF A (aN A) (mkl (aP A w))).testBit i = true → hrd A v l i = true := by
      intro i
      induction i using Nat.strongRecOn with
      | ind i ih =>
        intro hi hb
        rw [hrd_n hW hv hi, Bool.and_eq_true, List.all_eq_true]
        refine ⟨fun p hp => ?_, ?_⟩
        · have := wfP hW hi p hp
          exact ih p this (by omega) (wpF_cl hW (Nat.le_refl _) hi hb hp)
        · have := z i (List.mem_range'_1.mpr ⟨Nat.zero_le _, by omega⟩)
          rw [hb, Bool.not_true, Bool.false_or] at this
          exact this
    intro p hp
    have := wfP hW hw p hp
    exact key p (by omega) (wpF_sup (mkl_t.mpr hp))
  · intro z i hi
    cases q : (wpF A (aN A) (mkl (aP A w))).testBit i with
    | false => rfl
    | true =>
      have hX := wpF_min (A := A) (X := fun i => i < aN A ∧ hrd A v l i = true) (fun i hi p hp => by
        have hpi := wfP hW hi.1 p hp
        have h2 := hi.2
        rw [hrd_n hW hv hi.1, Bool.and_eq_true, List.all_eq_true] at h2
        exact ⟨by omega, h2.1 p hp⟩) (k := aN A) (m := mkl (aP A w)) (fun i hi => by
        have hp := mkl_t.mp hi
        have := wfP hW hw i hp
        exact ⟨by omega, z i hp⟩) i q
      have h2 := hX.2
      rw [hrd_n hW hv hX.1, Bool.and_eq_true] at h2
      rw [h2.2]
      rfl
theorem c_isH (hW : WF A) (h : CC t0 ad A P) (hs : SVw A P s sh ju B) (hw : w < aN A) (he : e < 4) (hl : l < 2) : hm_X8_isHeard P (ad 0) (ad (50 + w)) (nI e) (nI l) s = some (nI (hrE A (vS A sh ju B) l e w).toNat, P) := by
  have hN := wfN hW
  have hkb : ∀ j, kpr A (vS A sh ju B) w e l = some j → j < 2 ^ 31 := kpr_b hW
  obtain ⟨-, -, -, -, w6, -⟩ := h.w hw
  have ee : nI e = 1 ↔ e = 1 := by rw [q1, ne_n (by omega) (by decide)]
  unfold hm_X8_isHeard hm_X8_isHeard_31 hrE
  simp only [ck_t, nn_s, bd_s, lt_t, c_kpr hW h hs hw he hl, h.k0, h.kW hN hw, w6, c_wp hW h (mklP_lt hW hw)]
  cases qk : kpr A (vS A sh ju B) w e l with
  | some j =>
    have hj := hkb j qk
    have : ¬ oI (some j) < 0 := nI_pos hj
    rw [if_neg this]
    rfl
  | none =>
    rw [if_pos (show oI none < 0 by decide), Option.isNone_none, Bool.true_and]
    by_cases c : e = 1
    · rw [if_pos (ee.mpr c)]
      have := c_ihl hW h hs hl (asked := 0) (Nat.two_pow_pos _) (aN A) 0 4000 (by omega) (by omega)
      have this' : hm_X8_isHeard_36L 4000 (ad 0) (nI l) s 0 0 P = _ := this
      rw [this']
      have h1 : ((List.range' 0 (aN A)).all fun i => !(0 : Nat).testBit i || (kpr A (vS A sh ju B) i 0 l).isNone) = true := by
        rw [List.all_eq_true]
        intro i _
        rw [Nat.zero_testBit]
        rfl
      rw [h1]
      have h2 : (e == 1) = true := beq_iff_eq.mpr c
      rw [h2]
      rfl
    · rw [if_neg (fun z => c (ee.mp z))]
      have := c_ihl hW h hs hl (wpF_lt hW (mklP_lt hW hw)) (aN A) 0 4000 (by omega) (by omega)
      have this' : hm_X8_isHeard_36L 4000 (ad 0) (nI l) s (nI (wpF A (aN A) (mkl (aP A w)))) 0 P = _ := this
      rw [this', asked_all hW vS_nob hw]
      have h2 : (e == 1) = false := by simp [c]
      rw [h2, Bool.false_or]
theorem oI_ge0 {o : Option Nat} (h : ∀ k, o = some k → k < 2 ^ 31) : ((0 : Int32) ≤ oI o) = (o.isSome = true) := oI_ge h
theorem cq_meets (hW : WF A) (h : CC t0 ad A P) (a b c d : Int32) : hm_X8_meets P (ad 0) a b c d = some (sMeets A a b c d, P) := by
  have hN := wfN hW
  have hR := wfR hW
  have hsv := c_nowv hW h
  obtain ⟨-, -, -, -, f4, -⟩ := h.r
  unfold hm_X8_meets hm_X8_meets_41 sMeets
  simp only [ck_t, nn_s, bd_s, lt_t, c_ruleAt hW h, c_wordAt hW h, h.k0, show (4 : Int32) = nI 4 from rfl, show (3 : Int32) = nI 3 from rfl, c_within P c (show 4 < 2 ^ 31 by decide), c_within P d (show 3 < 2 ^ 31 by decide), f4]
  cases h1 : ix (aR A) a with
  | none => rfl
  | some r =>
  cases h2 : ix (aN A) b with
  | none => rfl
  | some w =>
  cases h3 : ix 4 c with
  | none => rfl
  | some e =>
  cases h4 : ix 3 d with
  | none => rfl
  | some q =>
  obtain ⟨hr, rfl⟩ := ix_s (by omega) h1
  obtain ⟨hw, rfl⟩ := ix_s (by omega) h2
  obtain ⟨he, rfl⟩ := ix_s (by decide) h3
  obtain ⟨hq, rfl⟩ := ix_s (by decide) h4
  have h6 := wfCl hW hr
  have hkr := h.kR hR hr
  have hho := c_holding hW h hsv hr hw he
  have hkp := c_kps (w := w) (e := e) hW h hsv hr
  have hcw := c_cow (w := w) (e := e) hW h (v := vS A (aSh A) (aJu A) 0) hr
  rw [vS_0] at hho hkp hcw
  have n1 : ¬ nI (Option.isSome (some e)).toNat = 0 := by show ¬ nI 1 = 0; decide
  have n2 : ¬ nI (Option.isSome (some q)).toNat = 0 := by show ¬ nI 1 = 0; decide
  simp only [ck_t, nn_s, bd_s, lt_t, h.k0, f4, Option.map_some, nlS, if_neg n1, if_neg n2, hho, hkp, hcw, hkr]
  have hm : hmk A (v0 A) w e r = 0 ↔ mts A (v0 A) w e r = false := cm_0
  have hml : hmk A (v0 A) w e r < 64 := cm_lt h6
  have hz : nI (hmk A (v0 A) w e r) = 0 ↔ mts A (v0 A) w e r = false := by rw [q0, ne_n (by omega) (by decide), hm]
  have hwb := wyo_b hW (v := v0 A) (w := w) (e := e) hr
  have hq3 : q = 0 ∨ q = 1 ∨ q = 2 := by omega
  rcases hq3 with rfl | rfl | rfl
  · rw [if_pos (show nI 0 = 0 from rfl)]
    cases q : mts A (v0 A) w e r with
    | false => rw [if_pos (hz.mpr q)]; rfl
    | true => rw [if_neg (fun z => by rw [hz.mp z] at q; cases q)]; rfl
  · rw [if_neg (show ¬ nI 1 = 0 by decide), if_pos (show nI 1 = 1 from rfl)]
    show _ = some (nI (kps A (v0 A) w e r).toNat, P)
    cases kps A (v0 A) w e r <;> rfl
  · rw [if_neg (show ¬ nI 2 = 0 by decide), if_neg (show ¬ nI 2 = 1 by decide)]
    have hge := oI_ge0 hwb
    show _ = some (match wyo A (v0 A) w e r with | some k => _ | none => _, P)
    cases q : wyo A (v0 A) w e r with
    | none => rfl
    | some k =>
      rw [q] at hge
      rw [if_pos (hge.mpr rfl)]
      rfl
theorem cq_heard (hW : WF A) (h : CC t0 ad A P) (a b c : Int32) : hm_X8_heard P (ad 0) a b c = some (sHeard A a b c, P) := by
  have hN := wfN hW
  have hsv := c_nowv hW h
  obtain ⟨-, -, -, -, f4, -⟩ := h.r
  unfold hm_X8_heard hm_X8_heard_20 sHeard
  simp only [ck_t, nn_s, bd_s, lt_t, c_wordAt hW h, h.k0, c_offer, f4]
  cases h1 : ix (aN A) a with
  | none => rfl
  | some w =>
  cases h2 : ix 4 b with
  | none => rfl
  | some e =>
  cases h3 : ix 2 c with
  | none => rfl
  | some l =>
  obtain ⟨hw, rfl⟩ := ix_s (by omega) h1
  obtain ⟨he, rfl⟩ := ix_s (by decide) h2
  obtain ⟨hl, rfl⟩ := ix_s (by decide) h3
  have hh := c_isH hW h hsv hw he hl
  rw [vS_0] at hh
  have n1 : ¬ nI (Option.isSome (some e) && Option.isSome (some l)).toNat = 0 := by show ¬ nI 1 = 0; decide
  simp only [Option.map_some, nlS, if_neg n1, hh, bd_s]
  cases hrE A (v0 A) l e w <;> rfl
end PCQ
