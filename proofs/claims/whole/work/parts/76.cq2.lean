section PCQ2
variable {t0 : TS} {ad : DD} {A : AA} {P : PS} {e sh ju B s l w : Nat}
theorem c_endl (hW : WF A) (h : CC t0 ad A P) (hs : SVw A P (ad 5) sh ju B) (hw : w < aN A) (hl : l < 2) : ∀ (n k fuel : Nat), k + n = 4 → n < fuel → hm_X8_ends_26L fuel (ad 0) (nI l) (ad (50 + w)) (nI (msk (fun e => hrE A (vS A sh ju B) l e w) k)) (nI k) P = some (nI (msk (fun e => hrE A (vS A sh ju B) l e w) 4), P) := by
  obtain ⟨-, -, -, -, f4, -⟩ := h.r
  intro n
  induction n with
  | zero =>
    intro k fuel hk hf
    obtain ⟨fu, rfl⟩ : ∃ fu, fuel = fu + 1 := ⟨fuel - 1, by omega⟩
    obtain rfl : k = 4 := by omega
    rfl
  | succ n ih =>
    intro k fuel hk hf
    obtain ⟨fu, rfl⟩ : ∃ fu, fuel = fu + 1 := ⟨fuel - 1, by omega⟩
    have hle : ¬ (4 : Int32) ≤ nI k := by rw [q4, le_n (by omega) (by omega)]; omega
    have ih' := ih (k + 1) fu (by omega) (by omega)
    have e1 : nI k + (1 : Int32) = nI (k + 1) := by rw [q1, nI_add]
    have e9 : (1 : Int32) <<< (nI k &&& 31) = nI (2 ^ k) := shl_n (by omega)
    show hm_X8_ends_26 _ _ _ _ _ _ _ = _
    unfold hm_X8_ends_26 hm_X8_ends_56
    simp only [ck_t, nn_s, bd_s, lt_t, h.k0, f4, if_neg hle, c_isH hW h hs hw (show k < 4 by omega) hl, e1, e9]
    cases hb : hrE A (vS A sh ju B) l k w with
    | true =>
      rw [if_neg (show ¬ nI true.toNat = 0 by decide), acc_t (f := fun e => hrE A (vS A sh ju B) l e w) hb]
      exact ih'
    | false =>
      rw [msk_no (fun e => hrE A (vS A sh ju B) l e w) k hb] at ih'
      rw [if_pos (show nI false.toNat = 0 from rfl)]
      exact ih'
theorem cq_ends (hW : WF A) (h : CC t0 ad A P) (a b : Int32) : hm_X8_ends P (ad 0) a b = some (sEnds A a b, P) := by
  have hN := wfN hW
  have hsv := c_nowv hW h
  unfold hm_X8_ends hm_X8_ends_18 sEnds
  simp only [ck_t, nn_s, bd_s, lt_t, c_wordAt hW h, h.k0, show (2 : Int32) = nI 2 from rfl, c_within P b (show 2 < 2 ^ 31 by decide)]
  cases h1 : ix (aN A) a with
  | none => rfl
  | some w =>
  cases h3 : ix 2 b with
  | none => rfl
  | some l =>
  obtain ⟨hw, rfl⟩ := ix_s (by omega) h1
  obtain ⟨hl, rfl⟩ := ix_s (by decide) h3
  have hh := c_endl hW h hsv hw hl 4 0 4000 rfl (by decide)
  rw [vS_0] at hh
  have n1 : ¬ nI (Option.isSome (some l)).toNat = 0 := by show ¬ nI 1 = 0; decide
  simp only [Option.map_some, nlS, if_neg n1]
  exact hh
theorem c_clashl (hW : WF A) (h : CC t0 ad A P) (hs : SVw A P (ad 5) sh ju B) (hw : w < aN A) (he : e < 4) (hl : l < 2) : ∀ (n k fuel : Nat), k + n = aR A → n < fuel → hm_X8_clash_31L fuel (ad 0) (nI e) (nI l) (ad (50 + w)) (nI (cn (fun r => aL A r == l && kps A (vS A sh ju B) w e r) k)) (nI (cn (fun r => aL A r == l && !kps A (vS A sh ju B) w e r && anyS A (vS A sh ju B) w e r 1) k)) (nI k) P = some (nI (cn (fun r => aL A r == l && kps A (vS A sh ju B) w e r) (aR A) * cn (fun r => aL A r == l && !kps A (vS A sh ju B) w e r && anyS A (vS A sh ju B) w e r 1) (aR A)), P) := by
  have hR := wfR hW
  obtain ⟨-, -, f2, -, f4, -⟩ := h.r
  have ls := h.rs
  intro n
  induction n with
  | zero =>
    intro k fuel hk hf
    obtain ⟨fu, rfl⟩ : ∃ fu, fuel = fu + 1 := ⟨fuel - 1, by omega⟩
    obtain rfl : k = aR A := by omega
    have hle : nI (aR A) ≤ nI (aR A) := by rw [le_n (by omega) (by omega)]; exact Nat.le_refl _
    show hm_X8_clash_31 _ _ _ _ _ _ _ _ _ = _
    unfold hm_X8_clash_31
    simp only [ck_t, nn_s, bd_s, lt_t, h.k0, f2, ls.k, ls.sz, if_pos hle, pk_mul]
  | succ n ih =>
    intro k fuel hk hf
    obtain ⟨fu, rfl⟩ : ∃ fu, fuel = fu + 1 := ⟨fuel - 1, by omega⟩
    have hk' : k < aR A := (by omega); have hle : ¬ nI (aR A) ≤ nI k := by rw [le_n (by omega) (by omega)]; omega
    have hL := wfL hW hk'
    have h6 := wfCl hW hk'
    obtain ⟨-, r1, -, r4, -⟩ := h.ru hk'
    have ih' := ih (k + 1) fu (by omega) (by omega)
    have e1 : nI k + (1 : Int32) = nI (k + 1) := by rw [q1, nI_add]
    have e2 : nI (aL A k) = nI l ↔ aL A k = l := by rw [ne_n (by omega) (by omega)]
    have a1 := cm_any (A := A) (r := k) (w := w) (e := e) (v := vS A sh ju B) (q := isS 1) h6
    have a1' : (nI (hmk A (vS A sh ju B) w e k) &&& nI (smk (aC A k) 1) = 0) ↔ anyS A (vS A sh ju B) w e k 1 = false := a1
    have ec : ∀ x : Nat, nI x + (1 : Int32) = nI (x + 1) := fun x => by rw [q1, nI_add]
    show hm_X8_clash_31 _ _ _ _ _ _ _ _ _ = _
    unfold hm_X8_clash_31 hm_X8_clash_117
    simp only [ck_t, nn_s, bd_s, lt_t, h.k0, f2, f4, ls.k, ls.sz, if_neg hle, ls.gt hk', h.kR hR hk', r1, c_holding hW h hs hk' hw he, c_kps hW h hs hk', r4, ec]
    have s1 : cn (fun r => aL A r == l && kps A (vS A sh ju B) w e r) (k + 1) = cn (fun r => aL A r == l && kps A (vS A sh ju B) w e r) k + (aL A k == l && kps A (vS A sh ju B) w e k).toNat := rfl
    have s2 : cn (fun r => aL A r == l && !kps A (vS A sh ju B) w e r && anyS A (vS A sh ju B) w e r 1) (k + 1) = cn (fun r => aL A r == l && !kps A (vS A sh ju B) w e r && anyS A (vS A sh ju B) w e r 1) k + (aL A k == l && !kps A (vS A sh ju B) w e k && anyS A (vS A sh ju B) w e k 1).toNat := rfl
    rw [s1, s2] at ih'
    by_cases z : aL A k = l
    · rw [if_pos (e2.mpr z)]
      rw [beq_iff_eq.mpr z, Bool.true_and, Bool.true_and] at ih'
      cases qk : kps A (vS A sh ju B) w e k with
      | true =>
        rw [qk] at ih'
        rw [if_neg (show ¬ nI true.toNat = 0 by decide)]
        exact ih'
      | false =>
        rw [qk, Bool.not_false, Bool.true_and] at ih'
        rw [if_pos (show nI false.toNat = 0 from rfl)]
        cases qa : anyS A (vS A sh ju B) w e k 1 with
        | true =>
          rw [qa] at ih'
          rw [if_neg (fun y => by rw [a1'.mp y] at qa; cases qa)]
          exact ih'
        | false =>
          rw [qa] at ih'
          rw [if_pos (a1'.mpr qa)]
          exact ih'
    · rw [if_neg (fun y => z (e2.mp y))]
      have hb : (aL A k == l) = false := by simp [z]
      rw [hb, Bool.false_and, Bool.false_and, Bool.false_and] at ih'
      exact ih'
theorem cq_clash (hW : WF A) (h : CC t0 ad A P) (a b c : Int32) : hm_X8_clash P (ad 0) a b c = some (sClash A a b c, P) := by
  have hN := wfN hW
  have hsv := c_nowv hW h
  unfold hm_X8_clash hm_X8_clash_20 sClash
  simp only [ck_t, nn_s, bd_s, lt_t, c_wordAt hW h, h.k0, c_offer]
  cases h1 : ix (aN A) a with
  | none => rfl
  | some w =>
  cases h2 : ix 4 b with
  | none => rfl
  | some e =>
  cases h3 : ix 2 c with
  | none => rfl
  | some l =>
  obtain ⟨hw, rfl⟩ := ix_s (by omega) h1
  obtain ⟨he, rfl⟩ := ix_s (by decide) h2
  obtain ⟨hl, rfl⟩ := ix_s (by decide) h3
  have hh := c_clashl hW h hsv hw he hl (aR A) 0 4000 (by omega) (by have := wfR hW; omega)
  rw [vS_0] at hh
  have n1 : ¬ nI (Option.isSome (some e) && Option.isSome (some l)).toNat = 0 := by show ¬ nI 1 = 0; decide
  simp only [Option.map_some, nlS, if_neg n1]
  exact hh
theorem c_metl (hW : WF A) (h : CC t0 ad A P) (hs : SVw A P (ad 5) sh ju B) (hw : w < aN A) (he : e < 4) (hl : l < 2) : ∀ (n k fuel : Nat), k + n = aR A → n < fuel → hm_X8_isMet_3L fuel (ad 0) (ad (50 + w)) (nI e) (nI l) (nI k) P = some (nI ((List.range' k n).any fun r => aL A r == l && mts A (vS A sh ju B) w e r).toNat, P) := by
  have hR := wfR hW
  obtain ⟨-, -, f2, -, f4, -⟩ := h.r
  have ls := h.rs
  intro n
  induction n with
  | zero =>
    intro k fuel hk hf
    obtain ⟨fu, rfl⟩ : ∃ fu, fuel = fu + 1 := ⟨fuel - 1, by omega⟩
    obtain rfl : k = aR A := by omega
    have hle : nI (aR A) ≤ nI (aR A) := by rw [le_n (by omega) (by omega)]; exact Nat.le_refl _
    show hm_X8_isMet_3 _ _ _ _ _ _ _ = _
    unfold hm_X8_isMet_3
    simp only [ck_t, nn_s, bd_s, lt_t, h.k0, f2, ls.k, ls.sz, if_pos hle]
    rfl
  | succ n ih =>
    intro k fuel hk hf
    obtain ⟨fu, rfl⟩ : ∃ fu, fuel = fu + 1 := ⟨fuel - 1, by omega⟩
    have hk' : k < aR A := (by omega); have hle : ¬ nI (aR A) ≤ nI k := by rw [le_n (by omega) (by omega)]; omega
    have hL := wfL hW hk'
    have h6 := wfCl hW hk'
    obtain ⟨-, r1, -⟩ := h.ru hk'
    have ih' := ih (k + 1) fu (by omega) (by omega)
    have e1 : nI k + (1 : Int32) = nI (k + 1) := by rw [q1, nI_add]
    have e2 : nI (aL A k) = nI l ↔ aL A k = l := by rw [ne_n (by omega) (by omega)]
    have hml : hmk A (vS A sh ju B) w e k < 64 := cm_lt h6
    have hm : hmk A (vS A sh ju B) w e k = 0 ↔ mts A (vS A sh ju B) w e k = false := cm_0
    have hz : nI (hmk A (vS A sh ju B) w e k) = 0 ↔ mts A (vS A sh ju B) w e k = false := by rw [q0, ne_n (by omega) (by decide), hm]
    show hm_X8_isMet_3 _ _ _ _ _ _ _ = _
    unfold hm_X8_isMet_3 hm_X8_isMet_54
    simp only [ck_t, nn_s, bd_s, lt_t, h.k0, f2, f4, ls.k, ls.sz, if_neg hle, ls.gt hk', h.kR hR hk', r1, c_holding hW h hs hk' hw he, e1]
    rw [List.range'_succ, List.any_cons]
    by_cases z : aL A k = l
    · rw [if_pos (e2.mpr z), beq_iff_eq.mpr z, Bool.true_and]
      cases qk : mts A (vS A sh ju B) w e k with
      | true => rw [if_neg (fun y => by rw [hz.mp y] at qk; cases qk)]; rfl
      | false => rw [if_pos (hz.mpr qk), Bool.false_or]; exact ih'
    · rw [if_neg (fun y => z (e2.mp y))]
      have hb : (aL A k == l) = false := by simp [z]
      rw [hb, Bool.false_and, Bool.false_or]
      exact ih'
theorem c_sill (hW : WF A) (h : CC t0 ad A P) (he : e < 4) (hl : l < 2) : ∀ (n k fuel : Nat), k + n = aN A → n < fuel → hm_X8_silent_15L fuel (ad 0) (nI e) (nI l) (nI (msk (slm A e l) k)) (nI k) P = some (nI (msk (slm A e l) (aN A)), P) := by
  have hN := wfN hW
  have hR := wfR hW
  have hsv := c_nowv hW h
  obtain ⟨-, f1, -⟩ := h.r
  have ls := h.ws
  intro n
  induction n with
  | zero =>
    intro k fuel hk hf
    obtain ⟨fu, rfl⟩ : ∃ fu, fuel = fu + 1 := ⟨fuel - 1, by omega⟩
    obtain rfl : k = aN A := by omega
    have hle : nI (aN A) ≤ nI (aN A) := by rw [le_n (by omega) (by omega)]; exact Nat.le_refl _
    show hm_X8_silent_15 _ _ _ _ _ _ _ = _
    unfold hm_X8_silent_15
    simp only [ck_t, nn_s, bd_s, lt_t, h.k0, f1, ls.k, ls.sz, if_pos hle]
  | succ n ih =>
    intro k fuel hk hf
    obtain ⟨fu, rfl⟩ : ∃ fu, fuel = fu + 1 := ⟨fuel - 1, by omega⟩
    have hk' : k < aN A := (by omega); have hle : ¬ nI (aN A) ≤ nI k := by rw [le_n (by omega) (by omega)]; omega
    have ih' := ih (k + 1) fu (by omega) (by omega)
    have e1 : nI k + (1 : Int32) = nI (k + 1) := by rw [q1, nI_add]
    have e9 : (1 : Int32) <<< (nI k &&& 31) = nI (2 ^ k) := shl_n (by omega)
    have hm := c_metl hW h hsv hk' he hl (aR A) 0 4000 (by omega) (by omega)
    rw [vS_0, ← List.range_eq_range'] at hm
    have hm' : hm_X8_isMet P (ad 0) (ad (50 + k)) (nI e) (nI l) = some (nI (!slm A e l k).toNat, P) := by
      unfold slm
      rw [Bool.not_not]
      exact hm
    show hm_X8_silent_15 _ _ _ _ _ _ _ = _
    unfold hm_X8_silent_15 hm_X8_silent_55
    simp only [ck_t, nn_s, bd_s, lt_t, h.k0, f1, ls.k, ls.sz, if_neg hle, ls.gt hk', h.kW hN hk', hm', e1, e9]
    cases qb : slm A e l k with
    | true =>
      rw [Bool.not_true, if_pos (show nI false.toNat = 0 from rfl), acc_t (f := slm A e l) qb]
      exact ih'
    | false =>
      rw [msk_no (slm A e l) k qb] at ih'
      rw [Bool.not_false, if_neg (show ¬ nI true.toNat = 0 by decide)]
      exact ih'
theorem cq_silent (hW : WF A) (h : CC t0 ad A P) (a b : Int32) : hm_X8_silent P (ad 0) a b = some (sSilent A a b, P) := by
  have hN := wfN hW
  unfold hm_X8_silent sSilent
  simp only [ck_t, nn_s, bd_s, lt_t, c_offer]
  cases h2 : ix 4 a with
  | none => rfl
  | some e =>
  cases h3 : ix 2 b with
  | none => rfl
  | some l =>
  obtain ⟨he, rfl⟩ := ix_s (by decide) h2
  obtain ⟨hl, rfl⟩ := ix_s (by decide) h3
  have n1 : ¬ nI (Option.isSome (some e) && Option.isSome (some l)).toNat = 0 := by show ¬ nI 1 = 0; decide
  rw [if_neg n1]
  exact c_sill hW h he hl (aN A) 0 4000 (by omega) (by omega)
theorem c_htl (hW : WF A) (h : CC t0 ad A P) (hs : SVw A P s sh ju B) (he : e < 4) (hl : l < 2) : ∀ (n k fuel : Nat), k + n = aN A → n < fuel → hm_X8_heardTo_13L fuel (ad 0) (nI e) (nI l) s (nI (msk (hrd A (vS A sh ju B) l) (aN A))) (nI (msk (hrE A (vS A sh ju B) l e) k)) (nI k) P = some (nI (msk (hrE A (vS A sh ju B) l e) (aN A)), P) := by
  have hN := wfN hW
  obtain ⟨-, f1, -⟩ := h.r
  have ls := h.ws
  intro n
  induction n with
  | zero =>
    intro k fuel hk hf
    obtain ⟨fu, rfl⟩ : ∃ fu, fuel = fu + 1 := ⟨fuel - 1, by omega⟩
    obtain rfl : k = aN A := by omega
    have hle : nI (aN A) ≤ nI (aN A) := by rw [le_n (by omega) (by omega)]; exact Nat.le_refl _
    show hm_X8_heardTo_13 _ _ _ _ _ _ _ _ _ = _
    unfold hm_X8_heardTo_13
    simp only [ck_t, nn_s, bd_s, lt_t, h.k0, f1, ls.k, ls.sz, if_pos hle]
  | succ n ih =>
    intro k fuel hk hf
    obtain ⟨fu, rfl⟩ : ∃ fu, fuel = fu + 1 := ⟨fuel - 1, by omega⟩
    have hk' : k < aN A := (by omega); have hle : ¬ nI (aN A) ≤ nI k := by rw [le_n (by omega) (by omega)]; omega
    have ih' := ih (k + 1) fu (by omega) (by omega)
    have e1 : nI k + (1 : Int32) = nI (k + 1) := by rw [q1, nI_add]
    have e9 : (1 : Int32) <<< (nI k &&& 31) = nI (2 ^ k) := shl_n (by omega)
    obtain ⟨-, -, -, -, w6, -⟩ := h.w hk'
    have hkb : ∀ j, kpr A (vS A sh ju B) k e l = some j → j < 2 ^ 31 := kpr_b hW
    have ee : nI e = 1 ↔ e = 1 := by rw [q1, ne_n (by omega) (by decide)]
    have hsd : nI (sd (mkl (aP A k)) (msk (hrd A (vS A sh ju B) l) (aN A))) = 0 ↔ (aP A k).all (hrd A (vS A sh ju B) l) = true := by
      have h1 := sd_le (mkl (aP A k)) (msk (hrd A (vS A sh ju B) l) (aN A))
      have h2 := pw14 hN (mklP_lt hW hk')
      rw [q0, ne_n (by omega) (by decide), sd_all, List.all_eq_true]
      constructor
      · intro z p hp
        have := z p hp
        rw [msk_t, Bool.and_eq_true] at this
        exact this.2
      · intro z p hp
        have := wfP hW hk' p hp
        rw [msk_t, decide_eq_true (show p < aN A by omega), z p hp]
        rfl
    show hm_X8_heardTo_13 _ _ _ _ _ _ _ _ _ = _
    unfold hm_X8_heardTo_13 hm_X8_heardTo_57 hm_X8_heardTo_62 hm_X8_heardTo_90
    simp only [ck_t, nn_s, bd_s, lt_t, h.k0, f1, ls.k, ls.sz, if_neg hle, ls.gt hk', h.kW hN hk', w6, sd_n, c_kpr hW h hs hk' he hl, e1, e9]
    have hff : hrE A (vS A sh ju B) l e k = false → hm_X8_heardTo_13L fu (ad 0) (nI e) (nI l) s (nI (msk (hrd A (vS A sh ju B) l) (aN A))) (nI (msk (hrE A (vS A sh ju B) l e) k)) (nI (k + 1)) P = some (nI (msk (hrE A (vS A sh ju B) l e) (aN A)), P) := by
      intro hb
      rw [← msk_no (hrE A (vS A sh ju B) l e) k hb]
      exact ih'
    have hgo : (e == 1 || (aP A k).all (hrd A (vS A sh ju B) l)) = true → (if (0 : Int32) ≤ oI (kpr A (vS A sh ju B) k e l) then hm_X8_heardTo_13L fu (ad 0) (nI e) (nI l) s (nI (msk (hrd A (vS A sh ju B) l) (aN A))) (nI (msk (hrE A (vS A sh ju B) l e) k)) (nI (k + 1)) P else hm_X8_heardTo_13L fu (ad 0) (nI e) (nI l) s (nI (msk (hrd A (vS A sh ju B) l) (aN A))) (nI (msk (hrE A (vS A sh ju B) l e) k) ||| nI (2 ^ k)) (nI (k + 1)) P) = some (nI (msk (hrE A (vS A sh ju B) l e) (aN A)), P) := by
      intro hp
      have hge := oI_ge0 hkb
      cases qk : kpr A (vS A sh ju B) k e l with
      | none =>
        rw [if_neg (show ¬ (0 : Int32) ≤ oI none by decide)]
        rw [acc_t (f := hrE A (vS A sh ju B) l e) (by unfold hrE; rw [qk, hp]; rfl)]
        exact ih'
      | some j =>
        rw [qk] at hge
        rw [if_pos (hge.mpr rfl)]
        exact hff (by unfold hrE; rw [qk]; rfl)
    have n10 : ¬ (1 : Int32) = 0 := by decide
    by_cases c : e = 1
    · rw [if_pos (ee.mpr c), if_neg n10]
      exact hgo (by rw [beq_iff_eq.mpr c]; rfl)
    · rw [if_neg (fun z => c (ee.mp z))]
      cases qp : (aP A k).all (hrd A (vS A sh ju B) l) with
      | true =>
        rw [if_pos (hsd.mpr qp), if_neg n10]
        exact hgo (by rw [qp, Bool.or_true])
      | false =>
        rw [if_neg (fun z => by rw [hsd.mp z] at qp; cases qp), if_pos trivial]
        have he1 : (e == 1) = false := by simp [c]
        exact hff (by unfold hrE; rw [qp, he1, Bool.or_false, Bool.and_false])
theorem hrE_0 (hW : WF A) {v : VV} (hv : nob v) (hw : w < aN A) : hrE A v l 0 w = hrd A v l w := by
  rw [hrd_n hW hv hw]
  unfold hrE
  exact Bool.and_comm _ _
theorem c_ht (hW : WF A) (h : CC t0 ad A P) (hs : SVw A P s sh ju B) (he : e < 4) (hl : l < 2) : hm_X8_heardTo P (ad 0) (nI e) (nI l) s (nI (msk (hrd A (vS A sh ju B) l) (aN A))) = some (nI (msk (hrE A (vS A sh ju B) l e) (aN A)), P) := by
  have hN := wfN hW
  unfold hm_X8_heardTo
  by_cases c : e = 0
  · subst c
    rw [if_pos (show nI 0 = 0 from rfl)]
    rw [msk_cong (f := hrE A (vS A sh ju B) l 0) (g := hrd A (vS A sh ju B) l) (fun i hi => hrE_0 hW vS_nob hi)]
  · have : ¬ nI e = 0 := by rw [q0, ne_n (by omega) (by decide)]; exact c
    rw [if_neg this, lt_t, lt_t]
    exact c_htl hW h hs he hl (aN A) 0 4000 (by omega) (by omega)
theorem cq_beside (hW : WF A) (h : CC t0 ad A P) (a b : Int32) : hm_X8_beside P (ad 0) a b = some (sBeside A a b, P) := by
  have hN := wfN hW
  have hsv := c_nowv hW h
  obtain ⟨-, -, -, -, f4, -⟩ := h.r
  unfold hm_X8_beside hm_X8_beside_16 sBeside
  simp only [ck_t, nn_s, bd_s, lt_t, show (4 : Int32) = nI 4 from rfl, show (3 : Int32) = nI 3 from rfl, c_within P a (show 4 < 2 ^ 31 by decide), c_within P b (show 3 < 2 ^ 31 by decide)]
  cases h2 : ix 4 a with
  | none => rfl
  | some e =>
  cases h3 : ix 3 b with
  | none => rfl
  | some q =>
  obtain ⟨he, rfl⟩ := ix_s (by decide) h2
  obtain ⟨hq, rfl⟩ := ix_s (by decide) h3
  have n1 : ¬ nI (Option.isSome (some e)).toNat = 0 := by show ¬ nI 1 = 0; decide
  have n2 : ¬ nI (Option.isSome (some q)).toNat = 0 := by show ¬ nI 1 = 0; decide
  have p0 := c_hpa (l := 0) hW h hsv (by decide)
  have p1 := c_hpa (l := 1) hW h hsv (by decide)
  have t0' := c_ht (l := 0) hW h hsv he (by decide)
  have t1' := c_ht (l := 1) hW h hsv he (by decide)
  rw [vS_0] at p0 p1 t0' t1'
  have p0' : hm_X8_heardToPartsEnd P (ad 0) (nI (allm A)) 0 (ad 5) = _ := p0
  have p1' : hm_X8_heardToPartsEnd P (ad 0) (nI (allm A)) 1 (ad 5) = _ := p1
  have t0'' : hm_X8_heardTo P (ad 0) (nI e) 0 (ad 5) (nI (msk (hrd A (v0 A) 0) (aN A))) = _ := t0'
  have t1'' : hm_X8_heardTo P (ad 0) (nI e) 1 (ad 5) (nI (msk (hrd A (v0 A) 1) (aN A))) = _ := t1'
  simp only [if_neg n1, if_neg n2, ck_t, nn_s, bd_s, lt_t, h.k0, f4, c_all hW h, p0', p1', t0'', t1'', sd_n, and_n]
  have hq3 : q = 0 ∨ q = 1 ∨ q = 2 := by omega
  rcases hq3 with rfl | rfl | rfl
  · refine (if_pos (show nI 0 = 0 from rfl)).trans ?_
    congr 3
    apply Nat.eq_of_testBit_eq
    intro i
    rw [sd_t, msk_t, msk_t, msk_t]
    unfold bsd
    cases decide (i < aN A) <;> simp
  · refine (if_neg (show ¬ nI 1 = 0 by decide)).trans ((if_pos (show nI 1 = 1 from rfl)).trans ?_)
    congr 3
    apply Nat.eq_of_testBit_eq
    intro i
    rw [sd_t, msk_t, msk_t, msk_t]
    unfold bsd
    cases decide (i < aN A) <;> simp
  · refine (if_neg (show ¬ nI 2 = 0 by decide)).trans ((if_neg (show ¬ nI 2 = 1 by decide)).trans ?_)
    congr 3
    apply Nat.eq_of_testBit_eq
    intro i
    rw [Nat.testBit_and, msk_t, msk_t, msk_t]
    unfold bsd
    cases decide (i < aN A) <;> simp
end PCQ2
