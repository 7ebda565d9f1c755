section PCR
variable {t0 : TS} {ad : DD} {A : AA} {P : PS}
def cm (cs : List (Nat × Nat × List Nat)) (p : Nat × Nat × List Nat → Bool) : Nat := msk (fun k => match cs[k]? with
  | some c => p c
  | none => false) cs.length
theorem cm_t (cs : List (Nat × Nat × List Nat)) (p : Nat × Nat × List Nat → Bool) (k : Nat) : (cm cs p).testBit k = match cs[k]? with
    | some c => p c
    | none => false := by
  unfold cm
  rw [msk_t]
  by_cases h : k < cs.length
  · rw [decide_eq_true h, Bool.true_and]
  · rw [decide_eq_false h, Bool.false_and, List.getElem?_eq_none (by omega)]
theorem cm_and {cs : List (Nat × Nat × List Nat)} {p q : Nat × Nat × List Nat → Bool} : cm cs p &&& cm cs q = cm cs (fun c => p c && q c) := by
  apply Nat.eq_of_testBit_eq
  intro i
  rw [Nat.testBit_and, cm_t, cm_t, cm_t]
  cases cs[i]? <;> rfl
theorem cm_0 {cs : List (Nat × Nat × List Nat)} {p : Nat × Nat × List Nat → Bool} : cm cs p = 0 ↔ cs.any p = false := by
  rw [eq0_of, List.any_eq_false]
  constructor
  · intro h x hx
    obtain ⟨k, hk, rfl⟩ := List.getElem_of_mem hx
    have := h k
    rw [cm_t, List.getElem?_eq_getElem hk] at this
    simp only at this
    rw [this]
    decide
  · intro h i
    rw [cm_t]
    cases q : cs[i]? with
    | none => rfl
    | some c => exact Bool.eq_false_iff.mpr (h c (List.mem_of_getElem? q))
theorem cm_lt {cs : List (Nat × Nat × List Nat)} {p : Nat × Nat × List Nat → Bool} (h : cs.length ≤ 6) : cm cs p < 64 := Nat.lt_of_lt_of_le (msk_lt _ _) (Nat.pow_le_pow_right (n := 2) (j := 6) (by decide) h)
theorem cm_fi {cs : List (Nat × Nat × List Nat)} {p : Nat × Nat × List Nat → Bool} (h : cs.length ≤ 6) {k : Nat} (hk : cs.findIdx? p = some k) : (List.range 6).find? (cm cs p).testBit = some k := by
  obtain ⟨h1, h2, h3⟩ := List.findIdx?_eq_some_iff_getElem.mp hk
  rw [List.find?_range_eq_some]
  refine ⟨?_, List.mem_range.mpr (by omega), fun j hj => ?_⟩
  · rw [cm_t, List.getElem?_eq_getElem h1]
    exact h2
  · rw [cm_t, List.getElem?_eq_getElem (by omega)]
    have := h3 j hj
    simp only [Bool.not_eq_true] at this
    simp only [this]
    rfl
theorem fi_none {cs : List (Nat × Nat × List Nat)} {p : Nat × Nat × List Nat → Bool} (h : cs.any p = false) : cs.findIdx? p = none := by
  cases q : cs.findIdx? p with
  | none => rfl
  | some k =>
    have := fi_any (p := p) (L := cs)
    rw [q, h] at this
    cases this
theorem pmk_and {B p : Nat} (hB : B < 2 ^ aN A) (hN : aN A ≤ 14) : cn (pmk A p &&& B).testBit 14 = pcn A B p := by
  refine cn_cong (fun w hw => ?_)
  rw [Nat.testBit_and, pmk, msk_t]
  cases q : B.testBit w with
  | false => rw [Bool.and_false, Bool.false_and]
  | true =>
    have := of_lt hB q
    rw [decide_eq_true this, Bool.true_and, Bool.and_true]
theorem pmk_lt {p : Nat} (hN : aN A ≤ 14) : pmk A p < 2 ^ 14 := Nat.lt_of_lt_of_le (msk_lt _ _) (Nat.pow_le_pow_right (by decide) hN)
def SVw (A : AA) (P : PS) (s sh ju B : Nat) : Prop := kk P s 6 = true ∧ pI P s 0 = nI sh ∧ pI P s 1 = nI ju ∧ pI P s 2 = nI B ∧ sh < 1024 ∧ ju < 1024 ∧ B < 2 ^ aN A
variable {w e sh ju B r s : Nat}
def hmk (A : AA) (v : VV) (w e r : Nat) : Nat := cm (aC A r) (hc A v w e)
theorem c_holdl (hW : WF A) (h : CC t0 ad A P) (hs : SVw A P s sh ju B) (hr : r < aR A) (hw : w < aN A) (he : e < 4) : ∀ (n k fuel : Nat), k + n = (aC A r).length → n < fuel → hm_X4_holding_23L fuel (ad (110 + r)) (ad (50 + w)) (nI e) s (nI (pcn A B (aB A w))) (nI (msk (fun k => match (aC A r)[k]? with
    | some c => hc A (vS A sh ju B) w e c
    | none => false) k)) (nI k) P = some (nI (hmk A (vS A sh ju B) w e r), P) := by
  have hR := wfR hW
  have h6 := wfCl hW hr
  have kr := h.kR hR hr
  obtain ⟨-, -, -, -, -, -, r2, ls, -⟩ := h.ru hr
  obtain ⟨s1, s2, -, -, s5, -⟩ := hs
  intro n
  induction n with
  | zero =>
    intro k fuel hk hf
    obtain ⟨fu, rfl⟩ : ∃ fu, fuel = fu + 1 := ⟨fuel - 1, by omega⟩
    obtain rfl : k = (aC A r).length := by omega
    show hm_X4_holding_23 _ _ _ _ _ _ _ _ _ = _
    unfold hm_X4_holding_23
    rw [kr, ck_t, r2, nn_s, ls.sz, bd_s, ls.k, ck_t, if_pos (by rw [le_n (by omega) (by omega)]; exact Nat.le_refl _)]
    rfl
  | succ n ih =>
    intro k fuel hk hf
    obtain ⟨fu, rfl⟩ : ∃ fu, fuel = fu + 1 := ⟨fuel - 1, by omega⟩
    have hkl : k < (aC A r).length := by omega
    have hc1 := List.getElem?_eq_getElem hkl
    obtain ⟨k2, -⟩ := h.kC hR hr hkl h6
    have ih' := ih (k + 1) fu (by omega) (by omega)
    have hh := c_holds (sh := sh) (ju := ju) (B := B) hW h hr hc1 hw he s5
    show hm_X4_holding_23 _ _ _ _ _ _ _ _ _ = _
    unfold hm_X4_holding_23 hm_X4_holding_70
    have hle : ¬ nI (aC A r).length ≤ nI k := by rw [le_n (by omega) (by omega)]; omega
    have e1 : nI k + (1 : Int32) = nI (k + 1) := by rw [q1, nI_add]
    have e9 : (1 : Int32) <<< (nI k &&& 31) = nI (2 ^ k) := shl_n (by omega)
    simp only [ck_t, nn_s, bd_s, lt_t, kr, r2, ls.sz, ls.k, if_neg hle, ls.gt hkl, k2, s1, s2, hh, e1, e9]
    cases hb : hc A (vS A sh ju B) w e (aC A r)[k] with
    | true =>
      rw [if_neg (show ¬ nI true.toNat = 0 by decide)]
      rw [acc_t (f := fun k => match (aC A r)[k]? with | some c => hc A (vS A sh ju B) w e c | none => false) (by simp only [hc1]; exact hb)]
      exact ih'
    | false =>
      rw [if_pos (show nI false.toNat = 0 from rfl)]
      rw [msk_no (fun k => match (aC A r)[k]? with | some c => hc A (vS A sh ju B) w e c | none => false) k (by simp only [hc1]; exact hb)] at ih'
      exact ih'
theorem c_holding (hW : WF A) (h : CC t0 ad A P) (hs : SVw A P s sh ju B) (hr : r < aR A) (hw : w < aN A) (he : e < 4) : hm_X4_holding P (ad (110 + r)) (ad (50 + w)) (nI e) s = some (nI (hmk A (vS A sh ju B) w e r), P) := by
  have hN := wfN hW
  have hB := wfB hW hw
  have h6 := wfCl hW hr
  obtain ⟨-, -, -, -, -, w5, -⟩ := h.w hw
  obtain ⟨-, -, p2⟩ := h.2.1 (aB A w) hB
  have hlt : pmk A (aB A w) &&& B < 2 ^ 14 := Nat.lt_of_le_of_lt Nat.and_le_left (pmk_lt hN)
  unfold hm_X4_holding
  rw [h.kW hN hw, ck_t, w5, nn_s, h.kP hB, ck_t, hs.1, ck_t, p2, hs.2.2.2.1, and_n, c_bits P hlt, bd_s, pmk_and hs.2.2.2.2.2.2 hN, lt_t, lt_t]
  exact c_holdl hW h hs hr hw he (aC A r).length 0 4000 (by omega) (by omega)
def nmk (A : AA) (sh r : Nat) : Nat := cm (aC A r) (fun c => isS 2 c && !sh.testBit c.2.1)
theorem c_unl (hW : WF A) (h : CC t0 ad A P) (hs : SVw A P s sh ju B) (hr : r < aR A) : ∀ (n k fuel : Nat), k + n = (aC A r).length → n < fuel → hm_X4_unmetNeeds_4L fuel (ad (110 + r)) s (nI (msk (fun k => match (aC A r)[k]? with
    | some c => isS 2 c && !sh.testBit c.2.1
    | none => false) k)) (nI k) P = some (nI (nmk A sh r), P) := by
  have hR := wfR hW
  have h6 := wfCl hW hr
  have kr := h.kR hR hr
  obtain ⟨-, -, -, -, -, -, r2, ls, lc⟩ := h.ru hr
  obtain ⟨s1, s2, -, -, s5, -⟩ := hs
  intro n
  induction n with
  | zero =>
    intro k fuel hk hf
    obtain ⟨fu, rfl⟩ : ∃ fu, fuel = fu + 1 := ⟨fuel - 1, by omega⟩
    obtain rfl : k = (aC A r).length := by omega
    show hm_X4_unmetNeeds_4 _ _ _ _ _ _ = _
    unfold hm_X4_unmetNeeds_4
    rw [kr, ck_t, r2, nn_s, ls.sz, bd_s, ls.k, ck_t, if_pos (by rw [le_n (by omega) (by omega)]; exact Nat.le_refl _)]
    rfl
  | succ n ih =>
    intro k fuel hk hf
    obtain ⟨fu, rfl⟩ : ∃ fu, fuel = fu + 1 := ⟨fuel - 1, by omega⟩
    have hkl : k < (aC A r).length := by omega
    have hc1 := List.getElem?_eq_getElem hkl
    obtain ⟨k2, -⟩ := h.kC hR hr hkl h6
    have ih' := ih (k + 1) fu (by omega) (by omega)
    obtain ⟨c, hc1⟩ : ∃ c, (aC A r)[k]? = some c := ⟨_, hc1⟩
    have hcl := wfC hW hr c (List.mem_of_getElem? hc1)
    obtain ⟨l0, l1, -⟩ := lc k c hc1
    have c4 := hcl.1
    have c10 := hcl.2.1
    have e1 : nI k + (1 : Int32) = nI (k + 1) := by rw [q1, nI_add]
    have e2 : nI c.1 = 2 ↔ c.1 = 2 := by rw [q2, ne_n (by omega) (by decide)]
    have hff : (isS 2 c && !sh.testBit c.2.1) = false → hm_X4_unmetNeeds_4L fu (ad (110 + r)) s (nI (msk (fun k => match (aC A r)[k]? with
        | some c => isS 2 c && !sh.testBit c.2.1
        | none => false) k)) (nI (k + 1)) P = some (nI (nmk A sh r), P) := by
      intro hb
      rw [← msk_no (fun k => match (aC A r)[k]? with | some c => isS 2 c && !sh.testBit c.2.1 | none => false) k (by simp only [hc1]; exact hb)]
      exact ih'
    show hm_X4_unmetNeeds_4 _ _ _ _ _ _ = _
    unfold hm_X4_unmetNeeds_4 hm_X4_unmetNeeds_58
    have hle : ¬ nI (aC A r).length ≤ nI k := by rw [le_n (by omega) (by omega)]; omega
    have e9 : (1 : Int32) <<< (nI k &&& 31) = nI (2 ^ k) := shl_n (by omega)
    have eh := c_has P (a := sh) (k := c.2.1) (by omega) (by omega)
    simp only [ck_t, nn_s, bd_s, lt_t, kr, r2, ls.sz, ls.k, if_neg hle, ls.gt hkl, k2, l0, s1, s2, l1, eh, e1, e9]
    by_cases z : c.1 = 2
    · rw [if_pos (e2.mpr z)]
      have hi : isS 2 c = true := by show (c.1 == 2) = true; rw [z]; rfl
      cases hb : sh.testBit c.2.1 with
      | true =>
        rw [if_neg (show ¬ nI true.toNat = 0 by decide)]
        exact hff (by rw [hb, hi]; rfl)
      | false =>
        rw [if_pos (show nI false.toNat = 0 from rfl), acc_t (f := fun k => match (aC A r)[k]? with | some c => isS 2 c && !sh.testBit c.2.1 | none => false) (by simp only [hc1, hb, hi]; rfl)]
        exact ih'
    · rw [if_neg (fun y => z (e2.mp y))]
      exact hff (by have : isS 2 c = false := by show (c.1 == 2) = false; simp [z]
                    rw [this]; rfl)
theorem c_unmet (hW : WF A) (h : CC t0 ad A P) (hs : SVw A P s sh ju B) (hr : r < aR A) : hm_X4_unmetNeeds P (ad (110 + r)) s = some (nI (nmk A sh r), P) := by
  have h6 := wfCl hW hr
  unfold hm_X4_unmetNeeds
  rw [lt_t, lt_t]
  exact c_unl hW h hs hr (aC A r).length 0 4000 (by omega) (by omega)
theorem cm_any {v : VV} {q : Nat × Nat × List Nat → Bool} (h6 : (aC A r).length ≤ 6) : (nI (hmk A v w e r) &&& nI (cm (aC A r) q) = 0) ↔ (aC A r).any (fun c => q c && hc A v w e c) = false := by
  have h1 := cm_lt (p := fun c => hc A v w e c && q c) h6
  rw [and_n, hmk, cm_and, q0, ne_n (by omega) (by decide), cm_0]
  have : (fun c => hc A v w e c && q c) = fun c => q c && hc A v w e c := by funext c; exact Bool.and_comm _ _
  rw [this]
theorem c_kps (hW : WF A) (h : CC t0 ad A P) (hs : SVw A P s sh ju B) (hr : r < aR A) : hm_X4_keepsOut P (ad (110 + r)) (nI (hmk A (vS A sh ju B) w e r)) s = some (nI (kps A (vS A sh ju B) w e r).toNat, P) := by
  have hR := wfR hW
  have h6 := wfCl hW hr
  have kr := h.kR hR hr
  obtain ⟨r0, -, r3, r4, r5, -⟩ := h.ru hr
  have a0 := cm_any (A := A) (r := r) (w := w) (e := e) (v := vS A sh ju B) (q := isS 0) h6
  have a1 := cm_any (A := A) (r := r) (w := w) (e := e) (v := vS A sh ju B) (q := isS 1) h6
  have a3 := cm_any (A := A) (r := r) (w := w) (e := e) (v := vS A sh ju B) (q := isS 3) h6
  have a2 := cm_any (A := A) (r := r) (w := w) (e := e) (v := vS A sh ju B) (q := fun c => isS 2 c && !sh.testBit c.2.1) h6
  have hj : ju < 2 ^ 31 := Nat.lt_trans hs.2.2.2.2.2.1 (by decide)
  have e45 : hm_X4_keepsOut_45 (ad (110 + r)) (nI (hmk A (vS A sh ju B) w e r)) s P = some (nI (lcks A (vS A sh ju B) w e r).toNat, P) := by
    unfold hm_X4_keepsOut_45
    rw [c_unmet hW h hs hr, bd_s, kr, ck_t]
    show (if nI (hmk A (vS A sh ju B) w e r) &&& nI (cm (aC A r) fun c => isS 2 c && !sh.testBit c.2.1) = 0 then _ else _) = _
    unfold lcks
    cases hb : (aC A r).any (fun c => (isS 2 c && !sh.testBit c.2.1) && hc A (vS A sh ju B) w e c) with
    | false =>
      rw [if_pos (a2.mpr hb)]
      show _ = some (nI ((aC A r).any fun c => (isS 2 c && !sh.testBit c.2.1) && hc A (vS A sh ju B) w e c).toNat, P)
      rw [hb]
      rfl
    | true =>
      rw [if_neg (fun z => by rw [a2.mp z] at hb; cases hb)]
      show _ = some (nI ((aC A r).any fun c => (isS 2 c && !sh.testBit c.2.1) && hc A (vS A sh ju B) w e c).toNat, P)
      rw [hb]
      rfl
  have e20 : hm_X4_keepsOut_20 (ad (110 + r)) (nI (hmk A (vS A sh ju B) w e r)) s P = some (nI (lcks A (vS A sh ju B) w e r || (!ju.testBit r && anyS A (vS A sh ju B) w e r 3)).toNat, P) := by
    unfold hm_X4_keepsOut_20
    rw [kr, ck_t, r5, hs.1, ck_t, hs.2.2.1, r0, c_has P hj (by omega), bd_s, e45]
    show (if nI (hmk A (vS A sh ju B) w e r) &&& nI (cm (aC A r) (isS 3)) = 0 then _ else _) = _
    show _ = some (nI (_ || (!ju.testBit r && (aC A r).any fun c => isS 3 c && hc A (vS A sh ju B) w e c)).toNat, P)
    cases hb : (aC A r).any (fun c => isS 3 c && hc A (vS A sh ju B) w e c) with
    | false => rw [if_pos (a3.mpr hb), Bool.and_false, Bool.or_false]
    | true =>
      rw [if_neg (fun z => by rw [a3.mp z] at hb; cases hb), Bool.and_true]
      cases ju.testBit r with
      | false => rw [if_pos (show nI false.toNat = 0 from rfl)]; simp [q1]
      | true => rw [if_neg (show ¬ nI true.toNat = 0 by decide)]; simp
  unfold hm_X4_keepsOut
  rw [kr, ck_t, r3, r4, e20]
  show (if nI (hmk A (vS A sh ju B) w e r) &&& nI (cm (aC A r) (isS 0)) = 0 then _ else if nI (hmk A (vS A sh ju B) w e r) &&& nI (cm (aC A r) (isS 1)) = 0 then _ else _) = _
  show _ = some (nI ((((aC A r).any fun c => isS 0 c && hc A (vS A sh ju B) w e c) && !((aC A r).any fun c => isS 1 c && hc A (vS A sh ju B) w e c)) || lcks A (vS A sh ju B) w e r || (!ju.testBit r && anyS A (vS A sh ju B) w e r 3)).toNat, P)
  cases hb : (aC A r).any (fun c => isS 0 c && hc A (vS A sh ju B) w e c) with
  | false => rw [if_pos (a0.mpr hb), Bool.false_and, Bool.false_or]
  | true =>
    rw [if_neg (fun z => by rw [a0.mp z] at hb; cases hb), Bool.true_and]
    cases hb1 : (aC A r).any (fun c => isS 1 c && hc A (vS A sh ju B) w e c) with
    | false => rw [if_pos (a1.mpr hb1)]; simp [q1]
    | true => rw [if_neg (fun z => by rw [a1.mp z] at hb1; cases hb1)]; simp
theorem c_cow (hW : WF A) (h : CC t0 ad A P) {v : VV} (hr : r < aR A) : hm_X4_clauseOfWay P (ad (110 + r)) (nI (hmk A v w e r)) = some (oI (wyo A v w e r), P) := by
  have hR := wfR hW
  have h6 := wfCl hW hr
  have kr := h.kR hR hr
  obtain ⟨r0, -, r3, r4, r5, -⟩ := h.ru hr
  have a0 := cm_any (A := A) (r := r) (w := w) (e := e) (v := v) (q := isS 0) h6
  have a1 := cm_any (A := A) (r := r) (w := w) (e := e) (v := v) (q := isS 1) h6
  unfold hm_X4_clauseOfWay hm_X4_clauseOfWay_18 wyo
  rw [kr, ck_t, r3, r4]
  show (if nI (hmk A v w e r) &&& nI (cm (aC A r) (isS 0)) = 0 then _ else if nI (hmk A v w e r) &&& nI (cm (aC A r) (isS 1)) = 0 then _ else bd (hm_J6_numberOfTrailingZeros_0f7a4 P (nI (hmk A v w e r) &&& nI (cm (aC A r) (isS 1)))) _) = _
  show _ = some (oI (if ((aC A r).any fun c => isS 0 c && hc A v w e c) = true then _ else none), P)
  cases hb : (aC A r).any (fun c => isS 0 c && hc A v w e c) with
  | false => rw [if_pos (a0.mpr hb)]; rfl
  | true =>
    rw [if_neg (fun z => by rw [a0.mp z] at hb; cases hb), if_pos rfl]
    cases hb1 : (aC A r).any (fun c => isS 1 c && hc A v w e c) with
    | false => rw [if_pos (a1.mpr hb1), fi_none hb1]; rfl
    | true =>
      rw [if_neg (fun z => by rw [a1.mp z] at hb1; cases hb1)]
      have hf := fi_any (p := fun c => isS 1 c && hc A v w e c) (L := aC A r)
      rw [hb1] at hf
      obtain ⟨k, hk⟩ := Option.isSome_iff_exists.mp hf
      rw [hk, and_n, hmk, cm_and]
      have e2 : (fun c => hc A v w e c && isS 1 c) = fun c => isS 1 c && hc A v w e c := by funext c; exact Bool.and_comm _ _
      rw [e2]
      have hne : cm (aC A r) (fun c => isS 1 c && hc A v w e c) ≠ 0 := fun z => by rw [cm_0.mp z] at hb1; cases hb1
      rw [c_ntz (cm_lt h6) hne (cm_fi h6 hk), bd_s]
      rfl
theorem c_kpl (hW : WF A) (h : CC t0 ad A P) (hs : SVw A P s sh ju B) (hw : w < aN A) (he : e < 4) {l : Nat} (hl : l < 2) : ∀ (n k fuel : Nat), k + n = aR A → n < fuel → hm_X8_keeper_3L fuel (ad 0) (ad (50 + w)) (nI e) (nI l) s (nI k) P = some (oI ((List.range' k n).find? fun r => aL A r == l && kps A (vS A sh ju B) w e r), P) := by
  have hR := wfR hW
  obtain ⟨-, -, f2, -⟩ := h.r
  have ls := h.rs
  intro n
  induction n with
  | zero =>
    intro k fuel hk hf
    obtain ⟨fu, rfl⟩ : ∃ fu, fuel = fu + 1 := ⟨fuel - 1, by omega⟩
    show hm_X8_keeper_3 _ _ _ _ _ _ _ _ = _
    unfold hm_X8_keeper_3
    rw [h.k0, ck_t, f2, nn_s, ls.sz, bd_s, ls.k, ck_t, if_pos (by rw [le_n (by omega) (by omega)]; omega)]
    rfl
  | succ n ih =>
    intro k fuel hk hf
    obtain ⟨fu, rfl⟩ : ∃ fu, fuel = fu + 1 := ⟨fuel - 1, by omega⟩
    have hk' : k < aR A := by omega
    have hL := wfL hW hk'
    obtain ⟨-, r1, -⟩ := h.ru hk'
    have ih' := ih (k + 1) fu (by omega) (by omega)
    have e1 : nI k + (1 : Int32) = nI (k + 1) := by rw [q1, nI_add]
    have e2 : nI (aL A k) = nI l ↔ aL A k = l := by rw [ne_n (by omega) (by omega)]
    show hm_X8_keeper_3 _ _ _ _ _ _ _ _ = _
    unfold hm_X8_keeper_3 hm_X8_keeper_60
    have hle : ¬ nI (aR A) ≤ nI k := by rw [le_n (by omega) (by omega)]; omega
    simp only [ck_t, nn_s, bd_s, lt_t, h.k0, f2, ls.sz, ls.k, if_neg hle, ls.gt hk', h.kR hR hk', r1, c_holding hW h hs hk' hw he, c_kps hW h hs hk', e1]
    rw [List.range'_succ, List.find?_cons]
    by_cases z : aL A k = l
    · rw [if_pos (e2.mpr z), beq_iff_eq.mpr z, Bool.true_and]
      cases kps A (vS A sh ju B) w e k with
      | true => rw [if_neg (show ¬ nI true.toNat = 0 by decide)]; rfl
      | false => rw [if_pos (show nI false.toNat = 0 from rfl)]; exact ih'
    · rw [if_neg (fun y => z (e2.mp y))]
      have hb : (aL A k == l) = false := by simp [z]
      rw [hb, Bool.false_and]
      exact ih'
theorem c_kpr (hW : WF A) (h : CC t0 ad A P) (hs : SVw A P s sh ju B) (hw : w < aN A) (he : e < 4) {l : Nat} (hl : l < 2) : hm_X8_keeper P (ad 0) (ad (50 + w)) (nI e) (nI l) s = some (oI (kpr A (vS A sh ju B) w e l), P) := by
  have hR := wfR hW
  unfold hm_X8_keeper kpr
  rw [lt_t, List.range_eq_range']
  exact c_kpl hW h hs hw he hl (aR A) 0 4000 (by omega) (by omega)
end PCR
