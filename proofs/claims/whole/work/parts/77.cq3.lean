section PCQ3
variable {t0 : TS} {ad : DD} {A : AA} {P : PS} {e sh ju B s l w : Nat}
theorem c_ful (hW : WF A) (h : CC t0 ad A P) {hm : Nat} (hh : hm < 2 ^ aN A) {u : Nat} (hu : u < aN A) : ∀ (n k fuel : Nat), k + n = (aP A u).length → n < fuel → hm_X8_firstUnheard_2L fuel (ad (50 + u)) (nI hm) (nI k) P = some ((((aP A u).drop k).find? fun p => !hm.testBit p).map (fun p => ad (50 + p)), P) := by
  have hN := wfN hW
  have h14 := pw14 hN hh
  have hpl := wfPl hW u
  obtain ⟨-, -, -, -, -, -, w7, ls⟩ := h.w hu
  intro n
  induction n with
  | zero =>
    intro k fuel hk hf
    obtain ⟨fu, rfl⟩ : ∃ fu, fuel = fu + 1 := ⟨fuel - 1, by omega⟩
    obtain rfl : k = (aP A u).length := by omega
    have hle : nI (aP A u).length ≤ nI (aP A u).length := by rw [le_n (by omega) (by omega)]; exact Nat.le_refl _
    show hm_X8_firstUnheard_2 _ _ _ _ _ = _
    unfold hm_X8_firstUnheard_2
    simp only [ck_t, nn_s, bd_s, lt_t, h.kW hN hu, w7, ls.sz, ls.k, if_pos hle]
    rw [List.drop_eq_nil_of_le (Nat.le_refl _)]
    rfl
  | succ n ih =>
    intro k fuel hk hf
    obtain ⟨fu, rfl⟩ : ∃ fu, fuel = fu + 1 := ⟨fuel - 1, by omega⟩
    have hk' : k < (aP A u).length := by omega
    have hle : ¬ nI (aP A u).length ≤ nI k := by rw [le_n (by omega) (by omega)]; omega
    have ih' := ih (k + 1) fu (by omega) (by omega)
    have e1 : nI k + (1 : Int32) = nI (k + 1) := by rw [q1, nI_add]
    obtain ⟨p, hp1, hp2⟩ := ge_some hk'
    have hpu := wfP hW hu p hp2
    have hpn : p < aN A := by omega
    obtain ⟨p0, -⟩ := h.w hpn
    have eg := ls.gt hk'
    rw [getD_s hp1] at eg
    have hd : (aP A u).drop k = p :: (aP A u).drop (k + 1) := by
      rw [List.drop_eq_getElem_cons hk']
      congr 1
      exact Option.some.inj ((List.getElem?_eq_getElem hk').symm.trans hp1)
    have eh := c_has P (a := hm) (k := p) (by omega) (by omega)
    show hm_X8_firstUnheard_2 _ _ _ _ _ = _
    unfold hm_X8_firstUnheard_2
    simp only [ck_t, nn_s, bd_s, lt_t, h.kW hN hu, w7, ls.sz, ls.k, if_neg hle, eg, h.kW hN hpn, p0, eh, e1]
    rw [hd, List.find?_cons]
    cases hm.testBit p with
    | false => rw [if_pos (show nI false.toNat = 0 from rfl)]; rfl
    | true => rw [if_neg (show ¬ nI true.toNat = 0 by decide)]; exact ih'
theorem find_cong {L : List Nat} {f g : Nat → Bool} (h : ∀ x ∈ L, f x = g x) : L.find? f = L.find? g := by
  induction L with
  | nil => rfl
  | cons a L ih => rw [List.find?_cons, List.find?_cons, h a List.mem_cons_self, ih (fun x hx => h x (List.mem_cons_of_mem _ hx))]
theorem c_fu (hW : WF A) (h : CC t0 ad A P) {v : VV} {R : Nat} (hR : ∀ p, R.testBit p = true → p < aN A) {u : Nat} (hu : u < aN A) (hc : ∀ p ∈ aP A u, R.testBit p = true) : hm_X8_firstUnheard P (ad (50 + u)) (nI (msk (fun i => R.testBit i && hrd A v l i) (aN A))) = some (((aP A u).find? fun p => !hrd A v l p).map (fun p => ad (50 + p)), P) := by
  have hpl := wfPl hW u
  unfold hm_X8_firstUnheard
  rw [lt_t, show (0 : Int32) = nI 0 from rfl, c_ful hW h (msk_lt _ _) hu (aP A u).length 0 4000 (by omega) (by omega), List.drop_zero]
  rw [find_cong (g := fun p => !hrd A v l p) (fun p hp => by rw [msk_t, decide_eq_true (hR p (hc p hp)), hc p hp, Bool.true_and, Bool.true_and])]
theorem c_whyl (hW : WF A) (h : CC t0 ad A P) (hs : SVw A P (ad 5) sh ju B) (hl : l < 2) {R e0 : Nat} (he0 : ¬ e0 = 1) (he4 : e0 < 4) (hR : ∀ p, R.testBit p = true → p < aN A) (hc : ∀ i, i < aN A → R.testBit i = true → ∀ p ∈ aP A i, R.testBit p = true) : ∀ (f u d fuel : Nat), u < aN A → (∀ p ∈ aP A u, R.testBit p = true) → u + d ≤ 13 → u < f → f < fuel → hm_X8_why_72L fuel (ad 0) (nI e0) (nI l) (ad (50 + u)) (nI (msk (fun i => R.testBit i && hrd A (vS A sh ju B) l i) (aN A))) (nI d) P = some (match (aP A u).find? (fun p => !hrd A (vS A sh ju B) l p) with
    | some p => whyF A (vS A sh ju B) l f p 0
    | none => -5, P) := by
  have hN := wfN hW
  obtain ⟨-, -, -, -, f4, -⟩ := h.r
  have ee : ¬ nI e0 = 1 := by rw [q1, ne_n (by omega) (by decide)]; exact he0
  intro f
  induction f with
  | zero => intro u d fuel hu hcu hd hf; omega
  | succ f ih =>
    intro u d fuel hu hcu hd hf hff
    obtain ⟨fu, rfl⟩ : ∃ fu, fuel = fu + 1 := ⟨fuel - 1, by omega⟩
    have hle : ¬ (14 : Int32) ≤ nI d := by rw [q14, le_n (by omega) (by omega)]; omega
    show hm_X8_why_72 _ _ _ _ _ _ _ _ = _
    unfold hm_X8_why_72 hm_X8_why_138
    rw [if_neg hle, if_neg ee, c_fu hW h hR hu hcu, bd_s]
    cases hfd : (aP A u).find? (fun p => !hrd A (vS A sh ju B) l p) with
    | none => rfl
    | some p =>
      have hpm := List.mem_of_find?_eq_some hfd
      have hpu := wfP hW hu p hpm
      have hpn : p < aN A := by omega
      obtain ⟨p0, -⟩ := h.w hpn
      have ek := c_kpr (e := 0) hW h hs hpn (by decide) hl
      have ek' : hm_X8_keeper P (ad 0) (ad (50 + p)) 0 (nI l) (ad 5) = _ := ek
      have hkb : ∀ j, kpr A (vS A sh ju B) p 0 l = some j → j < 2 ^ 31 := kpr_b hW
      have ih' := ih p (d + 1) fu hpn (hc p hpn (hcu p hpm)) (by omega) (by omega) (by omega)
      have e1 : nI d + (1 : Int32) = nI (d + 1) := by rw [q1, nI_add]
      simp only [Option.map_some, nlS, ck_t, nn_s, bd_s, lt_t, h.k0, f4, ek', h.kW hN hpn, p0, e1]
      show _ = some (match kpr A (vS A sh ju B) p 0 l with
        | some r => nI (100 * p + r)
        | none => if 0 = 1 then -5 else (match (aP A p).find? (fun q => !hrd A (vS A sh ju B) l q) with | some q => whyF A (vS A sh ju B) l f q 0 | none => -5), P)
      cases qk : kpr A (vS A sh ju B) p 0 l with
      | none =>
        rw [if_pos (show oI none < 0 by decide), ih']
        rfl
      | some j =>
        have hj := hkb j qk
        rw [if_neg (show ¬ oI (some j) < 0 from nI_pos hj)]
        show some ((100 : Int32) * nI p + nI j, P) = _
        rw [q100, pk_mul, nI_add]
theorem cq_why (hW : WF A) (h : CC t0 ad A P) (a b c : Int32) : hm_X8_why P (ad 0) a b c = some (sWhy A a b c, P) := by
  have hN := wfN hW
  have hsv := c_nowv hW h
  obtain ⟨-, -, -, -, f4, -⟩ := h.r
  unfold hm_X8_why hm_X8_why_20 sWhy
  simp only [ck_t, nn_s, bd_s, lt_t, c_wordAt hW h, h.k0, c_offer, f4]
  cases h1 : ix (aN A) a with
  | none => rfl
  | some w =>
  cases h2 : ix 4 b with
  | none => rfl
  | some e =>
  cases h3 : ix 2 c with
  | none => rfl
  | some l =>
  obtain ⟨hw, rfl⟩ := ix_s (by omega) h1
  obtain ⟨he, rfl⟩ := ix_s (by decide) h2
  obtain ⟨hl, rfl⟩ := ix_s (by decide) h3
  have ek := c_kpr hW h hsv hw he hl
  obtain ⟨-, -, -, -, w6, -⟩ := h.w hw
  have hkb : ∀ j, kpr A (vS A (aSh A) (aJu A) 0) w e l = some j → j < 2 ^ 31 := kpr_b hW
  have n1 : ¬ nI (Option.isSome (some e) && Option.isSome (some l)).toNat = 0 := by show ¬ nI 1 = 0; decide
  have hp := c_hpc hW h hsv hl (mklP_lt hW hw)
  simp only [Option.map_some, nlS, if_neg n1, ck_t, nn_s, bd_s, lt_t, h.k0, f4, ek, h.kW hN hw, w6, c_wp hW h (mklP_lt hW hw), hp]
  show _ = some (match kpr A (v0 A) w e l with
    | some r => nI (100 * w + r)
    | none => if e = 1 then -5 else (match (aP A w).find? (fun q => !hrd A (v0 A) l q) with | some q => whyF A (v0 A) l 14 q 0 | none => -5), P)
  rw [← vS_0]
  cases qk : kpr A (vS A (aSh A) (aJu A) 0) w e l with
  | some j =>
    have hj := hkb j qk
    rw [if_neg (show ¬ oI (some j) < 0 from nI_pos hj)]
    show some ((100 : Int32) * nI w + nI j, P) = _
    rw [q100, pk_mul, nI_add]
  | none =>
    rw [if_pos (show oI none < 0 by decide)]
    by_cases c : e = 1
    · subst c
      rfl
    · simp only [if_neg c]
      exact c_whyl hW h hsv hl c he (fun p hp => of_lt (wpF_lt hW (mklP_lt hW hw)) hp) (fun i hi q p hp => wpF_cl hW (Nat.le_refl _) hi q hp) 14 w 0 4000 hw (fun p hp => wpF_sup (mkl_t.mpr hp)) (by omega) (by omega) (by decide)
-- cut
theorem c_upl (hW : WF A) (h : CC t0 ad A P) {hm : Nat} (hh : hm < 2 ^ aN A) {u : Nat} (hu : u < aN A) : ∀ (n k fuel : Nat), k + n = (aP A u).length → n < fuel → hm_X8_unheardPlaces_4L fuel (ad (50 + u)) (nI hm) (nI (msk (fun k => !hm.testBit ((aP A u).getD k 0)) k)) (nI k) P = some (nI (msk (fun k => !hm.testBit ((aP A u).getD k 0)) (aP A u).length), P) := by
  have hN := wfN hW
  have h14 := pw14 hN hh
  have hpl := wfPl hW u
  obtain ⟨-, -, -, -, -, -, w7, ls⟩ := h.w hu
  intro n
  induction n with
  | zero =>
    intro k fuel hk hf
    obtain ⟨fu, rfl⟩ : ∃ fu, fuel = fu + 1 := ⟨fuel - 1, by omega⟩
    obtain rfl : k = (aP A u).length := by omega
    have hle : nI (aP A u).length ≤ nI (aP A u).length := by rw [le_n (by omega) (by omega)]; exact Nat.le_refl _
    show hm_X8_unheardPlaces_4 _ _ _ _ _ _ = _
    unfold hm_X8_unheardPlaces_4
    simp only [ck_t, nn_s, bd_s, lt_t, h.kW hN hu, w7, ls.sz, ls.k, if_pos hle]
  | succ n ih =>
    intro k fuel hk hf
    obtain ⟨fu, rfl⟩ : ∃ fu, fuel = fu + 1 := ⟨fuel - 1, by omega⟩
    have hk' : k < (aP A u).length := by omega
    have hle : ¬ nI (aP A u).length ≤ nI k := by rw [le_n (by omega) (by omega)]; omega
    have ih' := ih (k + 1) fu (by omega) (by omega)
    have e1 : nI k + (1 : Int32) = nI (k + 1) := by rw [q1, nI_add]
    have e9 : (1 : Int32) <<< (nI k &&& 31) = nI (2 ^ k) := shl_n (by omega)
    have hpu := parts_lt hW hu hk'
    have hpn : (aP A u).getD k 0 < aN A := by omega
    obtain ⟨p0, -⟩ := h.w hpn
    have eh := c_has P (a := hm) (k := (aP A u).getD k 0) (by omega) (by omega)
    show hm_X8_unheardPlaces_4 _ _ _ _ _ _ = _
    unfold hm_X8_unheardPlaces_4 hm_X8_unheardPlaces_42
    simp only [ck_t, nn_s, bd_s, lt_t, h.kW hN hu, w7, ls.sz, ls.k, if_neg hle, ls.gt hk', h.kW hN hpn, p0, eh, e1, e9]
    cases q : hm.testBit ((aP A u).getD k 0) with
    | false =>
      rw [if_pos (show nI false.toNat = 0 from rfl), acc_t (f := fun k => !hm.testBit ((aP A u).getD k 0)) (by rw [q]; rfl)]
      exact ih'
    | true =>
      rw [msk_no (fun k => !hm.testBit ((aP A u).getD k 0)) k (by rw [q]; rfl)] at ih'
      rw [if_neg (show ¬ nI true.toNat = 0 by decide)]
      exact ih'
theorem c_fll (hW : WF A) (h : CC t0 ad A P) {c : Nat} (hc : c < 2 ^ 20) {u : Nat} (hu : u < aN A) : ∀ (n k x fuel : Nat), k + n = (aP A u).length → n < fuel → hm_X7_factsLeft_7L fuel (ad (50 + u)) (nI c) (nI x) (nI k) P = some (nI (lef A c ((aP A u).drop k) k x), P) := by
  have hN := wfN hW
  have hpl := wfPl hW u
  obtain ⟨-, -, -, -, -, -, w7, ls⟩ := h.w hu
  intro n
  induction n with
  | zero =>
    intro k x fuel hk hf
    obtain ⟨fu, rfl⟩ : ∃ fu, fuel = fu + 1 := ⟨fuel - 1, by omega⟩
    obtain rfl : k = (aP A u).length := by omega
    have hle : nI (aP A u).length ≤ nI (aP A u).length := by rw [le_n (by omega) (by omega)]; exact Nat.le_refl _
    show hm_X7_factsLeft_7 _ _ _ _ _ _ = _
    unfold hm_X7_factsLeft_7
    simp only [ck_t, nn_s, bd_s, lt_t, h.kW hN hu, w7, ls.sz, ls.k, if_pos hle]
    rw [List.drop_eq_nil_of_le (Nat.le_refl _)]
    rfl
  | succ n ih =>
    intro k x fuel hk hf
    obtain ⟨fu, rfl⟩ : ∃ fu, fuel = fu + 1 := ⟨fuel - 1, by omega⟩
    have hk' : k < (aP A u).length := by omega
    have hle : ¬ nI (aP A u).length ≤ nI k := by rw [le_n (by omega) (by omega)]; omega
    have e1 : nI k + (1 : Int32) = nI (k + 1) := by rw [q1, nI_add]
    obtain ⟨p, hp1, hp2⟩ := ge_some hk'
    have hpu := wfP hW hu p hp2
    have hpn : p < aN A := by omega
    obtain ⟨-, -, -, p4, -⟩ := h.w hpn
    have eg := ls.gt hk'
    rw [getD_s hp1] at eg
    have hd : (aP A u).drop k = p :: (aP A u).drop (k + 1) := by
      rw [List.drop_eq_getElem_cons hk']
      congr 1
      exact Option.some.inj ((List.getElem?_eq_getElem hk').symm.trans hp1)
    have eh := c_has P (a := c) (k := k) (by omega) (by omega)
    rw [hd]
    show hm_X7_factsLeft_7 _ _ _ _ _ _ = some (nI (lef A c ((aP A u).drop (k + 1)) (k + 1) (if c.testBit k = true then sd x (aF A p) else x)), P)
    unfold hm_X7_factsLeft_7 hm_X7_factsLeft_45
    simp only [ck_t, nn_s, bd_s, lt_t, h.kW hN hu, w7, ls.sz, ls.k, if_neg hle, eg, h.kW hN hpn, p4, eh, e1, sd_n]
    cases c.testBit k with
    | false => rw [if_pos (show nI false.toNat = 0 from rfl), if_neg (by decide)]; exact ih (k + 1) x fu (by omega) (by omega)
    | true => rw [if_neg (show ¬ nI true.toNat = 0 by decide), if_pos rfl]; exact ih (k + 1) _ fu (by omega) (by omega)
theorem cq_cut (hW : WF A) (h : CC t0 ad A P) (a b c d : Int32) : hm_X8_cut P (ad 0) a b c d = some (sCut A a b c d, P) := by
  have hN := wfN hW
  have hsv := c_nowv hW h
  obtain ⟨-, -, -, -, f4, -⟩ := h.r
  unfold hm_X8_cut hm_X8_cut_29 sCut
  simp only [ck_t, nn_s, bd_s, lt_t, c_wordAt hW h, h.k0, c_offer, f4, show (2 : Int32) = nI 2 from rfl, c_within P d (show 2 < 2 ^ 31 by decide)]
  cases h1 : ix (aN A) a with
  | none => rfl
  | some w =>
  cases h2 : ix 4 b with
  | none => rfl
  | some e =>
  cases h3 : ix 2 c with
  | none => rfl
  | some l =>
  cases h4 : ix 2 d with
  | none => rfl
  | some q =>
  obtain ⟨hw, rfl⟩ := ix_s (by omega) h1
  obtain ⟨he, rfl⟩ := ix_s (by decide) h2
  obtain ⟨hl, rfl⟩ := ix_s (by decide) h3
  obtain ⟨hq, rfl⟩ := ix_s (by decide) h4
  have hpl := wfPl hW w
  have ek := c_kpr hW h hsv hw he hl
  obtain ⟨-, -, -, w4, w6, -⟩ := h.w hw
  have hkb : ∀ j, kpr A (vS A (aSh A) (aJu A) 0) w e l = some j → j < 2 ^ 31 := kpr_b hW
  have n1 : ¬ nI (Option.isSome (some e) && Option.isSome (some l)).toNat = 0 := by show ¬ nI 1 = 0; decide
  have n2 : ¬ nI (Option.isSome (some q)).toNat = 0 := by show ¬ nI 1 = 0; decide
  have hp := c_hpc hW h hsv hl (mklP_lt hW hw)
  have hRp : ∀ p ∈ aP A w, (wpF A (aN A) (mkl (aP A w))).testBit p = true := fun p hp => wpF_sup (mkl_t.mpr hp)
  have hup : hm_X8_unheardPlaces P (ad (50 + w)) (nI (msk (fun i => (wpF A (aN A) (mkl (aP A w))).testBit i && hrd A (vS A (aSh A) (aJu A) 0) l i) (aN A))) = some (nI (msk (fun k => !hrd A (vS A (aSh A) (aJu A) 0) l ((aP A w).getD k 0)) (aP A w).length), P) := by
    unfold hm_X8_unheardPlaces
    rw [lt_t, lt_t]
    have := c_upl hW h (hm := msk (fun i => (wpF A (aN A) (mkl (aP A w))).testBit i && hrd A (vS A (aSh A) (aJu A) 0) l i) (aN A)) (msk_lt _ _) hw (aP A w).length 0 4000 (by omega) (by omega)
    refine Eq.trans this ?_
    congr 3
    refine msk_cong (fun i hi => ?_)
    obtain ⟨x, hx1, hx2⟩ := ge_some hi
    have := wfP hW hw x hx2
    rw [getD_s hx1, msk_t, decide_eq_true (show x < aN A by omega), hRp x hx2, Bool.true_and, Bool.true_and]
  have hcl : cts A (v0 A) l w e < 2 ^ 20 := Nat.lt_of_lt_of_le (cts_lt (v := v0 A)) (Nat.pow_le_pow_right (by decide) (by omega))
  have h85 : hm_X8_cut_85 (nI q) (ad (50 + w)) (nI (cts A (v0 A) l w e)) P = some (if q = 0 then nI (cts A (v0 A) l w e) else nI (lef A (cts A (v0 A) l w e) (aP A w) 0 (aF A w)), P) := by
    have eq0 : nI q = 0 ↔ q = 0 := by rw [q0, ne_n (by omega) (by decide)]
    unfold hm_X8_cut_85 hm_X7_factsLeft
    by_cases z : q = 0
    · rw [if_pos (eq0.mpr z), if_pos z]
    · have := c_fll hW h hcl hw (aP A w).length 0 (aF A w) 4000 (by omega) (by omega)
      rw [List.drop_zero] at this
      have this' : hm_X7_factsLeft_7L 4000 (ad (50 + w)) (nI (cts A (v0 A) l w e)) (nI (aF A w)) 0 P = _ := this
      rw [if_neg (fun y => z (eq0.mp y)), if_neg z]
      simp only [ck_t, nn_s, bd_s, lt_t, h.kW hN hw, w4, this']
  simp only [Option.map_some, nlS, if_neg n1, if_neg n2, ck_t, nn_s, bd_s, lt_t, h.k0, f4, ek, h.kW hN hw, w6, c_wp hW h (mklP_lt hW hw), hp, hup]
  rw [← vS_0] at h85 ⊢
  cases qk : kpr A (vS A (aSh A) (aJu A) 0) w e l with
  | some j =>
    have hj := hkb j qk
    rw [if_neg (show ¬ oI (some j) < 0 from nI_pos hj)]
    rfl
  | none =>
    have e1 : nI e = 1 ↔ e = 1 := by rw [q1, ne_n (by omega) (by decide)]
    rw [if_pos (show oI none < 0 by decide), if_neg (show ¬ Option.isSome (none : Option Nat) = true by simp), ← h85]
    unfold cts
    by_cases c : e = 1
    · rw [if_pos (e1.mpr c), if_pos c]
      rfl
    · rw [if_neg (fun z => c (e1.mp z)), if_neg c]
end PCQ3
