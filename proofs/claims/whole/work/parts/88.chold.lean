section PCHD
variable {t0 : TS} {ad ad' : DD} {A A' : AA} {P P' : PS} {w : Nat}
theorem c_room (hW : WF A) (h : CC t0 ad A P) (hw : w < aN A) : hm_X7_mayHold P (ad (50 + w)) = some (nI (room (aK A w)), P) := by
  have hK := wfK hW hw
  have e := fun c : Nat => fun hc : c < 8 => (show (nI (aK A w) = nI c) = (aK A w = c) from ne_n (by omega) (by omega))
  unfold hm_X7_mayHold hm_X7_mayHold_27 room
  rw [h.kW (wfN hW) hw, ck_t, (h.w hw).2.1]
  by_cases c6 : aK A w = 6
  · rw [if_pos (show nI (aK A w) = 6 by rw [c6]; rfl), if_pos c6]
    rfl
  · rw [if_neg (show ¬ nI (aK A w) = 6 from fun z => c6 ((e 6 (by decide)).mp z)), if_neg c6]
    by_cases c2 : aK A w = 2
    · rw [if_pos (show nI (aK A w) = 2 by rw [c2]; rfl), if_pos (Or.inl c2)]
      rfl
    · rw [if_neg (show ¬ nI (aK A w) = 2 from fun z => c2 ((e 2 (by decide)).mp z))]
      by_cases c5 : aK A w = 5
      · rw [if_pos (show nI (aK A w) = 5 by rw [c5]; rfl), if_pos (Or.inr c5)]
        rfl
      · rw [if_neg (show ¬ nI (aK A w) = 5 from fun z => c5 ((e 5 (by decide)).mp z)), if_neg (fun z => z.elim c2 c5)]
        rfl
theorem getD_l {L : List Nat} {p k : Nat} (hk : k < L.length) : (L ++ [p]).getD k 0 = L.getD k 0 := by
  rw [List.getD_eq_getElem?_getD, List.getD_eq_getElem?_getD, List.getElem?_append_left hk]
theorem getD_z {L : List Nat} {p : Nat} : (L ++ [p]).getD L.length 0 = p := by
  rw [List.getD_eq_getElem?_getD, List.getElem?_append_right (Nat.le_refl _), Nat.sub_self]
  rfl
def adB (ad : DD) (q b : Nat) : DD := fun i => if i = q then b else ad i
theorem cu_hold (hW : WF A) (h : CC t0 ad A P) (a b : Int32) : ∃ ad' P', hm_X8_hold t0 P (ad 0) a b = some ((sHold A a b).1, P') ∧ CC t0 ad' (sHold A a b).2 P' ∧ ad' 0 = ad 0 := by
  have hN := wfN hW
  unfold hm_X8_hold hm_X8_hold_22 sHold
  simp only [ck_t, nn_s, bd_s, lt_t, c_wordAt hW h, h.k0]
  cases h1 : ix (aN A) a with
  | none => exact ⟨ad, P, rfl, h, rfl⟩
  | some w =>
  cases h2 : ix (aN A) b with
  | none => exact ⟨ad, P, rfl, h, rfl⟩
  | some p =>
  obtain ⟨hw, rfl⟩ := ix_s (by omega) h1
  obtain ⟨hp, rfl⟩ := ix_s (by omega) h2
  have kw := h.kW hN hw
  have hpl := wfPl hW w
  have hml := mklP_lt hW hw
  have h14 := pw14 hN hml
  obtain ⟨w0, w1, w2, w4, w6, w3, w5, ls⟩ := h.w hw
  have hrb : room (aK A w) ≤ 4 := by unfold room; (repeat' split) <;> omega
  have hroom := wfRm hW hw
  have ehas := c_has P (a := mkl (aP A w)) (k := p) (by omega) (by omega)
  simp only [Option.map_some, nlS]
  by_cases c : w ≤ p
  · have : ¬ nI p < nI w := by rw [lt_n (by omega) (by omega)]; omega
    rw [if_neg this]
    simp only [if_pos c]
    exact ⟨ad, P, rfl, h, rfl⟩
  have hlt : nI p < nI w := by rw [lt_n (by omega) (by omega)]; omega
  rw [if_pos hlt]
  simp only [if_neg c, c_room hW h hw, ck_t, nn_s, bd_s, lt_t, kw, w6, ehas]
  by_cases c0 : room (aK A w) = 0
  · rw [if_pos (show nI (room (aK A w)) = 0 by rw [c0]; rfl)]
    simp only [if_pos c0]
    exact ⟨ad, P, rfl, h, rfl⟩
  rw [if_neg (show ¬ nI (room (aK A w)) = 0 by rw [q0, ne_n (by omega) (by decide)]; exact c0)]
  simp only [if_neg c0]
  by_cases ci : p ∈ aP A w
  · rw [mkl_t.mpr ci, if_neg (show ¬ nI true.toNat = 0 by decide)]
    simp only [if_pos ci]
    exact ⟨ad, P, rfl, h, rfl⟩
  have cif : (mkl (aP A w)).testBit p = false := Bool.eq_false_iff.mpr (fun z => ci (mkl_t.mp z))
  rw [cif, if_pos (show nI false.toNat = 0 from rfl)]
  simp only [if_neg ci, w5, ck_t, nn_s, bd_s, lt_t, ls.sz, ls.k, c_room hW h hw, kw]
  by_cases cr : (aP A w).length = room (aK A w)
  · rw [if_neg (show ¬ nI (aP A w).length < nI (room (aK A w)) by rw [lt_n (by omega) (by omega)]; omega)]
    simp only [if_pos cr]
    exact ⟨ad, P, rfl, h, rfl⟩
  rw [if_pos (show nI (aP A w).length < nI (room (aK A w)) by rw [lt_n (by omega) (by omega)]; omega)]
  simp only [if_neg cr]
  have hz := h.z
  have b90 : bk A (90 + w) := bk_w hw
  have l50 := lv_w hw
  obtain ⟨P3, b', e3, g3, ls3⟩ := c_addL (f' := fun k => ad (50 + (aP A w ++ [p]).getD k 0)) (x := ad (50 + p)) ls hz (by unfold isO; rw [h.kW hN hp]; rfl) (by omega) (fun j hj => by unfold isO; rw [h.kW hN (show (aP A w).getD j 0 < aN A by have := parts_lt hW hw hj; omega)]; rfl) (fun j hj => by rw [getD_l hj]) (by rw [getD_z])
  have hne : ad (50 + w) ≠ ad (70 + w) := h.ne l50.1 l50.2 (by omega)
  have lt50 := (h.lz l50.1).1
  have e9 : (1 : Int32) <<< (nI p &&& 31) = nI (2 ^ p) := shl_n (by omega)
  have s3 : SAM t0 (pZ P) (fun a => a = ad (50 + w) ∨ a = ad (70 + w)) (fun a => a = ad (70 + w) ∨ (a = ad (90 + w) ∧ ad (90 + w) ≠ t0.1)) P P3 := g3.sam (Nat.le_refl _) (Or.inr rfl) (Or.inl rfl) (fun x _ => Or.inr ⟨rfl, x⟩)
  have hz3 := s3.2.2.2.2.2.2
  have s4 : SAM t0 (pZ P) (fun a => a = ad (50 + w) ∨ a = ad (70 + w)) (fun a => a = ad (70 + w) ∨ (a = ad (90 + w) ∧ ad (90 + w) ≠ t0.1)) P3 (pIu P3 (ad (50 + w)) 6 (nI (mkl (aP A w) ||| 2 ^ p))) := SAM.I hz3 (fun _ => Or.inl rfl)
  have sAll := s3.tr s4
  have kw3 : kk P3 (ad (50 + w)) 8 = true := s3.2.2.2.2.1 _ _ kw
  have v3 : pI P3 (ad (50 + w)) = pI P (ad (50 + w)) := g3.2.2.2.2.2.2.1 _ hne lt50
  have r3 : pR P3 (ad (50 + w)) = pR P (ad (50 + w)) := g3.2.2.2.2.2.2.2.1 _ hne (Or.inl (Ne.symm (h.lb l50.1 b90))) lt50
  have ls4 : LSt t0 (pIu P3 (ad (50 + w)) 6 (nI (mkl (aP A w) ||| 2 ^ p))) (ad (70 + w)) b' ((aP A w).length + 1) (fun k => ad (50 + (aP A w ++ [p]).getD k 0)) := by
    obtain ⟨⟨y1, y2, y3, y4, y5⟩, y6⟩ := ls3
    exact ⟨⟨y1, y2, by rw [pIu_ne (Ne.symm hne)]; exact y3, y4, y5⟩, y6⟩
  have z90 : 90 + w ≠ 0 := by omega
  refine ⟨adB ad (90 + w) b', pIu P3 (ad (50 + w)) 6 (nI (mkl (aP A w) ||| 2 ^ p)), ?_, ?_, if_neg (Ne.symm z90)⟩
  · have v3' : pI P3 (ad (50 + w)) 6 = nI (mkl (aP A w)) := by rw [v3]; exact w6
    have r3' : pR P3 (ad (50 + w)) 5 = some (ad (70 + w)) := by rw [r3]; exact w5
    simp only [e3, ck_t, nn_s, bd_s, lt_t, kw3, v3', e9, or_n, pIu_R, r3', ls4.sz, ls4.k, ls.k]
  have had : ∀ i, i ≠ 90 + w → adB ad (90 + w) b' i = ad i := fun i x => if_neg x
  have a90 : adB ad (90 + w) b' (90 + w) = b' := if_pos rfl
  have hadl : ∀ i, lv A i → adB ad (90 + w) b' i = ad i := fun i hi => by
    have := lvx hi
    exact had i (by omega)
  have F : FRM ad (adB ad (90 + w) b') A P (pIu P3 (ad (50 + w)) 6 (nI (mkl (aP A w) ||| 2 ^ p))) (fun i => i = 50 + w ∨ i = 70 + w) (fun i => i = 70 + w ∨ i = 90 + w) := by
    refine sAll.frm h hadl (fun j hj hn' => had j (fun z => hn' (Or.inr z))) (fun i hi x => ?_) (fun i hi x => ?_)
    · rcases x with x | x
      · exact Or.inl (Classical.byContradiction (fun q => h.ne hi l50.1 q x))
      · exact Or.inr (Classical.byContradiction (fun q => h.ne hi l50.2 q x))
    · rcases x with x | ⟨x, y⟩
      · rcases hi with hi | hi
        · exact Or.inl (Classical.byContradiction (fun q => h.ne hi l50.2 q x))
        · exact absurd x (h.lb l50.2 hi)
      · rcases hi with hi | hi
        · exact absurd x.symm (h.lb hi b90)
        · exact Or.inr (Classical.byContradiction (fun q => h.bb b90 hi (Ne.symm q) y x))
  have cext : CKI t0 (adB ad (90 + w) b') (uW A (aN A, aK A, aB A, aF A, va_up (aP A) w (aP A w ++ [p]))) (pIu P3 (ad (50 + w)) 6 (nI (mkl (aP A w) ||| 2 ^ p))) := by
    refine h.ext sAll.2.2.2.2.1 (fun i hi => Or.inl ⟨hi, hadl i hi⟩) (fun i j hi hj x y => ?_) (fun j hj => ?_) (fun i j hi hj x y => ?_)
    · rw [hadl i hi] at x
      have := (h.lz hi).1
      omega
    · by_cases q : j = 90 + w
      · subst q
        rw [a90]
        rcases g3.2.2.2.1 with z | z
        · exact Or.inl ⟨b90, z⟩
        · exact Or.inr (Or.inl (by omega))
      · exact Or.inl ⟨hj, had j q⟩
    · have key : ∀ j, bk A j → pZ P ≤ adB ad (90 + w) b' j → j = 90 + w := fun j hj x => Classical.byContradiction (fun q => by
        rw [had j q] at x
        have := h.bz hj
        omega)
      rw [key i hi x, key j hj (y ▸ x)]
  refine ⟨h.1.fM F (fun i x1 x2 x3 z => by omega), h.2.1.fM F (fun q hq => by omega), ⟨h.ws.fM F (lv_i (by decide)) (Or.inl rfl) (by omega) (by omega) (by omega) (fun j hj => hadl _ (lv_w hj).1), fun v hv => ?_⟩, ⟨h.rs.fM F (lv_i (by decide)) (Or.inr (Or.inl rfl)) (by omega) (by omega) (by omega) (fun j hj => hadl _ (lv_r hj).1), fun r hr => (h.ru hr).fM hW F hr (fun i hi => ⟨by omega, by omega⟩)⟩, h.2.2.2.2.1.fM F (by omega) (by omega), h.now.fM F (by omega), h.2.2.2.2.2.2.1.fM F (fun t ht => by omega), h.2.2.2.2.2.2.2.1.fM F (by omega) (by omega), h.2.2.2.2.2.2.2.2.1.fM F (by omega) (by omega) (by omega), cext, sAll.2.2.2.2.2.2⟩
  have hv' : v < aN A := hv
  by_cases cv : v = w
  · subst cv
    have hPv : aP (uW A (aN A, aK A, aB A, aF A, va_up (aP A) v (aP A v ++ [p]))) v = aP A v ++ [p] := va_up_self _ _ _
    unfold CW
    rw [hPv, hadl _ l50.1, hadl _ l50.2, a90, pIu_R, r3, pIu_eq, v3, mkl_app]
    refine ⟨w0, w1, w2, w4, rfl, ?_, w5, ?_⟩
    · show _ = some (adB ad (90 + v) b' (20 + aB A v))
      rw [hadl _ (lv_p (wfB hW hw))]
      exact w3
    · rw [List.length_append]
      refine ⟨ls4.1, fun k hk => ?_⟩
      rw [ls4.2 k hk]
      have : (aP A v ++ [p]).getD k 0 < aN A := by
        rcases Nat.lt_or_ge k (aP A v).length with z | z
        · rw [getD_l z]
          have := parts_lt hW hw z
          omega
        · have : k = (aP A v).length := by simp at hk; omega
          rw [this, getD_z]
          exact hp
      exact congrArg some (hadl _ (lv_w this).1).symm
  · refine CW.cong (A := A) rfl rfl rfl ?_ ((h.w hv').fM hW F hv' (by omega) (by omega) (by omega) (by omega) (by omega))
    exact va_up_ne _ _ cv
end PCHD
