-- the class: rule
section PCR7
variable {t0 : TS} {ad ad' : DD} {A A' : AA} {P P' : PS} {z n : Nat}
theorem CC.rd (hW : WF A) (h : CC t0 ad A P) : RDR P (ad 4) (ad 11) (ad 12) (aTx A) := by
  obtain ⟨-, -, -, -, -, r4, r5, -, -, n11, n12, -⟩ := h.1
  obtain ⟨x1, x2⟩ := h.2.2.2.2.1
  exact ⟨h.k4, h.k11, h.k12, r4, r5, n11, n12, x1, x2, h.ne (lv_i (by decide)) (lv_i (by decide)) (by decide), h.ne (lv_i (by decide)) (lv_i (by decide)) (by decide), h.ne (lv_i (by decide)) (lv_i (by decide)) (by decide), hW.2.2.2.2.2.1, hW.2.2.2.2.2.2.1⟩
theorem CRu.cong {r : Nat} (hL : aL A' r = aL A r) (hC : aC A' r = aC A r) (h : CRu t0 ad A P r) : CRu t0 ad A' P r := by
  unfold CRu at *
  rw [hL, hC]
  exact h
theorem c_noRule (hW : WF A) (h : CC t0 ad A P) (s : SAM t0 (pZ P) (fun a => a = ad 4 ∨ a = ad 12) (fun _ => False) P P') : CC t0 ad (uT A []) (pIu P' (ad 4) 2 0) := by
  have l4 : lv A 4 := lv_i (by decide)
  have l12 : lv A 12 := lv_i (by decide)
  have s5 : SAM t0 (pZ P) (fun a => a = ad 4 ∨ a = ad 12) (fun _ => False) P (pIu P' (ad 4) 2 0) := s.aI (fun _ => Or.inl rfl)
  have F : FRM ad ad A P (pIu P' (ad 4) 2 0) (fun i => i = 4 ∨ i = 12) (fun _ => False) := by
    refine s5.frm h (fun _ _ => rfl) (fun _ _ _ => rfl) (fun i hi x => ?_) (fun i hi x => x)
    rcases x with x | x
    · exact Or.inl (Classical.byContradiction (fun q => h.ne hi l4 q x))
    · exact Or.inr (Classical.byContradiction (fun q => h.ne hi l12 q x))
  have cext : CKI t0 ad (uT A []) (pIu P' (ad 4) 2 0) := by
    refine ⟨fun i hi => s5.kp (h.k hi), h.2.2.2.2.2.2.2.2.2.1.2⟩
  refine ⟨h.1.fM F (fun i x1 x2 x3 z => z), h.2.1.fM F (fun q hq => by omega), ⟨h.ws.fM F (lv_i (by decide)) (Or.inl rfl) (by omega) id id (fun j hj => rfl), fun v hv => (h.w hv).fM hW F hv (by omega) id (by omega) id id⟩, ⟨h.rs.fM F (lv_i (by decide)) (Or.inr (Or.inl rfl)) (by omega) id id (fun j hj => rfl), fun r hr => (h.ru hr).fM hW F hr (fun i hi => ⟨by omega, id⟩)⟩, ⟨?_, fun i c hc => by cases hc⟩, h.now.fM F (by omega), h.2.2.2.2.2.2.1.fM F (fun t ht => by omega), h.2.2.2.2.2.2.2.1.fM F (by omega) (by omega), h.2.2.2.2.2.2.2.2.1.fM F (by omega) id id, cext, s5.cz⟩
  rw [pIu_eq]
  rfl
def adR (ad : DD) (n z b : Nat) : DD := fun i => if i = 15 then b else if i = 110 + n then z else if i = 120 + n then z + 1 else if i = 130 + n then z + 4 else if 200 + 6 * n ≤ i ∧ i < 206 + 6 * n then fcC z (i - (200 + 6 * n)) else if 300 + 6 * n ≤ i ∧ i < 306 + 6 * n then fcC z (i - (300 + 6 * n)) + 1 else ad i
theorem adR_c {b k : Nat} (hk : k < 6) (hn : n ≤ 9) : adR ad n z b (200 + 6 * n + k) = fcC z k ∧ adR ad n z b (300 + 6 * n + k) = fcC z k + 1 := by
  unfold adR
  refine ⟨?_, ?_⟩
  · rw [if_neg (by omega), if_neg (by omega), if_neg (by omega), if_neg (by omega), if_pos (by omega), show 200 + 6 * n + k - (200 + 6 * n) = k by omega]
  · rw [if_neg (by omega), if_neg (by omega), if_neg (by omega), if_neg (by omega), if_neg (by omega), if_pos (by omega), show 300 + 6 * n + k - (300 + 6 * n) = k by omega]
theorem adR_o {b i : Nat} (h1 : i ≠ 15) (h2 : i ≠ 110 + n) (h3 : i ≠ 120 + n) (h4 : i ≠ 130 + n) (h5 : ¬ (200 + 6 * n ≤ i ∧ i < 206 + 6 * n)) (h6 : ¬ (300 + 6 * n ≤ i ∧ i < 306 + 6 * n)) : adR ad n z b i = ad i := by
  unfold adR
  rw [if_neg h1, if_neg h2, if_neg h3, if_neg h4, if_neg h5, if_neg h6]
theorem adR_s {b : Nat} : adR ad n z b 15 = b ∧ adR ad n z b (110 + n) = z ∧ adR ad n z b (120 + n) = z + 1 ∧ adR ad n z b (130 + n) = z + 4 := by
  unfold adR
  refine ⟨if_pos rfl, ?_, ?_, ?_⟩
  · rw [if_neg (by omega), if_pos rfl]
  · rw [if_neg (by omega), if_neg (by omega), if_pos rfl]
  · rw [if_neg (by omega), if_neg (by omega), if_neg (by omega), if_pos rfl]
theorem adR_l (hW : WF A) (hn : aR A = n) (hn9 : n ≤ 9) {b i : Nat} (hi : lv A i) : adR ad n z b i = ad i := by
  have hN := wfN hW
  have key : i ≠ 15 ∧ i ≠ 110 + n ∧ i ≠ 120 + n ∧ i ≠ 130 + n ∧ ¬ (200 + 6 * n ≤ i ∧ i < 206 + 6 * n) ∧ ¬ (300 + 6 * n ≤ i ∧ i < 306 + 6 * n) := by
    rcases hi with h | h | h | h | h | h | h | h | ⟨r, k, h1, h2, h3⟩
    · omega
    · omega
    · omega
    · omega
    · omega
    · omega
    · omega
    · omega
    · have := wfCl hW h1
      omega
  exact adR_o key.1 key.2.1 key.2.2.1 key.2.2.2.1 key.2.2.2.2.1 key.2.2.2.2.2
theorem cu_rule (hW : WF A) (h : CC t0 ad A P) (a : Int32) : ∃ ad' P', hm_X8_rule t0 P (ad 0) a = some ((sRule A a).1, P') ∧ CC t0 ad' (sRule A a).2 P' ∧ ad' 0 = ad 0 := by
  have hR := wfR hW
  have hN := wfN hW
  obtain ⟨-, -, f2, f3, -⟩ := h.r
  have ls := h.rs
  have hz := h.z
  unfold hm_X8_rule sRule
  rw [show (2 : Int32) = nI 2 from rfl, c_within P a (by decide), bd_s]
  cases h2 : ix 2 a with
  | none => exact ⟨ad, P, rfl, h, rfl⟩
  | some l =>
  obtain ⟨hl, rfl⟩ := ix_s (by decide) h2
  rw [if_neg (isome_n rfl), h.k0, ck_t, f2, nn_s, ls.sz, bd_s, ls.k, ck_t]
  simp only
  by_cases c10 : aR A = 10
  · rw [if_neg (show ¬ nI (aR A) < 10 by rw [c10]; decide), if_pos c10]
    exact ⟨ad, P, rfl, h, rfl⟩
  rw [if_pos (show nI (aR A) < 10 by rw [q10, lt_n (by omega) (by decide)]; omega), if_neg c10, h.k0, ck_t, f3, nn_s]
  obtain ⟨P3, ro, e3, s3, h3, hx⟩ := c_rRu (t0 := t0) (nu := aR A) (l := l) (h.rd hW) hz
  rw [e3, bd_s, h.k4, ck_t]
  have l0 := h.lz (lv_i (i := 0) (by decide))
  have l3 := h.lz (lv_i (i := 3) (by decide))
  have l4 := h.lz (lv_i (i := 4) (by decide))
  have r0 : pR P3 (ad 0) = pR P (ad 0) := s3.2.1 _ l0.1 id
  have k03 : kk P3 (ad 0) 9 = true := s3.kp h.k0
  have k43 : kk P3 (ad 4) 4 = true := s3.kp h.k4
  have k45 : kk (pIu P3 (ad 4) 2 0) (ad 4) 4 = true := k43
  have r05 : pR (pIu P3 (ad 4) 2 0) (ad 0) = pR P (ad 0) := r0
  rw [k03, ck_t, r0, f3, nn_s, k43, ck_t, lt_t, r05, f3, f2]
  cases hr : rdR (aTx A) 6 0 [] with
  | mk qq x =>
    rw [hr] at hx
    cases x with
    | none =>
      obtain ⟨hro, h33⟩ := hx
      subst hro
      refine ⟨ad, pIu P3 (ad 4) 2 0, ?_, c_noRule hW h s3, rfl⟩
      have : pI (pIu P3 (ad 4) 2 0) (ad 4) 3 = nI qq := by rw [pIu_eq, upd, if_neg (by decide)]; exact h33
      rw [nlN, nn_s, k45, ck_t, this]
    | some cs =>
      obtain ⟨hro, hU, h36⟩ := hx
      subst hro
      obtain ⟨hok, hcs1, hcs6⟩ := rdR_s hW.2.2.2.2.2.1 hr (Nat.zero_le _) (fun k hk => by cases hk)
      have hcs1' : 1 ≤ cs.length := hcs1
      have hcs6' : cs.length ≤ 6 := by have : ([] : List (Nat × Nat × List Nat)).length + 6 = 6 := rfl; omega
      generalize hn : aR A = n at *
      generalize hzz : pZ P = z at *
      obtain ⟨u1, u2, u3, u4, u5, u6, u7, u8, u9, u10⟩ := hU
      have z3 : pZ P3 = z + 3 + 2 * cs.length := by rw [u9]; unfold zpC; rw [if_neg (by omega)]
      -- the list of rules takes it
      have b15 : bk A 15 := Or.inr (Or.inl rfl)
      have l15 := h.bz b15
      rw [hzz] at l15
      have l12 := (h.lz (lv_i (i := 12) (by decide))).1
      rw [hzz] at l12
      have n43 : ad 3 ≠ ad 4 := h.ne (lv_i (by decide)) (lv_i (by decide)) (by decide)
      have n123 : ad 3 ≠ ad 12 := h.ne (lv_i (by decide)) (lv_i (by decide)) (by decide)
      have s5 : SAM t0 z (fun a => a = ad 4 ∨ a = ad 12) (fun _ => False) P (pIu P3 (ad 4) 2 0) := s3.aI (fun _ => Or.inl rfl)
      have z5 : pZ (pIu P3 (ad 4) 2 0) = z + 3 + 2 * cs.length := z3
      have i5 : ∀ a, a ≠ ad 4 → pI (pIu P3 (ad 4) 2 0) a = pI P3 a := fun a ha => pIu_ne ha
      have i54 : pI (pIu P3 (ad 4) 2 0) (ad 4) 2 = 0 := by rw [pIu_eq]; rfl
      have R5 : pR (pIu P3 (ad 4) 2 0) = pR P3 := pIu_R
      have N5 : pN (pIu P3 (ad 4) 2 0) = pN P3 := pIu_N
      have kk5 : ∀ a c, kk (pIu P3 (ad 4) 2 0) a c = kk P3 a c := fun _ _ => kkI
      rw [nlS, nn_s]
      generalize pIu P3 (ad 4) 2 0 = P5 at *
      have ls5 : LSt t0 P5 (ad 3) (ad 15) n (fun r => ad (110 + r)) := ls.sam s5 l3.1 l15 (fun w => w.elim n43 n123) id id
      obtain ⟨P6, b', e6, g6, ls6⟩ := c_addL (f' := fun r => if r = n then z else ad (110 + r)) (x := z) ls5 s5.cz (by unfold isO; rw [kk5 z 5, u1, Bool.or_true, Bool.true_or]) (by omega) (fun j hj => by unfold isO; rw [s5.kp (h.kR (by omega) (r := j) (by omega)), Bool.or_true, Bool.true_or]) (fun j hj => if_neg (by omega)) (if_pos rfl)
      rw [e6, bd_s, kk5, s3.kp h.k3, ck_t]
      have s6 : SAM t0 z (fun a => a = ad 4 ∨ a = ad 12 ∨ a = ad 3) (fun a => a = ad 3 ∨ (a = ad 15 ∧ ad 15 ≠ t0.1)) P5 P6 := g6.sam (by omega) (Or.inr (Or.inr rfl)) (Or.inl rfl) (fun x _ => Or.inr ⟨rfl, x⟩)
      have s5' : SAM t0 z (fun a => a = ad 4 ∨ a = ad 12 ∨ a = ad 3) (fun a => a = ad 3 ∨ (a = ad 15 ∧ ad 15 ≠ t0.1)) P P5 := ⟨fun a x w => s5.1 a x (fun y => w (y.elim Or.inl (fun y => Or.inr (Or.inl y)))), fun a x _ => s5.2.1 a x id, s5.2.2⟩
      have sAll := s5'.tr s6
      obtain ⟨a15, a110, a120, a130⟩ := adR_s (ad := ad) (n := n) (z := z) (b := b')
      have hadl : ∀ i, lv A i → adR ad n z b' i = ad i := fun i hi => adR_l hW hn (by omega) hi
      have hadb : ∀ j, bk A j → j ≠ 15 → adR ad n z b' j = ad j := fun j hj hj5 => by
        have : j = 14 ∨ j = 15 ∨ j = 16 ∨ (90 ≤ j ∧ j < 90 + aN A) ∨ (130 ≤ j ∧ j < 130 + aR A) := hj
        exact adR_o hj5 (by omega) (by omega) (by omega) (by omega) (by omega)
      have lv3 : lv A 3 := lv_i (by decide)
      have lv4 : lv A 4 := lv_i (by decide)
      have lv12 : lv A 12 := lv_i (by decide)
      have sAll' : SAM t0 (pZ P) (fun a => a = ad 4 ∨ a = ad 12 ∨ a = ad 3) (fun a => a = ad 3 ∨ (a = ad 15 ∧ ad 15 ≠ t0.1)) P P6 := by rw [hzz]; exact sAll
      have F : FRM ad (adR ad n z b') A P P6 (fun i => i = 3 ∨ i = 4 ∨ i = 12) (fun i => i = 3 ∨ i = 15) := by
        refine sAll'.frm h hadl (fun j hj hn' => hadb j hj (fun w => hn' (Or.inr w))) (fun i hi x => ?_) (fun i hi x => ?_)
        · rcases x with x | x | x
          · exact Or.inr (Or.inl (Classical.byContradiction (fun q => h.ne hi lv4 q x)))
          · exact Or.inr (Or.inr (Classical.byContradiction (fun q => h.ne hi lv12 q x)))
          · exact Or.inl (Classical.byContradiction (fun q => h.ne hi lv3 q x))
        · rcases x with x | ⟨x, y⟩
          · rcases hi with hi | hi
            · exact Or.inl (Classical.byContradiction (fun q => h.ne hi lv3 q x))
            · exact absurd x (h.lb lv3 hi)
          · rcases hi with hi | hi
            · exact absurd x.symm (h.lb hi b15)
            · exact Or.inr (Classical.byContradiction (fun q => h.bb b15 hi (Ne.symm q) y x))
      -- the new cells
      have fci : ∀ k, k < cs.length → z + 2 ≤ fcC z k ∧ fcC z k + 1 < z + 3 + 2 * cs.length := fun k hk => by
        unfold fcC
        split <;> omega
      have nI6 : ∀ a, z ≤ a → a < z + 3 + 2 * cs.length → pI P6 a = pI P3 a := fun a x y => by
        rw [g6.2.2.2.2.2.2.1 a (by omega) (by omega), i5 a (by omega)]
      have nR6 : ∀ a, z ≤ a → a < z + 3 + 2 * cs.length → pR P6 a = pR P3 a := fun a x y => by
        rw [g6.2.2.2.2.2.2.2.1 a (by omega) (Or.inl (by omega)) (by omega), R5]
      have nN6 : ∀ a, a < z + 3 + 2 * cs.length → pN P6 a = pN P3 a := fun a y => by
        rw [g6.2.2.2.2.2.2.2.2.2.1 a (by omega), N5]
      have k6 : ∀ a c, kk P3 a c = true → kk P6 a c = true := fun a c w => s6.kp ((kk5 a c).trans w)
      have hC' : aC (uT (uR A (n + 1, va_up (aL A) n l, va_up (aC A) n cs)) []) n = cs := va_up_self _ _ _
      have hb' : b' = ad 15 ∨ z ≤ b' := by
        rcases g6.2.2.2.1 with w | w
        · exact Or.inl w
        · exact Or.inr (by omega)
      -- the codes that live
      have hlv : ∀ i, lv (uT (uR A (n + 1, va_up (aL A) n l, va_up (aC A) n cs)) []) i → (lv A i ∧ adR ad n z b' i = ad i) ∨ (i = 110 + n ∧ adR ad n z b' i = z) ∨ (i = 120 + n ∧ adR ad n z b' i = z + 1) ∨ ∃ k, k < cs.length ∧ ((i = 200 + 6 * n + k ∧ adR ad n z b' i = fcC z k) ∨ (i = 300 + 6 * n + k ∧ adR ad n z b' i = fcC z k + 1)) := by
        intro i hi
        have old : lv A i → (lv A i ∧ adR ad n z b' i = ad i) := fun w => ⟨w, hadl i w⟩
        have hi' : i ≤ 13 ∨ (20 ≤ i ∧ i < 28) ∨ (30 ≤ i ∧ i < 36) ∨ (40 ≤ i ∧ i < 46) ∨ (50 ≤ i ∧ i < 50 + aN A) ∨ (70 ≤ i ∧ i < 70 + aN A) ∨ (110 ≤ i ∧ i < 110 + (n + 1)) ∨ (120 ≤ i ∧ i < 120 + (n + 1)) ∨ ∃ r k, r < n + 1 ∧ k < (va_up (aC A) n cs r).length ∧ (i = 200 + 6 * r + k ∨ i = 300 + 6 * r + k) := hi
        rcases hi' with w | w | w | w | w | w | w | w | ⟨r, k, w1, w2, w3⟩
        · exact Or.inl (old (Or.inl w))
        · exact Or.inl (old (Or.inr (Or.inl w)))
        · exact Or.inl (old (Or.inr (Or.inr (Or.inl w))))
        · exact Or.inl (old (Or.inr (Or.inr (Or.inr (Or.inl w)))))
        · exact Or.inl (old (Or.inr (Or.inr (Or.inr (Or.inr (Or.inl w))))))
        · exact Or.inl (old (Or.inr (Or.inr (Or.inr (Or.inr (Or.inr (Or.inl w)))))))
        · by_cases c : i = 110 + n
          · exact Or.inr (Or.inl ⟨c, by rw [c]; exact a110⟩)
          · exact Or.inl (old (Or.inr (Or.inr (Or.inr (Or.inr (Or.inr (Or.inr (Or.inl ⟨w.1, by omega⟩))))))))
        · by_cases c : i = 120 + n
          · exact Or.inr (Or.inr (Or.inl ⟨c, by rw [c]; exact a120⟩))
          · exact Or.inl (old (Or.inr (Or.inr (Or.inr (Or.inr (Or.inr (Or.inr (Or.inr (Or.inl ⟨w.1, by omega⟩)))))))))
        · by_cases c : r = n
          · subst c
            rw [va_up_self] at w2
            obtain ⟨c1, c2⟩ := adR_c (ad := ad) (z := z) (b := b') (n := r) (k := k) (by omega) (by omega)
            refine Or.inr (Or.inr (Or.inr ⟨k, w2, ?_⟩))
            rcases w3 with w3 | w3
            · exact Or.inl ⟨w3, by rw [w3]; exact c1⟩
            · exact Or.inr ⟨w3, by rw [w3]; exact c2⟩
          · rw [va_up_ne _ _ c] at w2
            exact Or.inl (old (Or.inr (Or.inr (Or.inr (Or.inr (Or.inr (Or.inr (Or.inr (Or.inr ⟨r, k, by omega, w2, w3⟩)))))))))
      have cext : CKI t0 (adR ad n z b') (uT (uR A (n + 1, va_up (aL A) n l, va_up (aC A) n cs)) []) P6 := by
        refine h.ext sAll.2.2.2.2.1 (fun i hi => ?_) (fun i j hi hj x y => ?_) (fun j hj => ?_) (fun i j hi hj x y => ?_)
        · rw [hzz]
          rcases hlv i hi with w | ⟨w, w2⟩ | ⟨w, w2⟩ | ⟨k, hk, ⟨w, w2⟩ | ⟨w, w2⟩⟩
          · exact Or.inl w
          · rw [w2, w, (kd_r n (by omega)).1]
            exact Or.inr ⟨Nat.le_refl _, k6 _ _ u1⟩
          · rw [w2, w, (kd_r n (by omega)).2]
            exact Or.inr ⟨by omega, k6 _ _ u8.1.1⟩
          · obtain ⟨c1, -⟩ := u10 k _ (List.getElem?_eq_getElem hk)
            have := (fci k hk).1
            rw [w2, w, Nat.add_assoc, (kd_c (6 * n + k) (by omega)).1]
            exact Or.inr ⟨by omega, k6 _ _ c1⟩
          · obtain ⟨-, c1, -⟩ := u10 k _ (List.getElem?_eq_getElem hk)
            have := (fci k hk).1
            rw [w2, w, Nat.add_assoc, (kd_c (6 * n + k) (by omega)).2]
            exact Or.inr ⟨by omega, k6 _ _ c1⟩
        · rw [hzz] at x
          have oldlt : ∀ i, lv A i → ad i < z := fun i hi => by
            have := (h.lz hi).1
            omega
          have vj := hlv j hj
          rw [← y] at vj
          rcases hlv i hi with ⟨v1, v2⟩ | ⟨v, v2⟩ | ⟨v, v2⟩ | ⟨k, hk, ⟨v, v2⟩ | ⟨v, v2⟩⟩
          · have := oldlt i v1
            omega
          all_goals
            rcases vj with ⟨w1, w2⟩ | ⟨w, w2⟩ | ⟨w, w2⟩ | ⟨k', hk', ⟨w, w2⟩ | ⟨w, w2⟩⟩
            · have := oldlt j w1
              omega
            all_goals
              rw [v2] at w2
              first
                | omega
                | (unfold fcC at w2; (repeat' split at w2) <;> omega)
        · rw [hzz]
          have hj' : j = 14 ∨ j = 15 ∨ j = 16 ∨ (90 ≤ j ∧ j < 90 + aN A) ∨ (130 ≤ j ∧ j < 130 + (n + 1)) := hj
          by_cases q : j = 15
          · subst q
            rw [a15]
            rcases hb' with w | w
            · exact Or.inl ⟨b15, w⟩
            · exact Or.inr (Or.inl w)
          · by_cases q2 : j = 130 + n
            · subst q2
              rw [a130]
              exact Or.inr (Or.inl (by omega))
            · have hbj : bk A j := by unfold bk; omega
              exact Or.inl ⟨hbj, hadb j hbj q⟩
        · rw [hzz] at x
          have bold : ∀ j, bk (uT (uR A (n + 1, va_up (aL A) n l, va_up (aC A) n cs)) []) j → z ≤ adR ad n z b' j → (j = 15 ∧ adR ad n z b' j = b') ∨ (j = 130 + n ∧ adR ad n z b' j = z + 4) := by
            intro j hj x
            have hj' : j = 14 ∨ j = 15 ∨ j = 16 ∨ (90 ≤ j ∧ j < 90 + aN A) ∨ (130 ≤ j ∧ j < 130 + (n + 1)) := hj
            by_cases q : j = 15
            · exact Or.inl ⟨q, by rw [q]; exact a15⟩
            · by_cases q2 : j = 130 + n
              · exact Or.inr ⟨q2, by rw [q2]; exact a130⟩
              · have hbj : bk A j := by unfold bk; omega
                rw [hadb j hbj q] at x
                have := h.bz hbj
                omega
          have nb : b' ≠ z + 4 := by
            rcases g6.2.2.2.1 with w | w
            · omega
            · omega
          rcases bold i hi x with ⟨v, v2⟩ | ⟨v, v2⟩ <;> rcases bold j hj (y ▸ x) with ⟨w, w2⟩ | ⟨w, w2⟩ <;> omega
      refine ⟨adR ad n z b', P6, rfl, ⟨h.1.fM F (fun i x1 x2 x3 w => by omega), h.2.1.fM F (fun q hq => by omega), ⟨h.ws.fM F (lv_i (by decide)) (Or.inl rfl) (by omega) (by omega) (by omega) (fun j hj => hadl _ (lv_w hj).1), fun v hv => (h.w hv).fM hW F hv (by omega) (by omega) (by omega) (by omega) (by omega)⟩, ⟨?_, fun r hr => ?_⟩, ⟨?_, fun i c hc => by cases hc⟩, h.now.fM F (by omega), h.2.2.2.2.2.2.1.fM F (fun t ht => by omega), h.2.2.2.2.2.2.2.1.fM F (by omega) (by omega), h.2.2.2.2.2.2.2.2.1.fM F (by omega) (by omega) (by omega), cext, sAll.cz⟩, hadl 0 (lv_i (by decide))⟩
      · show LSt t0 P6 (adR ad n z b' 3) (adR ad n z b' 15) (n + 1) _
        rw [hadl 3 lv3, a15]
        refine ⟨ls6.1, fun k hk => ?_⟩
        rw [ls6.2 k hk]
        show some (if k = n then z else ad (110 + k)) = some (adR ad n z b' (110 + k))
        by_cases c : k = n
        · subst c
          rw [if_pos rfl, a110]
        · rw [if_neg c, hadl _ (lv_r (by omega)).1]
      · have hr' : r < n + 1 := hr
        by_cases c : r = n
        · subst c
          have hL' : aL (uT (uR A (r + 1, va_up (aL A) r l, va_up (aC A) r cs)) []) r = l := va_up_self _ _ _
          unfold CRu
          rw [hC', hL', a110, a120, a130, nI6 z (by omega) (by omega), nR6 z (by omega) (by omega)]
          refine ⟨u2, u3, u4, u5, u6, h36, u7, ?_, fun k cl hk => ?_⟩
          · obtain ⟨⟨m1, m2, m3, m4, m5⟩, m6⟩ := u8
            have ezb : zbC t0 z cs.length = z + 4 := by unfold zbC; rw [if_neg (by omega)]
            rw [ezb] at m2 m5 m6
            refine ⟨⟨k6 _ _ m1, by rw [nR6 _ (by omega) (by omega)]; exact m2, by rw [nI6 _ (by omega) (by omega)]; exact m3, m4, ?_⟩, fun k hk => ?_⟩
            · rcases m5 with w | w
              · exact Or.inl ⟨k6 _ _ w.1, by rw [nN6 _ (by omega)]; exact w.2⟩
              · exact Or.inr w
            · rw [nR6 _ (by omega) (by omega), m6 k hk]
              show some (fcC z k) = some (adR ad r z b' (200 + 6 * r + k))
              rw [(adR_c (by omega) (by omega)).1]
          · have hk1 := (List.getElem?_eq_some_iff.mp hk).1
            obtain ⟨c1, c2⟩ := adR_c (ad := ad) (z := z) (b := b') (n := r) (k := k) (by omega) (by omega)
            obtain ⟨f1, f2⟩ := fci k hk1
            obtain ⟨d1, d2, d3, d4, d5, d6, d7⟩ := u10 k cl hk
            unfold CL
            rw [c1, c2, nI6 _ (by omega) (by omega), nI6 (fcC z k + 1) (by omega) (by omega), nR6 _ (by omega) (by omega), nN6 _ (by omega)]
            exact ⟨d3, d4, d5, d6, d7⟩
        · have hr2 : r < aR A := by omega
          exact CRu.cong (A := A) (va_up_ne _ _ c) (va_up_ne _ _ c) ((h.ru hr2).fM hW F hr2 (fun i hi => ⟨by omega, by omega⟩))
      · rw [hadl 4 lv4, g6.2.2.2.2.2.2.1 _ (Ne.symm n43) (by omega)]
        exact i54
end PCR7
