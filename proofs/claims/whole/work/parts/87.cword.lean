section PCWD
variable {t0 : TS} {ad ad' : DD} {A A' : AA} {P P' : PS} {w : Nat}
theorem LSt.sam {l b n z0 : Nat} {f : Nat → Nat} {X Y : Nat → Prop} (h : LSt t0 P l b n f) (g : SAM t0 z0 X Y P P') (hl : l < z0) (hb : b < z0) (h1 : ¬ X l) (h2 : ¬ Y l) (h3 : ¬ Y b) : LSt t0 P' l b n f := ⟨h.1.sam g hl hb h1 h2, fun k hk => by rw [g.2.1 b hb h3]; exact h.2 k hk⟩
theorem lvx {i : Nat} (h : lv A i) : i ≤ 13 ∨ (20 ≤ i ∧ i < 28) ∨ (30 ≤ i ∧ i < 36) ∨ (40 ≤ i ∧ i < 46) ∨ (50 ≤ i ∧ i < 50 + aN A) ∨ (70 ≤ i ∧ i < 70 + aN A) ∨ (110 ≤ i ∧ i < 110 + aR A) ∨ (120 ≤ i ∧ i < 120 + aR A) ∨ 200 ≤ i := by
  rcases h with h | h | h | h | h | h | h | h | ⟨r, k, h1, h2, h3⟩ <;> omega
theorem lv_up (h : aN A ≤ aN A') (e : A'.2.1 = A.2.1) {i : Nat} (hi : lv A i) : lv A' i := by
  have e1 : aR A' = aR A := by unfold aR; rw [e]
  have e2 : aC A' = aC A := by unfold aC; rw [e]
  unfold lv at *
  rw [e1, e2]
  rcases hi with q | q | q | q | q | q | q | q | q
  · exact Or.inl q
  · exact Or.inr (Or.inl q)
  · exact Or.inr (Or.inr (Or.inl q))
  · exact Or.inr (Or.inr (Or.inr (Or.inl q)))
  · exact Or.inr (Or.inr (Or.inr (Or.inr (Or.inl ⟨q.1, by omega⟩))))
  · exact Or.inr (Or.inr (Or.inr (Or.inr (Or.inr (Or.inl ⟨q.1, by omega⟩)))))
  · exact Or.inr (Or.inr (Or.inr (Or.inr (Or.inr (Or.inr (Or.inl q))))))
  · exact Or.inr (Or.inr (Or.inr (Or.inr (Or.inr (Or.inr (Or.inr (Or.inl q)))))))
  · exact Or.inr (Or.inr (Or.inr (Or.inr (Or.inr (Or.inr (Or.inr (Or.inr q)))))))
theorem lv_dn (h : aN A' = aN A + 1) (e : A'.2.1 = A.2.1) {i : Nat} (hi : lv A' i) : lv A i ∨ i = 50 + aN A ∨ i = 70 + aN A := by
  have e1 : aR A' = aR A := by unfold aR; rw [e]
  have e2 : aC A' = aC A := by unfold aC; rw [e]
  unfold lv at *
  rw [e1, e2, h] at hi
  rcases hi with q | q | q | q | q | q | q | q | q
  · exact Or.inl (Or.inl q)
  · exact Or.inl (Or.inr (Or.inl q))
  · exact Or.inl (Or.inr (Or.inr (Or.inl q)))
  · exact Or.inl (Or.inr (Or.inr (Or.inr (Or.inl q))))
  · by_cases c : i = 50 + aN A
    · exact Or.inr (Or.inl c)
    · exact Or.inl (Or.inr (Or.inr (Or.inr (Or.inr (Or.inl ⟨q.1, by omega⟩)))))
  · by_cases c : i = 70 + aN A
    · exact Or.inr (Or.inr c)
    · exact Or.inl (Or.inr (Or.inr (Or.inr (Or.inr (Or.inr (Or.inl ⟨q.1, by omega⟩))))))
  · exact Or.inl (Or.inr (Or.inr (Or.inr (Or.inr (Or.inr (Or.inr (Or.inl q)))))))
  · exact Or.inl (Or.inr (Or.inr (Or.inr (Or.inr (Or.inr (Or.inr (Or.inr (Or.inl q))))))))
  · exact Or.inl (Or.inr (Or.inr (Or.inr (Or.inr (Or.inr (Or.inr (Or.inr (Or.inr q))))))))
theorem CW.cong (hK : aK A' w = aK A w) (hB : aB A' w = aB A w) (hF : aF A' w = aF A w) (hP : aP A' w = aP A w) (h : CW t0 ad A P w) : CW t0 ad A' P w := by
  unfold CW at *
  rw [hK, hB, hF, hP]
  exact h
theorem c_linit {l : Nat} (h : kk P l 0 = true) : hm_Jx4a65c_init_da8c8 t0 P l = some (0, pRu (pIu P l 0 0) l 1 (some t0.1)) := by
  have h' : kk (pIu P l 0 0) l 0 = true := h
  unfold hm_Jx4a65c_init_da8c8 hm_Jxc12de_init_da8c8 hm_Jxa1e45_init_da8c8
  simp only [ck_t, nn_s, bd_s, lt_t, h, h']
theorem kab_lt : ∀ k, k < 7 → kab k < 7 := by decide
theorem kms_v : ∀ k, k < 7 → ((((1 : Int32) <<< (nI k &&& 31)) ||| ((1 : Int32) <<< (nI (kab k) &&& 31))) ||| ((1 : Int32) <<< (nI (kab (kab k)) &&& 31))) ||| (1 : Int32) = nI (kms k) := by decide +kernel
theorem c_winit {z k a3 : Nat} {n f : Int32} (hz : CZ t0 P) (kz : kk P z 8 = true) (hk : k < 7) (h6 : pI P z 6 = 0) : ∃ P', hm_X7_init t0 P z n (nI k) a3 f = some (0, P') ∧ SAM t0 z (fun _ => False) (fun _ => False) P P' ∧ pI P' z 0 = n ∧ pI P' z 1 = nI k ∧ pI P' z 2 = nI (kms k) ∧ pR P' z 3 = some a3 ∧ pI P' z 4 = f ∧ pR P' z 5 = some (pZ P) ∧ pI P' z 6 = 0 ∧ LW t0 P' (pZ P) t0.1 0 ∧ pZ P' = pZ P + 1 ∧ pL P' = pL P ++ [pZ P] ∧ kk P' (pZ P) 0 = true := by
  have hzl := (kk_lt hz kz).1
  have hne : z ≠ pZ P := by omega
  have hne' : pZ P ≠ z := Ne.symm hne
  have s1 : SAM t0 z (fun _ => False) (fun _ => False) P (pNew P 0 0) := SAM.new hz (by omega)
  have hnz : pI (pNew P 0 0) z = pI P z := pNew_I hne
  have hni : pI (pNew P 0 0) (pZ P) = fun _ => 0 := pNew_Iz
  have k0 : kk (pNew P 0 0) (pZ P) 0 = true := pNew_kz
  have kz1 : kk (pNew P 0 0) z 8 = true := pNew_kk hz.1 kz
  have zN : pZ (pNew P 0 0) = pZ P + 1 := pNew_Z
  have lN : pL (pNew P 0 0) = pL P ++ [pZ P] := pNew_L
  unfold hm_X7_init
  generalize pNew P 0 0 = N at *
  have e1 := c_linit (t0 := t0) k0
  have q : z < z → (fun _ : Nat => False) z := fun h => absurd h (Nat.lt_irrefl z)
  have q2 : pZ P < z → (fun _ : Nat => False) (pZ P) := fun h => by omega
  have hka := fun Q : PS => c_ka Q hk
  have hka2 := fun Q : PS => c_ka Q (kab_lt k hk)
  refine ⟨pIu (pIu (pRu (pIu (pIu (pRu (pRu (pIu N (pZ P) 0 0) (pZ P) 1 (some t0.1)) z 5 (some (pZ P))) z 0 n) z 1 (nI k)) z 3 (some a3)) z 4 f) z 2 (nI (kms k)), ?_, (((((((s1.aI q2).aR q2).aR q).aI q).aI q).aR q).aI q).aI q, ?_, ?_, ?_, ?_, ?_, ?_, ?_, ⟨?_, ?_, ?_, by decide, Or.inr ⟨rfl, rfl⟩⟩, ?_, ?_, ?_⟩
  · simp only [ck_t, nn_s, bd_s, lt_t, e1, hka, hka2, kms_v k hk, kkI, kkR, RI, IR, NI, NR, ZI, ZR, kz1]
  · simp [pIu_eq, IR, upd]
  · simp [pIu_eq, IR, upd]
  · simp [pIu_eq, IR, upd]
  · simp [RI, pRu_eq, va_up]
  · simp [pIu_eq, IR, upd]
  · simp [RI, pRu_eq, va_up]
  · simp [pIu_eq, IR, upd, pIu_ne hne, hnz, h6]
  · simp only [kkI, kkR, RI, IR, NI, NR, ZI, ZR]; exact k0
  · simp [RI, pRu_ne hne', pRu_eq, va_up]
  · simp [pIu_ne hne', IR, pIu_eq, upd, hni]
    rfl
  · simp only [kkI, kkR, RI, IR, NI, NR, ZI, ZR]; exact zN
  · simp only [LI, LR]; exact lN
  · simp only [kkI, kkR, RI, IR, NI, NR, ZI, ZR]; exact k0
def adW (ad : DD) (n z b : Nat) (t : Nat) : DD := fun i => if i = 50 + n then z else if i = 70 + n then z + 1 else if i = 90 + n then t else if i = 14 then b else ad i
theorem pmk_at {n p : Nat} {x : (Nat → Nat) × (Nat → Nat) × (Nat → List Nat)} {y : Nat → Nat} (hn : aN A = n) : ∀ q, pmk (uW A (n + 1, y, va_up (aB A) n p, x.2)) q = if q = p then pmk A q ||| 2 ^ n else pmk A q := by
  intro q
  show msk (fun w => va_up (aB A) n p w == q) (n + 1) = _
  have e : msk (fun w => va_up (aB A) n p w == q) n = pmk A q := by
    unfold pmk
    rw [hn]
    exact msk_cong (fun i hi => by simp only [va_up_ne (aB A) p (show i ≠ n by omega)])
  by_cases c : q = p
  · rw [if_pos c, ← msk_or _ n (by rw [va_up_self]; simp [c]), e]
  · rw [if_neg c, msk_no _ n (by rw [va_up_self]; simp [Ne.symm c]), e]
theorem cu_word (hW : WF A) (h : CC t0 ad A P) (a b c : Int32) : ∃ ad' P', hm_X8_word t0 P (ad 0) a b c = some ((sWord A a b c).1, P') ∧ CC t0 ad' (sWord A a b c).2 P' ∧ ad' 0 = ad 0 := by
  have hN := wfN hW
  obtain ⟨-, f1, -⟩ := h.r
  have ls := h.ws
  unfold hm_X8_word hm_X8_word_21 sWord
  simp only [ck_t, nn_s, bd_s, lt_t, c_personAt h, h.k0, show (7 : Int32) = nI 7 from rfl, show (1024 : Int32) = nI 1024 from rfl, c_within P a (show 7 < 2 ^ 31 by decide), c_within P c (show 1024 < 2 ^ 31 by decide)]
  cases h2 : ix 8 b with
  | none =>
    refine ⟨ad, P, ?_, ?_, rfl⟩
    · cases ix 7 a <;> rfl
    · cases ix 7 a <;> exact h
  | some p =>
  cases h1 : ix 7 a with
  | none => exact ⟨ad, P, rfl, h, rfl⟩
  | some k =>
  cases h3 : ix 1024 c with
  | none => exact ⟨ad, P, rfl, h, rfl⟩
  | some f =>
  obtain ⟨hp, rfl⟩ := ix_s (by decide) h2
  obtain ⟨hk, rfl⟩ := ix_s (by decide) h1
  obtain ⟨hf, rfl⟩ := ix_s (by decide) h3
  have n1 := isome_n (show (some k : Option Nat) = some k from rfl)
  have n3 := isome_n (show (some f : Option Nat) = some f from rfl)
  simp only [Option.map_some, nlS, if_neg n1, if_neg n3, ck_t, nn_s, bd_s, lt_t, h.k0, f1, ls.sz, ls.k]
  by_cases c14 : aN A = 14
  · have : ¬ nI (aN A) < 14 := by rw [q14, lt_n (by omega) (by decide)]; omega
    rw [if_neg this]
    simp only [if_pos c14]
    exact ⟨ad, P, rfl, h, rfl⟩
  have hlt : nI (aN A) < 14 := by rw [q14, lt_n (by omega) (by decide)]; omega
  rw [if_pos hlt]
  simp only [if_neg c14]
  generalize hn : aN A = n at *
  have hz := h.z
  have hz1 : CZ t0 (pNew P 8 0) := hz.new
  obtain ⟨P2, e2, s2, i0, i1, i2, i3, i4, i5, i6, i7, i8, i9, i10⟩ := c_winit (a3 := ad (20 + p)) (n := nI n) (f := nI f) hz1 (pNew_kz (c := 8) (n := 0)) hk (by rw [pNew_Iz])
  have s1 : SAM t0 (pZ P) (fun _ => False) (fun _ => False) P (pNew P 8 0) := SAM.new hz (Nat.le_refl _)
  have s12 := s1.tr s2
  have hz2 := s12.2.2.2.2.2.2
  have l2 := (h.lz (lv_i (i := 2) (by decide))).1
  have b14 : bk A 14 := Or.inl rfl
  have l14 := h.bz b14
  have ls2 : LSt t0 P2 (ad 2) (ad 14) n (fun w => ad (50 + w)) := ls.sam s12 l2 l14 id id id
  have kw2 : kk P2 (pZ P) 8 = true := s2.2.2.2.2.1 _ _ (pNew_kz (c := 8) (n := 0))
  have pz2 : pZ P2 = pZ P + 2 := i8
  obtain ⟨P3, b', e3, g3, ls3⟩ := c_addL (f' := fun w => adW ad n (pZ P) (ad 14) t0.1 (50 + w)) (x := pZ P) ls2 hz2 (by unfold isO; rw [kw2]; rfl) (by omega) (fun j hj => by unfold isO; rw [s12.2.2.2.2.1 _ _ (h.kW (by omega) (w := j) (by omega))]; rfl) (fun j hj => by unfold adW; rw [if_neg (by omega), if_neg (by omega), if_neg (by omega), if_neg (by omega)]) (by unfold adW; rw [if_pos rfl])
  have hne2 : ad 2 ≠ ad (20 + p) := h.ne (lv_i (by decide)) (lv_p hp) (by omega)
  have lp := (h.lz (lv_p (A := A) hp)).1
  obtain ⟨p0, p1, p2⟩ := h.2.1 p hp
  have s3 : SAM t0 (pZ P) (fun a => a = ad 2 ∨ a = ad (20 + p)) (fun a => a = ad 2 ∨ (a = ad 14 ∧ ad 14 ≠ t0.1)) P2 P3 := g3.sam (by omega) (Or.inl rfl) (Or.inl rfl) (fun x _ => Or.inr ⟨rfl, x⟩)
  have hz3 := s3.2.2.2.2.2.2
  have s4 : SAM t0 (pZ P) (fun a => a = ad 2 ∨ a = ad (20 + p)) (fun a => a = ad 2 ∨ (a = ad 14 ∧ ad 14 ≠ t0.1)) P3 (pIu P3 (ad (20 + p)) 2 (nI (pmk A p ||| 2 ^ n))) := SAM.I hz3 (fun _ => Or.inr rfl)
  have s12' : SAM t0 (pZ P) (fun a => a = ad 2 ∨ a = ad (20 + p)) (fun a => a = ad 2 ∨ (a = ad 14 ∧ ad 14 ≠ t0.1)) P P2 := ⟨fun a x _ => s12.1 a x id, fun a x _ => s12.2.1 a x id, s12.2.2⟩
  have sAll := s12'.tr (s3.tr s4)
  have kp3 : kk P3 (ad (20 + p)) 3 = true := s3.2.2.2.2.1 _ _ (s12.2.2.2.2.1 _ _ (h.kP hp))
  have v3 : pI P3 (ad (20 + p)) 2 = nI (pmk A p) := by
    rw [g3.2.2.2.2.2.2.1 _ (Ne.symm hne2) (by omega), s12.1 _ lp id]
    exact p2
  have e9 : (1 : Int32) <<< (nI n &&& 31) = nI (2 ^ n) := shl_n (by omega)
  refine ⟨adW ad n (pZ P) b' t0.1, pIu P3 (ad (20 + p)) 2 (nI (pmk A p ||| 2 ^ n)), ?_, ?_, by unfold adW; rw [if_neg (by omega), if_neg (by omega), if_neg (by omega), if_neg (by omega)]⟩
  · simp only [e2, ck_t, nn_s, bd_s, lt_t, e3, s12.2.2.2.2.1 _ _ h.k2, kp3, v3, e9, or_n]
  have had : ∀ i, i ≠ 50 + n → i ≠ 70 + n → i ≠ 90 + n → i ≠ 14 → adW ad n (pZ P) b' t0.1 i = ad i := fun i x1 x2 x3 x4 => by unfold adW; rw [if_neg x1, if_neg x2, if_neg x3, if_neg x4]
  have a50 : adW ad n (pZ P) b' t0.1 (50 + n) = pZ P := if_pos rfl
  have a70 : adW ad n (pZ P) b' t0.1 (70 + n) = pZ P + 1 := by unfold adW; rw [if_neg (by omega), if_pos rfl]
  have a90 : adW ad n (pZ P) b' t0.1 (90 + n) = t0.1 := by unfold adW; rw [if_neg (by omega), if_neg (by omega), if_pos rfl]
  have a14 : adW ad n (pZ P) b' t0.1 14 = b' := by unfold adW; rw [if_neg (by omega), if_neg (by omega), if_neg (by omega), if_pos rfl]
  have hadl : ∀ i, lv A i → adW ad n (pZ P) b' t0.1 i = ad i := fun i hi => by
    have := lvx hi
    exact had i (by omega) (by omega) (by omega) (by omega)
  have F : FRM ad (adW ad n (pZ P) b' t0.1) A P (pIu P3 (ad (20 + p)) 2 (nI (pmk A p ||| 2 ^ n))) (fun i => i = 2 ∨ i = 20 + p) (fun i => i = 2 ∨ i = 14) := by
    refine sAll.frm h hadl (fun j hj hn' => ?_) (fun i hi x => ?_) (fun i hi x => ?_)
    · have : j = 14 ∨ j = 15 ∨ j = 16 ∨ (90 ≤ j ∧ j < 90 + aN A) ∨ (130 ≤ j ∧ j < 130 + aR A) := hj
      exact had j (by omega) (by omega) (by omega) (fun z => hn' (Or.inr z))
    · rcases x with x | x
      · exact Or.inl (Classical.byContradiction (fun q => h.ne hi (lv_i (by decide)) q x))
      · exact Or.inr (Classical.byContradiction (fun q => h.ne hi (lv_p hp) q x))
    · rcases x with x | ⟨x, y⟩
      · rcases hi with hi | hi
        · exact Or.inl (Classical.byContradiction (fun q => h.ne hi (lv_i (by decide)) q x))
        · exact absurd x (h.lb (lv_i (by decide)) hi)
      · rcases hi with hi | hi
        · exact absurd x.symm (h.lb hi b14)
        · exact Or.inr (Classical.byContradiction (fun q => h.bb b14 hi (Ne.symm q) y x))
  have hkk := sAll.2.2.2.2.1
  have hpK : aP A n = [] := (hW.1.2 n).2 (by omega)
  have hsub : ∀ q, pmk (uW A (n + 1, va_up (aK A) n k, va_up (aB A) n p, va_up (aF A) n f, aP A)) q = if q = p then pmk A q ||| 2 ^ n else pmk A q := pmk_at (x := (fun _ => 0, va_up (aF A) n f, aP A)) hn
  have zA : ∀ j, j < 50 → j ≠ 14 → adW ad n (pZ P) b' t0.1 j = ad j := fun j hj hj2 => had j (by omega) (by omega) (by omega) hj2
  have f4z : ∀ a, pI (pIu P3 (ad (20 + p)) 2 (nI (pmk A p ||| 2 ^ n))) a = if a = ad (20 + p) then upd (pI P3 (ad (20 + p))) 2 (nI (pmk A p ||| 2 ^ n)) else pI P3 a := fun a => by
    by_cases q : a = ad (20 + p)
    · rw [if_pos q, q, pIu_eq]
    · rw [if_neg q, pIu_ne q]
  have ev : ∀ a, a < pZ P2 → a ≠ ad 2 → a ≠ ad (20 + p) → pI (pIu P3 (ad (20 + p)) 2 (nI (pmk A p ||| 2 ^ n))) a = pI P2 a := fun a x1 x2 x3 => by
    rw [f4z, if_neg x3]
    exact g3.2.2.2.2.2.2.1 a x2 x1
  have er : ∀ a, a < pZ P2 → a ≠ ad 2 → a ≠ ad 14 ∨ ad 14 = t0.1 → pR (pIu P3 (ad (20 + p)) 2 (nI (pmk A p ||| 2 ^ n))) a = pR P2 a := fun a x1 x2 x3 => g3.2.2.2.2.2.2.2.1 a x2 x3 x1
  have hdn : ∀ i, lv (uW A (n + 1, va_up (aK A) n k, va_up (aB A) n p, va_up (aF A) n f, aP A)) i → lv A i ∨ i = 50 + aN A ∨ i = 70 + aN A := fun i hi => lv_dn (A := A) (A' := uW A (n + 1, va_up (aK A) n k, va_up (aB A) n p, va_up (aF A) n f, aP A)) (by show n + 1 = aN A + 1; omega) rfl hi
  have cext : CKI t0 (adW ad n (pZ P) b' t0.1) (uW A (n + 1, va_up (aK A) n k, va_up (aB A) n p, va_up (aF A) n f, aP A)) (pIu P3 (ad (20 + p)) 2 (nI (pmk A p ||| 2 ^ n))) := by
    have hb' : b' = ad 14 ∨ pZ P + 2 ≤ b' := by
      rcases g3.2.2.2.1 with z | z
      · exact Or.inl z
      · exact Or.inr (by omega)
    refine h.ext hkk (fun i hi => ?_) (fun i j hi hj x y => ?_) (fun j hj => ?_) (fun i j hi hj x y => ?_)
    · rcases hdn _ hi with z | z | z
      · exact Or.inl ⟨z, hadl i z⟩
      · rw [hn] at z
        subst z
        rw [a50, (kd_w n (by omega)).1]
        exact Or.inr ⟨Nat.le_refl _, s3.2.2.2.2.1 _ _ kw2⟩
      · rw [hn] at z
        subst z
        rw [a70, (kd_w n (by omega)).2]
        exact Or.inr ⟨by omega, s3.2.2.2.2.1 _ _ i10⟩
    · rcases hdn _ hi with z | z | z
      · rw [hadl i z] at x
        have := (h.lz z).1
        omega
      · rcases hdn _ hj with u | u | u
        · rw [y, hadl j u] at x
          have := (h.lz u).1
          omega
        · omega
        · rw [hn] at z u
          rw [z, u, a50, a70] at y
          omega
      · rcases hdn _ hj with u | u | u
        · rw [y, hadl j u] at x
          have := (h.lz u).1
          omega
        · rw [hn] at z u
          rw [z, u, a50, a70] at y
          omega
        · omega
    · have hj' : j = 14 ∨ j = 15 ∨ j = 16 ∨ (90 ≤ j ∧ j < 90 + (n + 1)) ∨ (130 ≤ j ∧ j < 130 + aR A) := hj
      by_cases q : j = 14
      · subst q
        rw [a14]
        rcases hb' with z | z
        · exact Or.inl ⟨b14, z⟩
        · exact Or.inr (Or.inl (by omega))
      · by_cases q2 : j = 90 + n
        · subst q2
          exact Or.inr (Or.inr a90)
        · exact Or.inl ⟨by unfold bk; omega, had j (by omega) (by omega) q2 q⟩
    · have key : ∀ j, bk (uW A (n + 1, va_up (aK A) n k, va_up (aB A) n p, va_up (aF A) n f, aP A)) j → pZ P ≤ adW ad n (pZ P) b' t0.1 j → j = 14 := by
        intro j hj x
        have hj' : j = 14 ∨ j = 15 ∨ j = 16 ∨ (90 ≤ j ∧ j < 90 + (n + 1)) ∨ (130 ≤ j ∧ j < 130 + aR A) := hj
        by_cases q : j = 14
        · exact q
        · by_cases q2 : j = 90 + n
          · subst q2
            rw [a90] at x
            have := hz.2.1
            omega
          · have hbj : bk A j := by unfold bk; omega
            rw [had j (by omega) (by omega) q2 q] at x
            have := h.bz hbj
            omega
      rw [key i hi x, key j hj (y ▸ x)]
  have hld : ¬ pZ P = ad 2 := by omega
  have hlp : ¬ pZ P = ad (20 + p) := by omega
  have hl14 : ¬ pZ P = ad 14 := by omega
  refine ⟨h.1.fM F (fun i x1 x2 x3 z => ?_), fun q hq => ?_, ⟨?_, fun w hw => ?_⟩, ⟨h.rs.fM F (lv_i (by decide)) (Or.inr (Or.inl rfl)) (by omega) (by omega) (by omega) (fun j hj => hadl _ (lv_r hj).1), fun r hr => (h.ru hr).fM hW F hr (fun i hi => ⟨by omega, by omega⟩)⟩, h.2.2.2.2.1.fM F (by omega) (by omega), h.now.fM F (by omega), h.2.2.2.2.2.2.1.fM F (fun t ht => by omega), h.2.2.2.2.2.2.2.1.fM F (by omega) (by omega), h.2.2.2.2.2.2.2.2.1.fM F (by omega) (by omega) (by omega), cext, sAll.2.2.2.2.2.2⟩
  · rcases z with z | z <;> omega
  · rw [hadl _ (lv_p hq), hsub]
    show _ ∧ pI _ _ 1 = nI (aKn A q) ∧ _
    by_cases c : q = p
    · subst c
      rw [if_pos rfl, f4z, if_pos rfl]
      have ez := g3.2.2.2.2.2.2.1 _ (Ne.symm hne2) (show ad (20 + q) < pZ P2 by omega)
      have ez2 := s12.1 _ lp id
      refine ⟨?_, ?_, rfl⟩
      · show pI P3 (ad (20 + q)) 0 = _
        rw [ez, ez2]; exact p0
      · show pI P3 (ad (20 + q)) 1 = _
        rw [ez, ez2]; exact p1
    · rw [if_neg c, F.2.1 _ (lv_p hq) (by omega)]
      exact h.2.1 q hq
  · show LSt t0 _ (adW ad n (pZ P) b' t0.1 2) (adW ad n (pZ P) b' t0.1 14) (n + 1) _
    rw [zA 2 (by omega) (by omega), a14]
    obtain ⟨⟨y1, y2, y3, y4, y5⟩, y6⟩ := ls3
    refine ⟨⟨y1, y2, by rw [pIu_ne hne2]; exact y3, y4, y5⟩, fun j hj => ?_⟩
    rw [pIu_R, y6 j hj]
    have : adW ad n (pZ P) (ad 14) t0.1 (50 + j) = adW ad n (pZ P) b' t0.1 (50 + j) := by unfold adW; rw [if_neg (show ¬ 50 + j = 14 by omega), if_neg (show ¬ 50 + j = 14 by omega)]
    exact congrArg some this
  · have hw' : w < n + 1 := hw
    by_cases c : w = n
    · subst c
      have hz50 : aP (uW A (w + 1, va_up (aK A) w k, va_up (aB A) w p, va_up (aF A) w f, aP A)) w = [] := hpK
      have x1 := ev (pZ P) (by omega) hld hlp
      have x2 := er (pZ P) (by omega) hld (Or.inl hl14)
      unfold CW
      rw [hz50, a50, a70, a90, x1, x2]
      show _ ∧ _ = nI (va_up (aK A) w k w) ∧ _ = nI (kms (va_up (aK A) w k w)) ∧ _ = nI (va_up (aF A) w f w) ∧ _ ∧ _ = some (adW ad w (pZ P) b' t0.1 (20 + va_up (aB A) w p w)) ∧ _
      rw [va_up_self, va_up_self, va_up_self, hadl _ (lv_p hp)]
      refine ⟨i0, i1, i2, i4, i6, i3, i5, ⟨?_, fun j hj => absurd hj (Nat.not_lt_zero _)⟩⟩
      obtain ⟨y1, y2, y3, y4, y5⟩ := i7
      have nn2 : ¬ pZ P + 1 = ad 2 := by omega
      have nnp : ¬ pZ P + 1 = ad (20 + p) := by omega
      have nn14 : ¬ pZ P + 1 = ad 14 := by omega
      refine ⟨s4.2.2.2.2.1 _ _ (s3.2.2.2.2.1 _ _ y1), ?_, ?_, by decide, Or.inr ⟨rfl, rfl⟩⟩
      · rw [er (pZ P + 1) (by omega) nn2 (Or.inl nn14)]; exact y2
      · rw [ev (pZ P + 1) (by omega) nn2 nnp]; exact y3
    · have hw2 : w < aN A := by omega
      refine CW.cong (A := A) ?_ ?_ ?_ rfl ((h.w hw2).fM hW F hw2 (by omega) (by omega) (by omega) (by omega) (by omega))
      · exact va_up_ne _ _ c
      · exact va_up_ne _ _ c
      · exact va_up_ne _ _ c
end PCWD
