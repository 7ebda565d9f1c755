-- the class's constructor: its loops, its end
section PCIN2
variable {t0 : TS} {P P' : PS} {th pa ta zb : Nat} {F : Nat → Option Nat}
def PF (P : PS) (pa zb p : Nat) : Prop := pR P pa p = some (zb + p) ∧ kk P (zb + p) 3 = true ∧ pI P (zb + p) 0 = nI p ∧ pI P (zb + p) 1 = 0 ∧ pI P (zb + p) 2 = 0
def TF (P : PS) (ta zb t : Nat) : Prop := pR P ta t = some (zb + 2 * t) ∧ kk P (zb + 2 * t) 7 = true ∧ kk P (zb + 2 * t + 1) 13 = true ∧ pR P (zb + 2 * t) 0 = some (zb + 2 * t + 1) ∧ pN P (zb + 2 * t + 1) = 60 ∧ pI P (zb + 2 * t) 1 = -1 ∧ pI P (zb + 2 * t) 2 = 0 ∧ (pJ P (zb + 2 * t + 1) = fun _ => 0)
theorem SFR.rf : SFR th P P := ⟨fun _ _ => rfl, fun _ _ _ => rfl, fun _ _ => rfl, fun _ _ => rfl, fun _ _ x => x, Nat.le_refl _⟩
theorem c_i109 (hF : F 0 = some pa) (hpz : pa < zb) (hpt : pa ≠ th) : ∀ (n k fuel : Nat) (P : PS), k + n = 8 → n < fuel → STG t0 th (zb + k) F P → kk P pa 15 = true → pN P pa = 8 → (∀ p, p < k → PF P pa zb p) → ∃ P', hm_X8_init_109L t0 fuel th (nI k) P = hm_X8_init_140L t0 10 th 0 P' ∧ STG t0 th (zb + 8) F P' ∧ SFR pa P P' ∧ kk P' pa 15 = true ∧ ∀ p, p < 8 → PF P' pa zb p := by
  intro n
  induction n with
  | zero =>
    intro k fuel P hk hf h kp np hp
    obtain ⟨fu, rfl⟩ : ∃ fu, fuel = fu + 1 := ⟨fuel - 1, by omega⟩
    obtain rfl : k = 8 := by omega
    refine ⟨P, ?_, h, SFR.rf, kp, hp⟩
    obtain ⟨h1, h2, h3, h4, h5⟩ := h
    show hm_X8_init_109 _ _ _ _ _ = _
    unfold hm_X8_init_109
    rw [h1, ck_t, h5 0, hF, nn_s, kp, ck_t, np, if_pos (by decide), lt_t]
  | succ n ih =>
    intro k fuel P hk hf h kp np hp
    obtain ⟨fu, rfl⟩ : ∃ fu, fuel = fu + 1 := ⟨fuel - 1, by omega⟩
    have h' := h
    obtain ⟨h1, h2, h3, h4, h5⟩ := h
    have hle : ¬ nI 8 ≤ nI k := by rw [le_n (by decide) (by omega)]; omega
    have e1 : nI k + (1 : Int32) = nI (k + 1) := by rw [q1, nI_add]
    have s1 : SAM t0 (zb + k) (fun _ => False) (fun _ => False) P (pNew P 3 0) := SAM.new h2 (by omega)
    have kz : kk (pNew P 3 0) (zb + k) 3 = true := by rw [← h3]; exact pNew_kz
    have iz : pI (pNew P 3 0) (zb + k) = fun _ => 0 := by rw [← h3]; exact pNew_Iz
    have zz : pZ (pNew P 3 0) = zb + k + 1 := by rw [← h3]; exact pNew_Z
    have step : hm_X8_init_109L t0 (fu + 1) th (nI k) P = hm_X8_init_109L t0 fu th (nI (k + 1)) (pRu (pIu (pNew P 3 0) (zb + k) 0 (nI k)) pa k (some (zb + k))) := by
      have kp2 : kk (pNew P 3 0) pa 15 = true := s1.kp kp
      have np2 : pN (pNew P 3 0) pa = 8 := by rw [s1.2.2.2.1 pa (by omega)]; exact np
      show hm_X8_init_109 _ _ _ _ _ = _
      unfold hm_X8_init_109 hm_X2_init
      rw [h1, ck_t, h5 0, hF, nn_s, kp, ck_t, np, if_neg hle, nn_s, h3]
      simp only [lt_t]
      generalize pNew P 3 0 = N at *
      rw [kz, ck_t, bd_s, kkI, kp2, ck_t, NI, np2, vin_n (by omega), decide_eq_true (show k < 8 by omega), ck_t, kkI, kz, ck_t, nI_clamp (by omega), e1]
    rw [step]
    generalize pNew P 3 0 = N at *
    have s1' : SAM t0 (zb + k) (fun _ => False) (fun a => a = pa) P N := ⟨s1.1, fun a x _ => s1.2.1 a x id, s1.2.2⟩
    have s3 : SAM t0 (zb + k) (fun _ => False) (fun a => a = pa) P (pRu (pIu N (zb + k) 0 (nI k)) pa k (some (zb + k))) := (s1'.aI (fun q => absurd q (Nat.lt_irrefl _))).aR (fun _ => rfl)
    have hne : zb + k ≠ pa := by omega
    have i3 : pI (pRu (pIu N (zb + k) 0 (nI k)) pa k (some (zb + k))) (zb + k) = upd (fun _ => 0) 0 (nI k) := by rw [IR, pIu_eq, iz]
    have r3 : ∀ j, pR (pRu (pIu N (zb + k) 0 (nI k)) pa k (some (zb + k))) pa j = if j = k then some (zb + k) else pR P pa j := fun j => by
      rw [pRu_eq, RI, s1.2.1 pa (by omega) id]
      rfl
    have z3 : pZ (pRu (pIu N (zb + k) 0 (nI k)) pa k (some (zb + k))) = zb + (k + 1) := by rw [ZR, ZI]; exact zz
    have k3 : kk (pRu (pIu N (zb + k) 0 (nI k)) pa k (some (zb + k))) (zb + k) 3 = true := by rw [kkR, kkI]; exact kz
    generalize pRu (pIu N (zb + k) 0 (nI k)) pa k (some (zb + k)) = Q at *
    have gQ : STG t0 th (zb + (k + 1)) F Q := ⟨s3.kp h1, s3.cz, z3, by omega, fun j => by rw [s3.2.1 th (by omega) (fun w => hpt w.symm)]; exact h5 j⟩
    have fQ : SFR pa P Q := ⟨fun a x => s3.1 a (by omega) id, fun a x y => s3.2.1 a (by omega) y, fun a x => s3.2.2.1 a (by omega), fun a x => s3.2.2.2.1 a (by omega), fun a c x => s3.kp x, by omega⟩
    obtain ⟨P', e, g', f', kp', hp'⟩ := ih (k + 1) fu Q (by omega) (by omega) gQ (s3.kp kp) (by rw [s3.2.2.2.1 pa (by omega)]; exact np) (fun p hpk => by
      by_cases c : p = k
      · subst c
        refine ⟨by rw [r3, if_pos rfl], k3, by rw [i3]; rfl, by rw [i3]; rfl, by rw [i3]; rfl⟩
      · obtain ⟨p1, p2, p3, p4, p5⟩ := hp p (by omega)
        refine ⟨by rw [r3, if_neg c]; exact p1, s3.kp p2, ?_, ?_, ?_⟩
        · rw [s3.1 _ (by omega) id]; exact p3
        · rw [s3.1 _ (by omega) id]; exact p4
        · rw [s3.1 _ (by omega) id]; exact p5)
    exact ⟨P', e, g', fQ.tr f', kp', hp'⟩
theorem c_i140 (hF : F 6 = some ta) (hpz : ta < zb) (hpt : ta ≠ th) : ∀ (n k fuel : Nat) (P : PS), k + n = 6 → n < fuel → STG t0 th (zb + 2 * k) F P → kk P ta 16 = true → pN P ta = 6 → (∀ p, p < k → TF P ta zb p) → ∃ P', hm_X8_init_140L t0 fuel th (nI k) P = some (0, P') ∧ STG t0 th (zb + 12) F P' ∧ SFR ta P P' ∧ kk P' ta 16 = true ∧ ∀ p, p < 6 → TF P' ta zb p := by
  intro n
  induction n with
  | zero =>
    intro k fuel P hk hf h kp np hp
    obtain ⟨fu, rfl⟩ : ∃ fu, fuel = fu + 1 := ⟨fuel - 1, by omega⟩
    obtain rfl : k = 6 := by omega
    refine ⟨P, ?_, h, SFR.rf, kp, hp⟩
    obtain ⟨h1, h2, h3, h4, h5⟩ := h
    show hm_X8_init_140 _ _ _ _ _ = _
    unfold hm_X8_init_140
    rw [h1, ck_t, h5 6, hF, nn_s, kp, ck_t, np, if_pos (by decide)]
  | succ n ih =>
    intro k fuel P hk hf h kp np hp
    obtain ⟨fu, rfl⟩ : ∃ fu, fuel = fu + 1 := ⟨fuel - 1, by omega⟩
    obtain ⟨h1, h2, h3, h4, h5⟩ := h
    have hle : ¬ nI 6 ≤ nI k := by rw [le_n (by decide) (by omega)]; omega
    have e1 : nI k + (1 : Int32) = nI (k + 1) := by rw [q1, nI_add]
    have c60 : (60 : Int32).toNatClampNeg = 60 := rfl
    have s1 : SAM t0 (zb + 2 * k) (fun _ => False) (fun _ => False) P (pNew P 7 0) := SAM.new h2 (by omega)
    have kz : kk (pNew P 7 0) (zb + 2 * k) 7 = true := by rw [← h3]; exact pNew_kz
    have iz : pI (pNew P 7 0) (zb + 2 * k) = fun _ => 0 := by rw [← h3]; exact pNew_Iz
    have zz : pZ (pNew P 7 0) = zb + 2 * k + 1 := by rw [← h3]; exact pNew_Z
    show ∃ P', hm_X8_init_140 _ _ _ _ _ = _ ∧ _
    unfold hm_X8_init_140 hm_X6_init
    rw [h1, ck_t, h5 6, hF, nn_s, kp, ck_t, np, if_neg hle, nn_s, h3]
    simp only [lt_t]
    rw [c60]
    generalize pNew P 7 0 = N at *
    rw [zz]
    have s2 : SAM t0 (zb + 2 * k) (fun _ => False) (fun _ => False) P (pNew N 13 60) := s1.aN (by omega)
    have kz2 : kk (pNew N 13 60) (zb + 2 * k) 7 = true := pNew_kk s1.cz.1 kz
    have iz2 : pI (pNew N 13 60) (zb + 2 * k) = fun _ => 0 := by rw [pNew_I (by omega)]; exact iz
    have zz2 : pZ (pNew N 13 60) = zb + 2 * k + 2 := by rw [pNew_Z, zz]
    have k13 : kk (pNew N 13 60) (zb + 2 * k + 1) 13 = true := by rw [← zz]; exact pNew_kz
    have n13 : pN (pNew N 13 60) (zb + 2 * k + 1) = 60 := by rw [← zz]; exact pNew_Nz
    have j13 : pJ (pNew N 13 60) (zb + 2 * k + 1) = fun _ => 0 := by rw [← zz]; exact va_up_self _ _ _
    generalize pNew N 13 60 = M at *
    have kp2 : kk M ta 16 = true := s2.kp kp
    have np2 : pN M ta = 6 := by rw [s2.2.2.2.1 ta (by omega)]; exact np
    rw [kz2, ck_t, bd_s, kkI, kkR, kp2, ck_t, NI, NR, np2, vin_n (by omega), decide_eq_true (show k < 6 by omega), ck_t, kkI, kkR, kz2, ck_t, nI_clamp (by omega), e1]
    have s2' : SAM t0 (zb + 2 * k) (fun _ => False) (fun a => a = ta) P M := ⟨s2.1, fun a x _ => s2.2.1 a x id, s2.2.2⟩
    have s3 : SAM t0 (zb + 2 * k) (fun _ => False) (fun a => a = ta) P (pRu (pIu (pRu M (zb + 2 * k) 0 (some (zb + 2 * k + 1))) (zb + 2 * k) 1 (-1)) ta k (some (zb + 2 * k))) := ((s2'.aR (fun q => absurd q (Nat.lt_irrefl _))).aI (fun q => absurd q (Nat.lt_irrefl _))).aR (fun _ => rfl)
    have hne : zb + 2 * k ≠ ta := by omega
    have hne2 : ta ≠ zb + 2 * k := by omega
    have i3 : pI (pRu (pIu (pRu M (zb + 2 * k) 0 (some (zb + 2 * k + 1))) (zb + 2 * k) 1 (-1)) ta k (some (zb + 2 * k))) (zb + 2 * k) = upd (fun _ => 0) 1 (-1) := by rw [IR, pIu_eq, IR, iz2]
    have r3 : ∀ j, pR (pRu (pIu (pRu M (zb + 2 * k) 0 (some (zb + 2 * k + 1))) (zb + 2 * k) 1 (-1)) ta k (some (zb + 2 * k))) ta j = if j = k then some (zb + 2 * k) else pR P ta j := fun j => by
      rw [pRu_eq, RI, pRu_ne hne2, s2.2.1 ta (by omega) id]
      rfl
    have r30 : pR (pRu (pIu (pRu M (zb + 2 * k) 0 (some (zb + 2 * k + 1))) (zb + 2 * k) 1 (-1)) ta k (some (zb + 2 * k))) (zb + 2 * k) 0 = some (zb + 2 * k + 1) := by rw [pRu_ne hne, RI, pRu_eq, va_up_self]
    have z3 : pZ (pRu (pIu (pRu M (zb + 2 * k) 0 (some (zb + 2 * k + 1))) (zb + 2 * k) 1 (-1)) ta k (some (zb + 2 * k))) = zb + 2 * (k + 1) := by rw [ZR, ZI, ZR, zz2]; omega
    have k3 : kk (pRu (pIu (pRu M (zb + 2 * k) 0 (some (zb + 2 * k + 1))) (zb + 2 * k) 1 (-1)) ta k (some (zb + 2 * k))) (zb + 2 * k) 7 = true := by rw [kkR, kkI, kkR]; exact kz2
    have k33 : kk (pRu (pIu (pRu M (zb + 2 * k) 0 (some (zb + 2 * k + 1))) (zb + 2 * k) 1 (-1)) ta k (some (zb + 2 * k))) (zb + 2 * k + 1) 13 = true := by rw [kkR, kkI, kkR]; exact k13
    have n33 : pN (pRu (pIu (pRu M (zb + 2 * k) 0 (some (zb + 2 * k + 1))) (zb + 2 * k) 1 (-1)) ta k (some (zb + 2 * k))) (zb + 2 * k + 1) = 60 := by rw [NR, NI, NR]; exact n13
    have j33 : pJ (pRu (pIu (pRu M (zb + 2 * k) 0 (some (zb + 2 * k + 1))) (zb + 2 * k) 1 (-1)) ta k (some (zb + 2 * k))) (zb + 2 * k + 1) = fun _ => 0 := by rw [JR, JI, JR]; exact j13
    generalize pRu (pIu (pRu M (zb + 2 * k) 0 (some (zb + 2 * k + 1))) (zb + 2 * k) 1 (-1)) ta k (some (zb + 2 * k)) = Q at *
    have gQ : STG t0 th (zb + 2 * (k + 1)) F Q := ⟨s3.kp h1, s3.cz, z3, by omega, fun j => by rw [s3.2.1 th (by omega) (fun w => hpt w.symm)]; exact h5 j⟩
    have fQ : SFR ta P Q := ⟨fun a x => s3.1 a (by omega) id, fun a x y => s3.2.1 a (by omega) y, fun a x => s3.2.2.1 a (by omega), fun a x => s3.2.2.2.1 a (by omega), fun a c x => s3.kp x, by omega⟩
    obtain ⟨P', e, g', f', kp', hp'⟩ := ih (k + 1) fu Q (by omega) (by omega) gQ (s3.kp kp) (by rw [s3.2.2.2.1 ta (by omega)]; exact np) (fun p hpk => by
      by_cases c : p = k
      · subst c
        exact ⟨by rw [r3, if_pos rfl], k3, k33, r30, n33, by rw [i3]; rfl, by rw [i3]; rfl, j33⟩
      · obtain ⟨p1, p2, p3, p4, p5, p6, p7, p8⟩ := hp p (by omega)
        refine ⟨by rw [r3, if_neg c]; exact p1, s3.kp p2, s3.kp p3, ?_, ?_, ?_, ?_, ?_⟩
        · rw [s3.2.1 _ (by omega) (by omega)]; exact p4
        · rw [s3.2.2.2.1 _ (by omega)]; exact p5
        · rw [s3.1 _ (by omega) id]; exact p6
        · rw [s3.1 _ (by omega) id]; exact p7
        · rw [s3.2.2.1 _ (by omega)]; exact p8)
    exact ⟨P', e, g', fQ.tr f', kp', hp'⟩
def A00 : AA := ((0, fun _ => 0, fun _ => 0, fun _ => 0, fun _ => []), (0, fun _ => 0, fun _ => []), (fun _ => 0, 0, 0), [], (0, fun _ => 0), (fun _ => -1, fun _ => 0, fun _ _ => 0))
theorem wf00 : WF A00 := ⟨⟨by decide, fun w => ⟨fun h => absurd h (Nat.not_lt_zero _), fun _ => rfl⟩⟩, ⟨by decide, fun r h => absurd h (Nat.not_lt_zero _)⟩, fun _ _ => by show 0 < 64; decide, by show 0 < 1024; decide, by show 0 < 2 ^ 0; decide, by show 0 ≤ 100; decide, fun c h => (by cases h), by show 0 < 1000; decide, fun _ => rfl, fun t ht => ⟨Or.inl rfl, by show 0 ≤ 60; decide, fun _ => rfl⟩⟩
def ad0 (t z : Nat) : DD := fun i => if i < 5 then z + i else if i = 5 then z + 7 else if i = 6 then z + 8 else if i = 7 then z + 9 else if i = 8 then z + 10 else if i = 9 then z + 12 else if i = 10 then z + 13 else if i = 11 then z + 5 else if i = 12 then z + 6 else if i = 13 then z + 11 else if i < 20 then t else if i < 30 then z + 14 + (i - 20) else if i < 40 then z + 22 + 2 * (i - 30) else z + 23 + 2 * (i - 40)
end PCIN2
