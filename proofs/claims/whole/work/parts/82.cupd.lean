section PCU
variable {t0 : TS} {ad : DD} {A : AA} {P : PS} {w : Nat}
theorem cu_known (hW : WF A) (h : CC t0 ad A P) (a b : Int32) : ∃ P', hm_X8_known P (ad 0) a b = some ((sKnown A a b).1, P') ∧ CC t0 ad (sKnown A a b).2 P' := by
  unfold hm_X8_known sKnown
  simp only [ck_t, nn_s, bd_s, lt_t, c_personAt h, h.k0, show (64 : Int32) = nI 64 from rfl, c_within P b (show 64 < 2 ^ 31 by decide)]
  cases h1 : ix 8 a with
  | none => exact ⟨P, rfl, h⟩
  | some p =>
  cases h2 : ix 64 b with
  | none => exact ⟨P, rfl, h⟩
  | some k =>
  obtain ⟨hp, rfl⟩ := ix_s (by decide) h1
  obtain ⟨hk, rfl⟩ := ix_s (by decide) h2
  obtain ⟨p0, p1, p2⟩ := h.2.1 p hp
  have n1 := isome_n (show (some k : Option Nat) = some k from rfl)
  simp only [Option.map_some, nlS, if_neg n1, ck_t, nn_s, bd_s, lt_t, h.kP hp, p1]
  have f : frI ad A P (pIu P (ad (20 + p)) 1 (nI k)) (fun i => i = 20 + p) := h.fI (lv_p hp) rfl
  obtain ⟨h1, h2, h3, h4, h5, h6, h7, h8, h9, h10, h11⟩ := h
  refine ⟨_, rfl, h1.fI f, fun p' hp' => ?_, h3.fI f (by omega) (fun w hw => ⟨by omega, by omega⟩), h4.fI f (by omega) (fun i hi => by omega), h5.fI f (by omega) (by omega), h6.fI f (by omega), h7.fI f (fun t ht => by omega), h8.fI f (by omega) (by omega), h9.fI f (by omega), h10.fI f, h11.fI f⟩
  show _ ∧ _ = nI (va_up (aKn A) p k p') ∧ _
  by_cases q : p' = p
  · subst q
    rw [pIu_eq, va_up_self]
    exact ⟨p0, rfl, p2⟩
  · rw [f.2.2.2.2.2.2 _ (lv_p hp') (by omega), va_up_ne _ _ q]
    exact h2 p' hp'
theorem cu_show (hW : WF A) (h : CC t0 ad A P) (a : Int32) : ∃ P', hm_X8_show P (ad 0) a = some ((sShow A a).1, P') ∧ CC t0 ad (sShow A a).2 P' := by
  obtain ⟨-, -, -, -, f4, -⟩ := h.r
  unfold hm_X8_show sShow
  simp only [ck_t, nn_s, bd_s, lt_t, h.k0, show (1024 : Int32) = nI 1024 from rfl, c_within P a (show 1024 < 2 ^ 31 by decide)]
  cases h2 : ix 1024 a with
  | none => exact ⟨P, rfl, h⟩
  | some k =>
  obtain ⟨hk, rfl⟩ := ix_s (by decide) h2
  have n1 := isome_n (show (some k : Option Nat) = some k from rfl)
  simp only [if_neg n1, ck_t, nn_s, bd_s, lt_t, h.k0, f4, h.k5, h.now.1]
  have f : frI ad A P (pIu P (ad 5) 0 (nI k)) (fun i => i = 5) := h.fI (lv_i (by decide)) rfl
  obtain ⟨h1, h2, h3, h4, h5, h6, h7, h8, h9, h10, h11⟩ := h
  refine ⟨_, rfl, h1.fI f, h2.fI f (fun p hp => by omega), h3.fI f (by omega) (fun w hw => ⟨by omega, by omega⟩), h4.fI f (by omega) (fun i hi => by omega), h5.fI f (by omega) (by omega), ?_, h7.fI f (fun t ht => by omega), h8.fI f (by omega) (by omega), h9.fI f (by omega), h10.fI f, h11.fI f⟩
  unfold C6
  rw [pIu_eq]
  exact ⟨rfl, h6.2.1, h6.2.2⟩
theorem cu_judge (hW : WF A) (h : CC t0 ad A P) (a : Int32) : ∃ P', hm_X8_judge P (ad 0) a = some ((sJudge A a).1, P') ∧ CC t0 ad (sJudge A a).2 P' := by
  have hR := wfR hW
  obtain ⟨-, -, f2, -, f4, -⟩ := h.r
  have rs := h.rs
  have e9 : (1 : Int32) <<< (nI (aR A) &&& 31) = nI (2 ^ aR A) := shl_n (by omega)
  have h2R : 2 ^ aR A < 2 ^ 31 := Nat.pow_lt_pow_right (by decide) (by omega)
  unfold hm_X8_judge sJudge
  simp only [ck_t, nn_s, bd_s, lt_t, h.k0, f2, rs.sz, rs.k, e9, c_within P a h2R]
  cases h2 : ix (2 ^ aR A) a with
  | none => exact ⟨P, rfl, h⟩
  | some k =>
  obtain ⟨hk, rfl⟩ := ix_s h2R h2
  have n1 := isome_n (show (some k : Option Nat) = some k from rfl)
  simp only [if_neg n1, ck_t, nn_s, bd_s, lt_t, h.k0, f4, h.k5, h.now.2.1]
  have f : frI ad A P (pIu P (ad 5) 1 (nI k)) (fun i => i = 5) := h.fI (lv_i (by decide)) rfl
  obtain ⟨h1, h2, h3, h4, h5, h6, h7, h8, h9, h10, h11⟩ := h
  refine ⟨_, rfl, h1.fI f, h2.fI f (fun p hp => by omega), h3.fI f (by omega) (fun w hw => ⟨by omega, by omega⟩), h4.fI f (by omega) (fun i hi => by omega), h5.fI f (by omega) (by omega), ?_, h7.fI f (fun t ht => by omega), h8.fI f (by omega) (by omega), h9.fI f (by omega), h10.fI f, h11.fI f⟩
  unfold C6
  rw [pIu_eq]
  exact ⟨h6.1, rfl, h6.2.2⟩
-- feed
theorem c_app (hW : WF A) (h : CC t0 ad A P) (hl : (aTx A).length < 100) (y : Int32) : ∃ P', hm_X3_append P (ad 4) y.toInt8.toInt32 = some (0, P') ∧ CC t0 ad (uT A (aTx A ++ [byt y])) P' := by
  obtain ⟨c5, c5b⟩ := h.2.2.2.2.1
  have r0 := h.1.2.2.2.2.2.1
  have n11 := h.1.2.2.2.2.2.2.2.2.2.1
  have z1 : ¬ nI (aTx A).length < 0 := nI_pos (by omega)
  have z2 : ¬ nI 100 ≤ nI (aTx A).length := by rw [le_n (by omega) (by omega)]; omega
  have hne : ad 4 ≠ ad 11 := h.ne (lv_i (by decide)) (lv_i (by decide)) (by decide)
  have e1 : nI (aTx A).length + (1 : Int32) = nI ((aTx A).length + 1) := by rw [q1, nI_add]
  have f1 : frI ad A P (pIu P (ad 11) (aTx A).length y.toInt8.toInt32) (fun i => i = 4 ∨ i = 11) := h.fI (lv_i (by decide)) (Or.inr rfl)
  have f2 : frI ad A (pIu P (ad 11) (aTx A).length y.toInt8.toInt32) (pIu (pIu P (ad 11) (aTx A).length y.toInt8.toInt32) (ad 4) 2 (nI ((aTx A).length + 1))) (fun i => i = 4 ∨ i = 11) := ⟨rfl, rfl, rfl, rfl, rfl, rfl, fun i hi hn => pIu_ne (h.ne hi (lv_i (by decide)) (fun z => hn (Or.inl z)))⟩
  have f := f1.tr f2
  refine ⟨pIu (pIu P (ad 11) (aTx A).length y.toInt8.toInt32) (ad 4) 2 (nI ((aTx A).length + 1)), ?_, ?_⟩
  · unfold hm_X3_append
    have ek : y.toInt8.toInt32.toInt8.toInt32 = y.toInt8.toInt32 := by rw [Int8.toInt8_toInt32]
    simp only [ck_t, nn_s, bd_s, lt_t, h.k4, c5, if_neg z1, r0, h.k11, n11, if_neg z2, vin_n (show (aTx A).length < 2 ^ 31 by omega), decide_eq_true hl, nI_clamp (show (aTx A).length < 2 ^ 31 by omega), pIu_kk, pIu_ne hne, ek, e1]
  · obtain ⟨h1, h2, h3, h4, h5, h6, h7, h8, h9, h10, h11⟩ := h
    refine ⟨h1.fI f, h2.fI f (fun p hp => by omega), h3.fI f (by omega) (fun w hw => ⟨by omega, by omega⟩), h4.fI f (by omega) (fun i hi => by omega), ?_, h6.fI f (by omega), h7.fI f (fun t ht => by omega), h8.fI f (by omega) (by omega), h9.fI f (by omega), h10.fI f, h11.fI f⟩
    refine ⟨?_, fun i c hc => ?_⟩
    · rw [pIu_eq]
      show nI ((aTx A).length + 1) = nI (aTx A ++ [byt y]).length
      rw [List.length_append]
      rfl
    · have hc' : (aTx A ++ [byt y])[i]? = some c := hc
      rw [pIu_ne (Ne.symm hne), pIu_eq]
      show (if i = (aTx A).length then y.toInt8.toInt32 else pI P (ad 11) i) = sx c
      by_cases q : i = (aTx A).length
      · subst q
        rw [List.getElem?_append_right (Nat.le_refl _), Nat.sub_self] at hc'
        obtain rfl : byt y = c := Option.some.inj hc'
        rw [if_pos rfl]
        exact (byt_ok y).symm
      · have hi := (List.getElem?_eq_some_iff.mp hc').1
        rw [List.length_append] at hi
        simp at hi
        rw [List.getElem?_append_left (by omega)] at hc'
        rw [if_neg q]
        exact c5b i c hc'
theorem c_fdl (x : Int32) : ∀ (k fuel : Nat) (A : AA) (P : PS), WF A → CC t0 ad A P → (aTx A).length + k ≤ 100 → k ≤ 4 → k < fuel → ∃ P', hm_X8_feed_32L fuel (ad 0) x (nI k - nI 1) P = some (nI ((aTx A).length + k), P') ∧ CC t0 ad (uT A (aTx A ++ fdL x k)) P' := by
  intro k
  induction k with
  | zero =>
    intro fuel A P hW h hl hk4 hf
    obtain ⟨fu, rfl⟩ : ∃ fu, fuel = fu + 1 := ⟨fuel - 1, by omega⟩
    obtain ⟨-, -, -, f3, -⟩ := h.r
    have c5 := h.2.2.2.2.1.1
    refine ⟨P, ?_, ?_⟩
    · show hm_X8_feed_32 _ _ _ _ _ = _
      unfold hm_X8_feed_32
      rw [if_pos (show nI 0 - nI 1 < 0 by decide)]
      simp only [ck_t, nn_s, bd_s, lt_t, h.k0, f3, h.k4, c5, Nat.add_zero]
    · show CC t0 ad (uT A (aTx A ++ [])) P
      rw [List.append_nil]
      exact h
  | succ k ih =>
    intro fuel A P hW h hl hk4 hf
    obtain ⟨fu, rfl⟩ : ∃ fu, fuel = fu + 1 := ⟨fuel - 1, by omega⟩
    obtain ⟨-, -, -, f3, -⟩ := h.r
    obtain ⟨P1, e1, h1⟩ := c_app hW h (by omega) (x >>> (nI (8 * k) &&& 31))
    have hW1 : WF (uT A (aTx A ++ [byt (x >>> (nI (8 * k) &&& 31))])) := by
      obtain ⟨w1, w2, w3, w4, w5, w6, w7, w8⟩ := hW
      refine ⟨w1, w2, w3, w4, w5, ?_, ?_, w8⟩
      · show (aTx A ++ [byt (x >>> (nI (8 * k) &&& 31))]).length ≤ 100
        rw [List.length_append]
        simp
        omega
      · intro c hc
        rcases List.mem_append.mp hc with z | z
        · exact w7 c z
        · rw [List.mem_singleton.mp z]; exact byt_lt _
    have e0 := nIs (n := k) (by omega)
    have hneg : ¬ nI k < 0 := nI_pos (n := k) (by omega)
    have e8 : (8 : Int32) * nI k = nI (8 * k) := by rw [q8, pk_mul]
    have e3 : nI k + -1 = nI k - nI 1 := (Int32.sub_eq_add_neg _ _).symm
    have hlen : (aTx (uT A (aTx A ++ [byt (x >>> (nI (8 * k) &&& 31))]))).length = (aTx A).length + 1 := by
      show (aTx A ++ [byt (x >>> (nI (8 * k) &&& 31))]).length = _
      rw [List.length_append]
      rfl
    obtain ⟨P2, e2, h2⟩ := ih fu (uT A (aTx A ++ [byt (x >>> (nI (8 * k) &&& 31))])) P1 hW1 h1 (by rw [hlen]; omega) (by omega) (by omega)
    rw [hlen] at e2
    refine ⟨P2, ?_, ?_⟩
    · show hm_X8_feed_32 _ _ _ _ _ = _
      unfold hm_X8_feed_32
      rw [e0, if_neg hneg]
      simp only [ck_t, nn_s, bd_s, lt_t, h.k0, f3, h.k4, e8, e1, e3, e2]
      congr 3
      omega
    · have : uT (uT A (aTx A ++ [byt (x >>> (nI (8 * k) &&& 31))])) ((aTx A ++ [byt (x >>> (nI (8 * k) &&& 31))]) ++ fdL x k) = uT A (aTx A ++ fdL x (k + 1)) := by
        show uT A ((aTx A ++ [byt (x >>> (nI (8 * k) &&& 31))]) ++ fdL x k) = _
        rw [List.append_assoc]
        rfl
      rw [← this]
      exact h2
theorem cu_feed (hW : WF A) (h : CC t0 ad A P) (a b : Int32) : ∃ P', hm_X8_feed P (ad 0) a b = some ((sFeed A a b).1, P') ∧ CC t0 ad (sFeed A a b).2 P' := by
  have hl := hW.2.2.2.2.2.1
  obtain ⟨-, -, -, f3, -⟩ := h.r
  have c5 := h.2.2.2.2.1.1
  unfold hm_X8_feed sFeed
  simp only [ck_t, nn_s, bd_s, lt_t, h.k0, f3, h.k4, c5, show (5 : Int32) = nI 5 from rfl, c_within P b (show 5 < 2 ^ 31 by decide)]
  cases h2 : ix 5 b with
  | none => exact ⟨P, rfl, h⟩
  | some n =>
  obtain ⟨hn, rfl⟩ := ix_s (by decide) h2
  have n1 := isome_n (show (some n : Option Nat) = some n from rfl)
  have z : nI (aTx A).length + nI n ≤ 100 ↔ (aTx A).length + n ≤ 100 := by rw [nI_add, q100, le_n (by omega) (by decide)]
  rw [if_neg n1]
  by_cases c : (aTx A).length + n ≤ 100
  · rw [if_pos (z.mpr c)]
    simp only [if_pos c]
    obtain ⟨P', e, h'⟩ := c_fdl (t0 := t0) (ad := ad) a n 4000 A P hW h c (by omega) (by omega)
    exact ⟨P', e, h'⟩
  · rw [if_neg (fun y => c (z.mp y))]
    simp only [if_neg c]
    exact ⟨P, rfl, h⟩
end PCU
