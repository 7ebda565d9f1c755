-- the class's constructor: the whole
section PCIN3
variable {t0 : TS} {P P' : PS} {z : Nat} {A : AA} {ad : DD}
theorem ad0_p {t p : Nat} (hp : p < 8) : ad0 t z (20 + p) = z + 14 + p := by
  unfold ad0
  rw [if_neg (by omega), if_neg (by omega), if_neg (by omega), if_neg (by omega), if_neg (by omega), if_neg (by omega), if_neg (by omega), if_neg (by omega), if_neg (by omega), if_neg (by omega), if_neg (by omega), if_pos (by omega)]
  omega
theorem ad0_t {t k : Nat} (hk : k < 6) : ad0 t z (30 + k) = z + 22 + 2 * k ∧ ad0 t z (40 + k) = z + 23 + 2 * k := by
  unfold ad0
  refine ⟨?_, ?_⟩
  · rw [if_neg (by omega), if_neg (by omega), if_neg (by omega), if_neg (by omega), if_neg (by omega), if_neg (by omega), if_neg (by omega), if_neg (by omega), if_neg (by omega), if_neg (by omega), if_neg (by omega), if_neg (by omega), if_pos (by omega)]
    omega
  · rw [if_neg (by omega), if_neg (by omega), if_neg (by omega), if_neg (by omega), if_neg (by omega), if_neg (by omega), if_neg (by omega), if_neg (by omega), if_neg (by omega), if_neg (by omega), if_neg (by omega), if_neg (by omega), if_neg (by omega)]
    omega
theorem c_init8 (h1 : kk P z 9 = true) (hz : CZ t0 P) (hZ : pZ P = z + 1) (hr : pR P z = fun _ => none) : ∃ P', hm_X8_init t0 P z = some (0, P') ∧ CC t0 (ad0 t0.1 z) A00 P' := by
  have g0 : STG t0 z (z + 1) (fun _ => none) P := ⟨h1, hz, hZ, Nat.lt_succ_self z, fun j => by rw [hr]⟩
  unfold hm_X8_init hm_X5_init
  -- persons' row
  rw [lt_t, g0.2.2.1, lt_t, show (8 : Int32).toNatClampNeg = 8 from rfl]
  obtain ⟨P1, e1, t1, g1, f1, k1, n1, i1, j1, r1⟩ := stA g0 15 8 0
  rw [t1, ck_t, lt_t, ← e1]
  clear e1 t1
  replace g1 : STG t0 z (z + 2) _ P1 := g1
  -- words, rules
  rw [lt_t, g1.2.2.1, lt_t]
  obtain ⟨N, P2, c2, e2, t2, g2, f2, l2⟩ := stL g1 1
  rw [c2, bd_s, t2, ck_t, lt_t, ← e2]
  clear e2 t2 c2
  replace g2 : STG t0 z (z + 3) _ P2 := g2
  rw [lt_t, g2.2.2.1, lt_t]
  obtain ⟨N, P3, c3, e3, t3, g3, f3, l3⟩ := stL g2 2
  rw [c3, bd_s, t3, ck_t, lt_t, ← e3]
  clear e3 t3 c3
  replace g3 : STG t0 z (z + 4) _ P3 := g3
  -- reader
  rw [lt_t, g3.2.2.1, lt_t]
  obtain ⟨N, P4, c4, e4, t4, g4, f4, k4, k5, k6, r4, r5, n5, n6, i4⟩ := stR g3 3
  rw [c4, bd_s, t4, ck_t, lt_t, ← e4]
  clear e4 t4 c4
  replace g4 : STG t0 z (z + 7) _ P4 := g4
  -- stands
  rw [lt_t, g4.2.2.1, lt_t, bd_s]
  obtain ⟨P5, e5, t5, g5, f5, k7, n7, i7, j7, r7⟩ := stA g4 6 0 4
  rw [t5, ck_t, lt_t, ← e5]
  clear e5 t5
  replace g5 : STG t0 z (z + 8) _ P5 := g5
  rw [lt_t, g5.2.2.1, lt_t, bd_s]
  obtain ⟨P6, e6, t6, g6, f6, k8, n8, i8, j8, r8⟩ := stA g5 6 0 5
  rw [t6, ck_t, lt_t, ← e6]
  clear e6 t6
  replace g6 : STG t0 z (z + 9) _ P6 := g6
  -- tapes' row
  rw [lt_t, g6.2.2.1, lt_t, show (6 : Int32).toNatClampNeg = 6 from rfl]
  obtain ⟨P7, e7, t7, g7, f7, k9, n9, i9, j9, r9⟩ := stA g6 16 6 6
  rw [t7, ck_t, lt_t, ← e7]
  clear e7 t7
  replace g7 : STG t0 z (z + 10) _ P7 := g7
  -- bodies
  rw [lt_t, g7.2.2.1, lt_t]
  obtain ⟨N, P8, c8, e8, t8, g8, f8, k10, k11, r10, n11, i10⟩ := stB g7 7
  rw [c8, bd_s, t8, ck_t, lt_t, ← e8]
  clear e8 t8 c8
  replace g8 : STG t0 z (z + 12) _ P8 := g8
  -- waiting
  rw [lt_t, g8.2.2.1, lt_t]
  obtain ⟨N, P9, c9, e9, t9, g9, f9, l12⟩ := stL g8 8
  rw [c9, bd_s, t9, ck_t, lt_t, ← e9]
  clear e9 t9 c9
  replace g9 : STG t0 z (z + 13) _ P9 := g9
  -- orders
  rw [lt_t, g9.2.2.1, lt_t, show (32 : Int32).toNatClampNeg = 32 from rfl]
  obtain ⟨P10, e10, t10, g10, f10, k13, n13, i13, j13, r13⟩ := stA g9 12 32 9
  rw [t10, ck_t, lt_t, ← e10, lt_t]
  clear e10 t10
  replace g10 : STG t0 z (z + 14) _ P10 := g10
  have q9 := f10
  have q8 := f9.tr q9
  have q7 := f8.tr q8
  have q6 := f7.tr q7
  have q5 := f6.tr q6
  have q4 := f5.tr q5
  have q3 := f4.tr q4
  have q2 := f3.tr q3
  have q1' := f2.tr q2
  have z1 := g1.2.2.1
  have z2 := g2.2.2.1
  have z3 := g3.2.2.1
  have z4 := g4.2.2.1
  have z5 := g5.2.2.1
  have z6 := g6.2.2.1
  have z7 := g7.2.2.1
  have z8 := g8.2.2.1
  have z9 := g9.2.2.1
  have z10 := g10.2.2.1
  obtain ⟨P11, e11, g11, f11, kp11, hp11⟩ := c_i109 (pa := z + 1) (zb := z + 14) rfl (by omega) (by omega) 8 0 10 P10 (by decide) (by decide) g10 (q1'.2.2.2.2.1 _ _ k1) (by rw [q1'.2.2.2.1 _ (by omega)]; exact n1) (fun p hp => absurd hp (Nat.not_lt_zero _))
  obtain ⟨P12, e12, g12, f12, kp12, hp12⟩ := c_i140 (ta := z + 9) (zb := z + 22) rfl (by omega) (by omega) 6 0 10 P11 (by decide) (by decide) g11 (f11.2.2.2.2.1 _ _ (q7.2.2.2.2.1 _ _ k9)) (by rw [f11.2.2.2.1 _ (by omega), q7.2.2.2.1 _ (by omega)]; exact n9) (fun p hp => absurd hp (Nat.not_lt_zero _))
  have z11 := g11.2.2.1
  refine ⟨P12, by rw [show (0 : Int32) = nI 0 from rfl, e11]; exact e12, ?_⟩
  -- what stands at the end
  have fin : ∀ Q, SFR z Q P10 → (∀ a, a < pZ Q → pI P12 a = pI Q a) ∧ (∀ a, a < pZ Q → pN P12 a = pN Q a) ∧ (∀ a c, kk Q a c = true → kk P12 a c = true) ∧ ∀ a, a < pZ Q → a ≠ z → a ≠ z + 1 → a ≠ z + 9 → pR P12 a = pR Q a := fun Q q => by
    have y := (q.2.2.2.2.2)
    refine ⟨fun a x => ?_, fun a x => ?_, fun a c x => f12.2.2.2.2.1 _ _ (f11.2.2.2.2.1 _ _ (q.2.2.2.2.1 _ _ x)), fun a x x1 x2 x3 => ?_⟩
    · rw [f12.1 a (by omega), f11.1 a (by omega), q.1 a x]
    · rw [f12.2.2.2.1 a (by omega), f11.2.2.2.1 a (by omega), q.2.2.2.1 a x]
    · rw [f12.2.1 a (by omega) x3, f11.2.1 a (by omega) x2, q.2.1 a x x1]
  have u1 := fin P1 q1'
  have u2 := fin P2 q2
  have u3 := fin P3 q3
  have u4 := fin P4 q4
  have u5 := fin P5 q5
  have u6 := fin P6 q6
  have u7 := fin P7 q7
  have u8 := fin P8 q8
  have u9 := fin P9 q9
  have u10 := fin P10 SFR.rf
  have hth : ∀ j, j < 10 → pR P12 z j = some (ad0 t0.1 z (j + 1)) := by
    intro j hj
    rw [g12.2.2.2.2 j]
    have : j = 0 ∨ j = 1 ∨ j = 2 ∨ j = 3 ∨ j = 4 ∨ j = 5 ∨ j = 6 ∨ j = 7 ∨ j = 8 ∨ j = 9 := by omega
    rcases this with rfl | rfl | rfl | rfl | rfl | rfl | rfl | rfl | rfl | rfl <;> rfl
  have hpp : ∀ p, p < 8 → PF P12 (z + 1) (z + 14) p := fun p hp => by
    obtain ⟨p1, p2, p3, p4, p5⟩ := hp11 p hp
    exact ⟨by rw [f12.2.1 _ (by omega) (by omega)]; exact p1, f12.2.2.2.2.1 _ _ p2, by rw [f12.1 _ (by omega)]; exact p3, by rw [f12.1 _ (by omega)]; exact p4, by rw [f12.1 _ (by omega)]; exact p5⟩
  have lw : ∀ {Q : PS} {l : Nat}, LW t0 Q l t0.1 0 → l < pZ Q → l ≠ z → l ≠ z + 1 → l ≠ z + 9 → SFR z Q P10 → LW t0 P12 l t0.1 0 := by
    intro Q l hl hlt x1 x2 x3 q
    obtain ⟨a1, a2, a3, a4, a5⟩ := hl
    obtain ⟨b1, b2, b3, b4⟩ := fin Q q
    exact ⟨b3 _ _ a1, by rw [b4 l hlt x1 x2 x3]; exact a2, by rw [b1 l hlt]; exact a3, by decide, Or.inr ⟨rfl, rfl⟩⟩
  have w2 := lw l2 (by omega) (by omega) (by omega) (by omega) q2
  have w3 := lw l3 (by omega) (by omega) (by omega) (by omega) q3
  have w12 := lw l12 (by omega) (by omega) (by omega) (by omega) q9
  have kk0 : kk P12 z 9 = true := g12.1
  refine ⟨⟨hth, ?_, fun p hp => ?_, ?_, fun t ht => ?_, ?_, ?_, ?_, ?_, ?_, ?_, ?_⟩, fun p hp => ?_, ⟨⟨w2, fun k hk => absurd hk (Nat.not_lt_zero _)⟩, fun w hw => absurd hw (Nat.not_lt_zero _)⟩, ⟨⟨w3, fun k hk => absurd hk (Nat.not_lt_zero _)⟩, fun w hw => absurd hw (Nat.not_lt_zero _)⟩, ⟨?_, fun i c hc => by cases hc⟩, ⟨?_, ?_, ?_⟩, fun t ht => ?_, ⟨?_, fun i hi hi2 => absurd hi2 (Nat.not_lt_zero _)⟩, ⟨0, w12⟩, ⟨fun i hi => ?_, fun i j hi hj e => ?_, fun i j hi hj e ht => ?_⟩, g12.2.1⟩
  · show pN P12 (z + 1) = 8
    rw [u1.2.1 _ (by omega)]; exact n1
  · rw [ad0_p hp]
    exact (hpp p hp).1
  · show pN P12 (z + 9) = 6
    rw [u7.2.1 _ (by omega)]; exact n9
  · obtain ⟨a1, a2⟩ := ad0_t (t := t0.1) (z := z) ht
    obtain ⟨b1, b2, b3, b4, b5, b6, b7, b8⟩ := hp12 t ht
    rw [a1, a2]
    have e : z + 23 + 2 * t = z + 22 + 2 * t + 1 := by omega
    rw [e]
    exact ⟨b1, b4, b5⟩
  · show pR P12 (z + 4) 0 = some (z + 5)
    rw [u4.2.2.2 _ (by omega) (by omega) (by omega) (by omega)]; exact r4
  · show pR P12 (z + 4) 1 = some (z + 6)
    rw [u4.2.2.2 _ (by omega) (by omega) (by omega) (by omega)]; exact r5
  · show pR P12 (z + 10) 0 = some (z + 11)
    rw [u8.2.2.2 _ (by omega) (by omega) (by omega) (by omega)]; exact r10
  · show pN P12 (z + 13) = 32
    rw [u10.2.1 _ (by omega)]; exact n13
  · show pN P12 (z + 5) = 100
    rw [u4.2.1 _ (by omega)]; exact n5
  · show pN P12 (z + 6) = 100
    rw [u4.2.1 _ (by omega)]; exact n6
  · show pN P12 (z + 11) = 20
    rw [u8.2.1 _ (by omega)]; exact n11
  · rw [ad0_p hp]
    obtain ⟨p1, p2, p3, p4, p5⟩ := hpp p hp
    exact ⟨p3, p4, p5⟩
  · show pI P12 (z + 4) 2 = nI 0
    rw [u4.1 _ (by omega), i4]; rfl
  · show pI P12 (z + 7) 0 = nI 0
    rw [u5.1 _ (by omega), i7]; rfl
  · show pI P12 (z + 7) 1 = nI 0
    rw [u5.1 _ (by omega), i7]; rfl
  · show pI P12 (z + 7) 2 = nI 0
    rw [u5.1 _ (by omega), i7]; rfl
  · obtain ⟨a1, a2⟩ := ad0_t (t := t0.1) (z := z) ht
    obtain ⟨b1, b2, b3, b4, b5, b6, b7, b8⟩ := hp12 t ht
    rw [a1, a2]
    have e : z + 23 + 2 * t = z + 22 + 2 * t + 1 := by omega
    rw [e]
    exact ⟨b6, b7, fun i hi => by rw [b8]; rfl⟩
  · show pI P12 (z + 10) 1 = nI 0
    rw [u8.1 _ (by omega), i10]; rfl
  · have hi' : i ≤ 13 ∨ (20 ≤ i ∧ i < 28) ∨ (30 ≤ i ∧ i < 36) ∨ (40 ≤ i ∧ i < 46) := by
      rcases hi with h | h | h | h | h | h | h | h | ⟨r, k, h, -⟩
      · exact Or.inl h
      · exact Or.inr (Or.inl h)
      · exact Or.inr (Or.inr (Or.inl h))
      · exact Or.inr (Or.inr (Or.inr h))
      · have : aN A00 = 0 := rfl
        omega
      · have : aN A00 = 0 := rfl
        omega
      · have : aR A00 = 0 := rfl
        omega
      · have : aR A00 = 0 := rfl
        omega
      · exact absurd h (Nat.not_lt_zero _)
    rcases hi' with h | h | h | h
    · have : i = 0 ∨ i = 1 ∨ i = 2 ∨ i = 3 ∨ i = 4 ∨ i = 5 ∨ i = 6 ∨ i = 7 ∨ i = 8 ∨ i = 9 ∨ i = 10 ∨ i = 11 ∨ i = 12 ∨ i = 13 := by omega
      rcases this with rfl | rfl | rfl | rfl | rfl | rfl | rfl | rfl | rfl | rfl | rfl | rfl | rfl | rfl
      · exact kk0
      · exact u1.2.2.1 _ _ k1
      · exact w2.1
      · exact w3.1
      · exact u4.2.2.1 _ _ k4
      · exact u5.2.2.1 _ _ k7
      · exact u6.2.2.1 _ _ k8
      · exact u7.2.2.1 _ _ k9
      · exact u8.2.2.1 _ _ k10
      · exact w12.1
      · exact u10.2.2.1 _ _ k13
      · exact u4.2.2.1 _ _ k5
      · exact u4.2.2.1 _ _ k6
      · exact u8.2.2.1 _ _ k11
    · obtain ⟨p, rfl⟩ : ∃ p, i = 20 + p := ⟨i - 20, by omega⟩
      rw [ad0_p (by omega), kd_p p (by omega)]
      exact (hpp p (by omega)).2.1
    · obtain ⟨t, rfl⟩ : ∃ t, i = 30 + t := ⟨i - 30, by omega⟩
      rw [(ad0_t (by omega)).1, (kd_t t (by omega)).1]
      exact (hp12 t (by omega)).2.1
    · obtain ⟨t, rfl⟩ : ∃ t, i = 40 + t := ⟨i - 40, by omega⟩
      rw [(ad0_t (by omega)).2, (kd_t t (by omega)).2]
      have e : z + 23 + 2 * t = z + 22 + 2 * t + 1 := by omega
      rw [e]
      exact (hp12 t (by omega)).2.2.1
  · have dn : ∀ i, lv A00 i → i ≤ 13 ∨ (20 ≤ i ∧ i < 28) ∨ (30 ≤ i ∧ i < 36) ∨ (40 ≤ i ∧ i < 46) := by
      intro i hi
      rcases hi with h | h | h | h | h | h | h | h | ⟨r, k, h, -⟩
      · exact Or.inl h
      · exact Or.inr (Or.inl h)
      · exact Or.inr (Or.inr (Or.inl h))
      · exact Or.inr (Or.inr (Or.inr h))
      · have : aN A00 = 0 := rfl
        omega
      · have : aN A00 = 0 := rfl
        omega
      · have : aR A00 = 0 := rfl
        omega
      · have : aR A00 = 0 := rfl
        omega
      · exact absurd h (Nat.not_lt_zero _)
    have hi' := dn i hi
    have hj' := dn j hj
    have inv : ∀ i, (i ≤ 13 ∨ (20 ≤ i ∧ i < 28) ∨ (30 ≤ i ∧ i < 36) ∨ (40 ≤ i ∧ i < 46)) → ∃ d, ad0 t0.1 z i = z + d ∧ (d < 5 ∧ i = d ∨ d = 7 ∧ i = 5 ∨ d = 8 ∧ i = 6 ∨ d = 9 ∧ i = 7 ∨ d = 10 ∧ i = 8 ∨ d = 12 ∧ i = 9 ∨ d = 13 ∧ i = 10 ∨ d = 5 ∧ i = 11 ∨ d = 6 ∧ i = 12 ∨ d = 11 ∧ i = 13 ∨ (14 ≤ d ∧ d < 22 ∧ i = d + 6) ∨ (22 ≤ d ∧ d < 34 ∧ (d = 22 + 2 * (i - 30) ∧ 30 ≤ i ∧ i < 36 ∨ d = 23 + 2 * (i - 40) ∧ 40 ≤ i ∧ i < 46))) := by
      intro i h
      rcases h with h | h | h | h
      · have : i = 0 ∨ i = 1 ∨ i = 2 ∨ i = 3 ∨ i = 4 ∨ i = 5 ∨ i = 6 ∨ i = 7 ∨ i = 8 ∨ i = 9 ∨ i = 10 ∨ i = 11 ∨ i = 12 ∨ i = 13 := by omega
        rcases this with rfl | rfl | rfl | rfl | rfl | rfl | rfl | rfl | rfl | rfl | rfl | rfl | rfl | rfl
        · exact ⟨0, rfl, by omega⟩
        · exact ⟨1, rfl, by omega⟩
        · exact ⟨2, rfl, by omega⟩
        · exact ⟨3, rfl, by omega⟩
        · exact ⟨4, rfl, by omega⟩
        · exact ⟨7, rfl, by omega⟩
        · exact ⟨8, rfl, by omega⟩
        · exact ⟨9, rfl, by omega⟩
        · exact ⟨10, rfl, by omega⟩
        · exact ⟨12, rfl, by omega⟩
        · exact ⟨13, rfl, by omega⟩
        · exact ⟨5, rfl, by omega⟩
        · exact ⟨6, rfl, by omega⟩
        · exact ⟨11, rfl, by omega⟩
      · obtain ⟨p, rfl⟩ : ∃ p, i = 20 + p := ⟨i - 20, by omega⟩
        exact ⟨14 + p, by rw [ad0_p (by omega)]; omega, by omega⟩
      · obtain ⟨t, rfl⟩ : ∃ t, i = 30 + t := ⟨i - 30, by omega⟩
        exact ⟨22 + 2 * t, by rw [(ad0_t (by omega)).1]; omega, by omega⟩
      · obtain ⟨t, rfl⟩ : ∃ t, i = 40 + t := ⟨i - 40, by omega⟩
        exact ⟨23 + 2 * t, by rw [(ad0_t (by omega)).2]; omega, by omega⟩
    obtain ⟨d, d1, d2⟩ := inv i hi'
    obtain ⟨d', d3, d4⟩ := inv j hj'
    rw [d1, d3] at e
    obtain rfl : d = d' := by omega
    omega
  · have : i = 14 ∨ i = 15 ∨ i = 16 := by
      rcases hi with h | h | h | h | h
      · exact Or.inl h
      · exact Or.inr (Or.inl h)
      · exact Or.inr (Or.inr h)
      · have : aN A00 = 0 := rfl
        omega
      · have : aR A00 = 0 := rfl
        omega
    rcases this with rfl | rfl | rfl <;> exact absurd rfl ht
theorem CC.keep (hW : WF A) (h : CC t0 ad A P) (s : SAM t0 (pZ P) (fun _ => False) (fun _ => False) P P') : CC t0 ad A P' := by
  have hN := wfN hW
  have F : FRM ad ad A P P' (fun _ => False) (fun _ => False) := s.frm h (fun _ _ => rfl) (fun _ _ _ => rfl) (fun i hi x => x) (fun i hi x => x)
  exact ⟨h.1.fM F (fun i x1 x2 x3 w => w), h.2.1.fM F (fun q hq => id), ⟨h.ws.fM F (lv_i (by decide)) (Or.inl rfl) id id id (fun j hj => rfl), fun v hv => (h.w hv).fM hW F hv id id id id id⟩, ⟨h.rs.fM F (lv_i (by decide)) (Or.inr (Or.inl rfl)) id id id (fun j hj => rfl), fun r hr => (h.ru hr).fM hW F hr (fun i hi => ⟨id, id⟩)⟩, h.2.2.2.2.1.fM F id id, h.now.fM F id, h.2.2.2.2.2.2.1.fM F (fun t ht => id), h.2.2.2.2.2.2.2.1.fM F id id, h.2.2.2.2.2.2.2.2.1.fM F id id id, ⟨fun i hi => s.kp (h.k hi), h.2.2.2.2.2.2.2.2.2.1.2⟩, s.cz⟩
end PCIN3
