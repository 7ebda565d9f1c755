section PMU5
variable {A A' : AA} {S S' : MS}
def sShift (A : AA) (a b c d n : Int32) : Int32 × AA := match ix 6 a, ix 6 c with
  | some t, some o => if aTs A t = -1 ∨ aTs A o = -1 then (-11, A) else if aTs A t ≠ aTs A o then (-12, A) else (match ix 61 n, ix 61 b, ix 61 d with
    | some m, some i, some j => if i + m ≤ aTl A t ∧ j + m ≤ aTl A o then (nI m, uP A (aTs A, aTl A, va_up (aTi A) o (va_cpy (aTi A t) (aTi A o) i j m))) else (-13, A)
    | _, _, _ => (-13, A))
  | _, _ => (-1, A)
theorem mJ_n {S : MS} {k l i : Nat} {x : Int64} (h : l ≠ k) : (mJ S k i x).2.2 l = S.2.2 l := by
  show va_up S.2.2 k (vp_updL (S.2.2 k) i x) l = _
  exact va_up_ne _ _ h
theorem ix_none_i {n : Nat} {a : Int32} (hn : n < 2 ^ 31) (h : ix n a = none) : a.toInt < 0 ∨ (n : Int) ≤ a.toInt := by
  rcases ix_n h with z | z
  · left
    rw [Int32.lt_iff_toInt_lt] at z
    exact z
  · right
    rw [Int32.le_iff_toInt_le, nI_toInt hn] at z
    exact z
theorem sub_i {l : Nat} {n : Int32} (hl : l ≤ 60) (hn : 0 ≤ n.toInt) : (nI l - n).toInt = (l : Int) - n.toInt := by
  have h1 := Int32.toInt_lt n
  rw [Int32.toInt_sub, nI_toInt (by omega), Int.bmod_eq_of_le]
  · omega
  · omega
theorem m_sh1 {t i m o j : Nat} (ht : t < 6) (hi : i + m ≤ 60) : ∀ (n k fuel : Nat) (S : MS), k + n = m → n < fuel → (∀ x, x < k → S.2.2 39 x = S.2.2 38 (60 * t + i + x)) → ∃ S', mm_shift_104L fuel (nI t) (nI i) (nI o) (nI j) (nI m) (nI k) S = mm_shift_141L 4000 (nI o) (nI j) (nI m) (nI 0) S' ∧ S'.1 = S.1 ∧ S'.2.1 = S.2.1 ∧ S'.2.2 38 = S.2.2 38 ∧ ∀ x, x < m → S'.2.2 39 x = S.2.2 38 (60 * t + i + x) := by
  intro n
  induction n with
  | zero =>
    intro k fuel S hk hf hz
    obtain ⟨fu, rfl⟩ : ∃ fu, fuel = fu + 1 := ⟨fuel - 1, by omega⟩
    obtain rfl : k = m := by omega
    refine ⟨S, ?_, rfl, rfl, rfl, hz⟩
    show mm_shift_104 _ _ _ _ _ _ _ _ = _
    unfold mm_shift_104
    simp (discharger := omega) only [nI_add, pk_mul, nI_clamp, ne_n, lt_n, le_n, vin_n, decide_true, decide_false, if_true, if_false, lt_t, q0, Nat.le_refl]
  | succ n ih =>
    intro k fuel S hk hf hz
    obtain ⟨fu, rfl⟩ : ∃ fu, fuel = fu + 1 := ⟨fuel - 1, by omega⟩
    have hk1 : ¬ m ≤ k := by omega
    have h360 : 60 * t + i + k < 360 := by omega
    have h60 : k < 60 := by omega
    have e38 : ∀ x y, (mJ S 39 x y).2.2 38 = S.2.2 38 := fun x y => mJ_n (by decide)
    obtain ⟨S', e, a1, a2, a3, a4⟩ := ih (k + 1) fu (mJ S 39 k (S.2.2 38 (60 * t + i + k))) (by omega) (by omega) (fun x hx => by
      rw [mJ_s, e38]
      by_cases q : x = k
      · rw [if_pos q, q]
      · rw [if_neg q]
        exact hz x (by omega))
    refine ⟨S', ?_, a1, a2, a3.trans (e38 _ _), fun x hx => by rw [a4 x hx, e38]⟩
    show mm_shift_104 _ _ _ _ _ _ _ _ = _
    unfold mm_shift_104
    simp (discharger := omega) only [q60, q1, bd_s, ck_t, lt_t, nI_add, pk_mul, nI_clamp, ne_n, lt_n, le_n, vin_n, decide_true, decide_false, if_true, if_false, hk1, h360, h60]
    exact e
theorem m_sh2 {m o j : Nat} (ho : o < 6) (hj : j + m ≤ 60) : ∀ (n k fuel : Nat) (S : MS), k + n = m → n < fuel → ∃ S', mm_shift_141L fuel (nI o) (nI j) (nI m) (nI k) S = some (nI m, S') ∧ S'.1 = S.1 ∧ S'.2.1 = S.2.1 ∧ S'.2.2 39 = S.2.2 39 ∧ (∀ x, (x < 60 * o + j + k ∨ 60 * o + j + m ≤ x) → S'.2.2 38 x = S.2.2 38 x) ∧ ∀ x, k ≤ x → x < m → S'.2.2 38 (60 * o + j + x) = S.2.2 39 x := by
  intro n
  induction n with
  | zero =>
    intro k fuel S hk hf
    obtain ⟨fu, rfl⟩ : ∃ fu, fuel = fu + 1 := ⟨fuel - 1, by omega⟩
    obtain rfl : k = m := by omega
    refine ⟨S, ?_, rfl, rfl, rfl, fun _ _ => rfl, fun x h1 h2 => absurd h2 (by omega)⟩
    show mm_shift_141 _ _ _ _ _ _ = _
    unfold mm_shift_141
    simp (discharger := omega) only [nI_add, pk_mul, nI_clamp, ne_n, lt_n, le_n, vin_n, decide_true, decide_false, if_true, if_false, Nat.le_refl]
  | succ n ih =>
    intro k fuel S hk hf
    obtain ⟨fu, rfl⟩ : ∃ fu, fuel = fu + 1 := ⟨fuel - 1, by omega⟩
    have hk1 : ¬ m ≤ k := by omega
    have h360 : 60 * o + j + k < 360 := by omega
    have h60 : k < 60 := by omega
    obtain ⟨S', e, a1, a2, a3, a4, a5⟩ := ih (k + 1) fu (mJ S 38 (60 * o + j + k) (S.2.2 39 k)) (by omega) (by omega)
    have e39 : (mJ S 38 (60 * o + j + k) (S.2.2 39 k)).2.2 39 = S.2.2 39 := mJ_n (by decide)
    refine ⟨S', ?_, a1, a2, a3.trans e39, fun x hx => ?_, fun x h1 h2 => ?_⟩
    · show mm_shift_141 _ _ _ _ _ _ = _
      unfold mm_shift_141
      simp (discharger := omega) only [q60, q1, bd_s, ck_t, lt_t, nI_add, pk_mul, nI_clamp, ne_n, lt_n, le_n, vin_n, decide_true, decide_false, if_true, if_false, hk1, h360, h60]
      exact e
    · rw [a4 x (by omega), mJ_s, if_neg (by omega)]
    · by_cases q : x = k
      · rw [q, a4 _ (by omega), mJ_s, if_pos rfl]
      · rw [a5 x (by omega) h2, e39]
theorem mu_shift (h : WF A) (g : MM A S) (a b c d n : Int32) : ∃ S', mm_shift S a b c d n = some ((sShift A a b c d n).1, S') ∧ MM (sShift A a b c d n).2 S' ∧ WF (sShift A a b c d n).2 := by
  unfold mm_shift mm_shift_16 mm_shift_36 mm_shift_98 sShift
  simp only [m_isT, bd_s, q0, b2_0]
  cases h1 : ix 6 a with
  | none => exact ⟨S, rfl, g, h⟩
  | some t =>
  cases h2 : ix 6 c with
  | none => exact ⟨S, rfl, g, h⟩
  | some o =>
  obtain ⟨ht, rfl⟩ := ix_s (by decide) h1
  obtain ⟨ho, rfl⟩ := ix_s (by decide) h2
  have gP := g.2.2.2.2.2.2.2.2.2
  obtain ⟨g36, g37, g38⟩ := gP t ht
  obtain ⟨k36, k37, k38⟩ := gP o ho
  obtain ⟨-, hl, -⟩ := h.2.2.2.2.2.2.2.2.2 t ht
  obtain ⟨-, kl, -⟩ := h.2.2.2.2.2.2.2.2.2 o ho
  simp (discharger := omega) only [Option.isSome_some, reduceCtorEq, if_false, vin_n, nI_clamp, ht, ho, decide_true, ck_t, g36, g37, k36, k37, srt_lt h ht, srt_ge h ho]
  by_cases c1 : aTs A t = -1
  · simp only [c1, true_or, if_true]
    exact ⟨S, rfl, g, h⟩
  · by_cases c2 : aTs A o = -1
    · simp only [c1, c2, or_true, if_true, not_true_eq_false, if_false]
      exact ⟨S, rfl, g, h⟩
    · simp only [c1, c2, or_self, not_false_eq_true, if_true, if_false]
      by_cases c3 : aTs A t = aTs A o
      · rw [if_pos c3, if_neg (show ¬ (aTs A t ≠ aTs A o) from fun z => z c3)]
        have fail : ∀ (P : Prop), (P → False) → True := fun _ _ => trivial
        have hbad : (¬ ∃ m i j, n = nI m ∧ b = nI i ∧ d = nI j ∧ m ≤ 60 ∧ i ≤ 60 ∧ j ≤ 60 ∧ i + m ≤ aTl A t ∧ j + m ≤ aTl A o) → (match ix 61 n, ix 61 b, ix 61 d with
            | some m, some i, some j => if i + m ≤ aTl A t ∧ j + m ≤ aTl A o then (nI m, uP A (aTs A, aTl A, va_up (aTi A) o (va_cpy (aTi A t) (aTi A o) i j m))) else (-13, A)
            | _, _, _ => (-13, A)) = (-13, A) := by
          intro hn
          cases e1 : ix 61 n with
          | none => rfl
          | some m =>
            cases e2 : ix 61 b with
            | none => rfl
            | some i =>
              cases e3 : ix 61 d with
              | none => rfl
              | some j =>
                obtain ⟨x1, x2⟩ := ix_s (by decide) e1
                obtain ⟨y1, y2⟩ := ix_s (by decide) e2
                obtain ⟨z1, z2⟩ := ix_s (by decide) e3
                show (if _ then _ else _) = _
                rw [if_neg (fun z => hn ⟨m, i, j, x2, y2, z2, by omega, by omega, by omega, z.1, z.2⟩)]
        have hi0 : (nI 0).toInt = 0 := rfl
        by_cases d1 : n < nI 0
        · rw [hbad (fun ⟨m, i, j, x2, _, _, x3, _⟩ => by rw [x2] at d1; exact nI_pos (show m < 2 ^ 31 by omega) d1)]
          simp only [d1, if_true]
          exact ⟨S, rfl, g, h⟩
        · by_cases d2 : b < nI 0
          · rw [hbad (fun ⟨m, i, j, _, x2, _, _, x3, _⟩ => by rw [x2] at d2; exact nI_pos (show i < 2 ^ 31 by omega) d2)]
            simp only [d1, d2, if_true, if_false]
            exact ⟨S, rfl, g, h⟩
          · by_cases d3 : d < nI 0
            · rw [hbad (fun ⟨m, i, j, _, _, x2, _, _, x3, _⟩ => by rw [x2] at d3; exact nI_pos (show j < 2 ^ 31 by omega) d3)]
              simp only [d1, d2, d3, if_true, if_false]
              exact ⟨S, rfl, g, h⟩
            · have n0 : 0 ≤ n.toInt := by rw [Int32.lt_iff_toInt_lt, hi0] at d1; omega
              have b0 : 0 ≤ b.toInt := by rw [Int32.lt_iff_toInt_lt, hi0] at d2; omega
              have dd0 : 0 ≤ d.toInt := by rw [Int32.lt_iff_toInt_lt, hi0] at d3; omega
              have s1 := sub_i hl n0
              have s2 := sub_i kl n0
              by_cases d4 : nI (aTl A t) - n < b
              · rw [hbad (fun ⟨m, i, j, x1, x2, x3, y1, y2, y3, z1, z2⟩ => by
                  rw [Int32.lt_iff_toInt_lt, s1, x1, x2, nI_toInt (by omega), nI_toInt (by omega)] at d4
                  omega)]
                simp only [d1, d2, d3, d4, if_true, if_false]
                exact ⟨S, rfl, g, h⟩
              · by_cases d5 : d ≤ nI (aTl A o) - n
                · rw [Int32.lt_iff_toInt_lt, s1] at d4
                  have d5' := d5
                  rw [Int32.le_iff_toInt_le, s2] at d5'
                  obtain ⟨m, hm, rfl⟩ := nI_of (x := n) (by rw [Int32.lt_iff_toInt_lt]; show ¬ n.toInt < 0; omega)
                  obtain ⟨i, hi, rfl⟩ := nI_of (x := b) (by rw [Int32.lt_iff_toInt_lt]; show ¬ b.toInt < 0; omega)
                  obtain ⟨j, hj, rfl⟩ := nI_of (x := d) (by rw [Int32.lt_iff_toInt_lt]; show ¬ d.toInt < 0; omega)
                  rw [nI_toInt hm, nI_toInt hi] at d4
                  rw [nI_toInt hm, nI_toInt hj] at d5'
                  have him : i + m ≤ aTl A t := by omega
                  have hjm : j + m ≤ aTl A o := by omega
                  have d4' : ¬ nI (aTl A t) - nI m < nI i := by
                    rw [Int32.lt_iff_toInt_lt, s1, nI_toInt hm, nI_toInt hi]
                    omega
                  rw [ix_i (show m < 61 by omega) (by decide), ix_i (show i < 61 by omega) (by decide), ix_i (show j < 61 by omega) (by decide)]
                  simp only [d1, d2, d3, d4', d5, him, hjm, and_self, if_true, if_false]
                  obtain ⟨S1, e1, a1, a2, a3, a4⟩ := m_sh1 (o := o) (j := j) ht (show i + m ≤ 60 by omega) m 0 4000 S (by omega) (by omega) (fun x hx => absurd hx (Nat.not_lt_zero x))
                  obtain ⟨S2, e2, b1, b2, b3, b4, b5⟩ := m_sh2 ho (show j + m ≤ 60 by omega) m 0 4000 S1 (by omega) (by omega)
                  refine ⟨S2, by rw [lt_t, e1, e2], uP_MM g (fun u hu => ⟨?_, ?_, fun x hx => ?_⟩) (b1.trans a1) (fun k _ => by rw [b2, a2]), ⟨h.1, h.2.1, h.2.2.1, h.2.2.2.1, h.2.2.2.2.1, h.2.2.2.2.2.1, h.2.2.2.2.2.2.1, h.2.2.2.2.2.2.2.1, fun _ => rfl, h.2.2.2.2.2.2.2.2.2⟩⟩
                  · rw [b2, a2]; exact (gP u hu).1
                  · rw [b2, a2]; exact (gP u hu).2.1
                  · show S2.2.2 38 (60 * u + x) = va_up (aTi A) o (va_cpy (aTi A t) (aTi A o) i j m) u x
                    rw [va_upN]
                    by_cases e : u = o
                    · rw [if_pos e, e]
                      by_cases y : j ≤ x ∧ x < j + m
                      · rw [pk_cpy_in y.1 y.2]
                        have := b5 (x - j) (Nat.zero_le _) (by omega)
                        rw [show 60 * o + j + (x - j) = 60 * o + x by omega] at this
                        rw [this, a4 _ (by omega), show 60 * t + i + (x - j) = 60 * t + (i + (x - j)) by omega]
                        exact g38 _ (by omega)
                      · rw [pk_cpy_out (by omega), b4 _ (by omega), a3]
                        exact k38 x hx
                    · rw [if_neg e, b4 _ (by omega), a3]
                      exact (gP u hu).2.2 x hx
                · rw [hbad (fun ⟨m, i, j, x1, x2, x3, y1, y2, y3, z1, z2⟩ => by
                    rw [Int32.le_iff_toInt_le, s2, x1, x3, nI_toInt (by omega), nI_toInt (by omega)] at d5
                    omega)]
                  simp only [d1, d2, d3, d4, d5, if_false]
                  exact ⟨S, rfl, g, h⟩
      · rw [if_neg c3, if_pos c3]
        exact ⟨S, rfl, g, h⟩
end PMU5
