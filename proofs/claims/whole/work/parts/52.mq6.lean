section PMQ6
variable {A : AA} {v : VV} {S : MS}
theorem MVw_ju {v : VV} {S : MS} {ju : Nat} (h : MVw v S) (hs : ju < 1024) : MVw (v.1, ju, v.2.2) (mP S 25 (nI ju)) := by
  obtain ⟨a, b, c, d, e, f⟩ := h
  exact ⟨by rw [mP_n (by decide)]; exact a, mP_s, c, hs, e, fun w hw => by rw [mP_n (by decide)]; exact f w hw⟩
theorem m_hg39 {r ju : Nat} (h : MV A v S) (hr : r < aR A) (hj : ju < 1024) {k8 : Int32 → Int32 → Int32 → MS → Option (Int32 × MS)} {x2 x3 : Int32} : ∃ S', mm_hangsOf_39 k8 (nI r) x2 x3 (nI ju) S = mm_hangsOf_59L k8 4000 (nI r) x2 x3 (nI 0) S' ∧ MV A (v.1, ju, v.2.2) S' ∧ HO S' (hrd A (v.1, ju, v.2.2) (aL A r)) (aN A) ∧ S'.2.1 32 = S.2.1 32 := by
  have hR := wfR h.1
  have hL := wfL h.1 hr
  have f1 : Fm [25] [] S (mP S 25 (nI ju)) := Fm.mP (by decide)
  have h1 : MV A (v.1, ju, v.2.2) (mP S 25 (nI ju)) := ⟨h.1, h.2.1.fm (f1.wk (by decide) (by decide)), MVw_ju h.2.2 hj⟩
  obtain ⟨S1, y, e1, f2, o1⟩ := m_fh h1 (Nat.le_refl _) hL
  have g13 := (h1.2.1.2.1.2 r hr).1
  have hr10 : r < 10 := by omega
  refine ⟨S1, ?_, h1.f2 f2, o1, by rw [f2.2.1 32 (by decide)]; rfl⟩
  unfold mm_hangsOf_39
  simp (discharger := omega) only [lt_t, vin_n, nI_clamp, hr10, decide_true, ck_t, g13, h1.2.1.1.1, e1, bd_s, q0]
theorem m_hgs (h : WF A) (g : MM A S) {r : Nat} (hr : r < aR A) : ∃ S', mm_hangsOf S (nI r) = some (nI (hgs A r), S') ∧ MM A S' := by
  have hR := wfR h
  have hN := wfN h
  have hJ := wfJ' h
  have hr32 : r < 32 := by omega
  obtain ⟨S0, x, e0, f0, v0'⟩ := m_asIs h g
  have hjm : sd (aJu A) (2 ^ r) < 1024 := Nat.lt_of_le_of_lt (sd_le _ _) hJ
  have hjp : aJu A ||| 2 ^ r < 1024 := or1024 hJ (Nat.lt_of_lt_of_le (Nat.pow_lt_pow_right (by decide) (show r < 10 by omega)) (by decide))
  have hcl := cn_le (fun k => hgE A (vp A r) (aL A r) k != hgE A (vm A r) (aL A r) k) (4 * aN A)
  obtain ⟨S1, e1, m1, o1, -⟩ := m_hg39 (k8 := mm_hangsOf_8L 3999) (x2 := nI 0) (x3 := nI 0) v0' hr hjm
  have m1' : MV A (vm A r) S1 := m1
  obtain ⟨S2, e2, f2, w2⟩ := m_hg0 hr (v := vm A r) (k8 := mm_hangsOf_8L 3999) (x2 := nI 0) (4 * aN A) 0 4000 S1 m1' o1 (fun i hi => absurd hi (Nat.not_lt_zero i)) (by omega) (by omega)
  have m2 := m1'.f3 f2
  obtain ⟨S3, e3, m3, o3, hw3⟩ := m_hg39 (k8 := mm_hangsOf_8L 3998) (x2 := nI 0) (x3 := nI 1) m2 hr hjp
  have m3' : MV A (vp A r) S3 := m3
  have w3 : HW S3 (hgE A (vm A r) (aL A r)) (4 * aN A) := fun i hi => by rw [hw3]; exact w2 i hi
  obtain ⟨S4, e4, f4⟩ := m_hg1 hr (v := vp A r) (f0 := hgE A (vm A r) (aL A r)) (k8 := mm_hangsOf_8L 3998) (4 * aN A) 0 4000 S3 m3' o3 w3 (by omega) (by omega)
  refine ⟨S4, ?_, (m3'.f3 f4).2.1⟩
  have g2 := v0'.2.1.2.2.2.2.1
  have g2' := m2.2.1.2.2.2.2.1
  have s1 : mm_hangsOf_8L 4000 (nI r) (nI 0) (nI 0) S0 = mm_hangsOf_39 (mm_hangsOf_8L 3999) (nI r) (nI 0) (nI 0) (nI (sd (aJu A) (2 ^ r))) S0 := by
    show mm_hangsOf_8 (mm_hangsOf_8L 3999) _ _ _ _ = _
    unfold mm_hangsOf_8
    have := sd_n (aJu A) (2 ^ r)
    rw [g2, show (1 : Int32) <<< (nI r &&& 31) = nI (2 ^ r) from shl_n hr32, this]
    rfl
  have s2 : mm_hangsOf_8L 3999 (nI r) (nI 0) (nI 1) S2 = mm_hangsOf_39 (mm_hangsOf_8L 3998) (nI r) (nI 0) (nI 1) (nI (aJu A ||| 2 ^ r)) S2 := by
    show mm_hangsOf_8 (mm_hangsOf_8L 3998) _ _ _ _ = _
    unfold mm_hangsOf_8
    rw [g2', show (1 : Int32) <<< (nI r &&& 31) = nI (2 ^ r) from shl_n hr32, or_n]
    rfl
  have s3 : ∀ x, mm_hangsOf_8L 3998 (nI r) x (nI 2) S4 = some (x, S4) := by
    intro x
    show mm_hangsOf_8 (mm_hangsOf_8L 3997) _ _ _ _ = _
    unfold mm_hangsOf_8
    rfl
  unfold mm_hangsOf
  rw [e0, bd_s, lt_t, lt_t, q0, s1, e1, e2, s2, e3]
  have e4' : mm_hangsOf_59L (mm_hangsOf_8L 3998) 4000 (nI r) (nI 0) (nI 1) (nI 0) S3 = _ := e4
  rw [e4', s3]
  rfl
def sHangs (A : AA) (a : Int32) : Int32 := match ix (aR A) a with
  | some r => nI (hgs A r)
  | none => -1
theorem mq_hangs (h : WF A) (g : MM A S) (a : Int32) : ∃ S', mm_hangs S a = some (sHangs A a, S') ∧ MM A S' := by
  unfold mm_hangs sHangs
  simp only [q0, q1, q2, q3, q4, q5, q6, q7, q8, q9, q10, q11, q14, q20, q32, q33, q38, q40, q41, q48, q57, q59, q60, q61, q62, q98, q99, q100, q101, q104, q107, q115, q117, q124, q1000, q1023, q1024, m_isR h g, bd_s, ck_t, lt_t, b2_0]
  cases h3 : ix (aR A) a with
  | none => exact ⟨S, by simp [q1], g⟩
  | some r =>
  have hR := wfR h
  obtain ⟨hr, rfl⟩ := ix_s (by omega) h3
  obtain ⟨S1, e1, m1⟩ := m_hgs h g hr
  refine ⟨S1, ?_, m1⟩
  simp only [Option.isSome_some, reduceCtorEq, if_false, bd_s, e1]
def mst (A : AA) : Nat → Int32 × Int32
  | 0 => (-5, -1)
  | r + 1 => if (mst A r).2 < nI (hgs A r) then (nI r, nI (hgs A r)) else mst A r
def sMost (A : AA) : Int32 := (mst A (aR A)).1
theorem m_mostl (h : WF A) : ∀ (n k fuel : Nat) (S : MS), MM A S → k + n = aR A → n < fuel → ∃ S', mm_most_7L fuel (mst A k).1 (mst A k).2 (nI k) S = some ((mst A (aR A)).1, S') ∧ MM A S' := by
  intro n
  induction n with
  | zero =>
    intro k fuel S g hk hf
    obtain ⟨fu, rfl⟩ : ∃ fu, fuel = fu + 1 := ⟨fuel - 1, by omega⟩
    have hR := wfR h
    obtain rfl : k = aR A := by omega
    have g9 := g.2.1.1
    refine ⟨S, ?_, g⟩
    show mm_most_7 _ _ _ _ _ = _
    unfold mm_most_7
    simp (discharger := omega) only [nI_add, pk_mul, nI_clamp, ne_n, lt_n, le_n, vin_n, decide_true, decide_false, if_true, if_false, g9, Nat.le_refl]
  | succ n ih =>
    intro k fuel S g hk hf
    obtain ⟨fu, rfl⟩ : ∃ fu, fuel = fu + 1 := ⟨fuel - 1, by omega⟩
    have hR := wfR h
    have g9 := g.2.1.1
    have hk1 : ¬ aR A ≤ k := by omega
    obtain ⟨S1, e1, m1⟩ := m_hgs h g (show k < aR A by omega)
    obtain ⟨S2, e2, m2⟩ := ih (k + 1) fu S1 m1 (by omega) (by omega)
    refine ⟨S2, ?_, m2⟩
    show mm_most_7 _ _ _ _ _ = _
    unfold mm_most_7 mm_most_36
    simp (discharger := omega) only [bd_s, ck_t, lt_t, nI_add, le_n, g9, hk1, e1, if_false, q1]
    have hm : mst A (k + 1) = if (mst A k).2 < nI (hgs A k) then (nI k, nI (hgs A k)) else mst A k := rfl
    rw [hm] at e2
    by_cases c : (mst A k).2 < nI (hgs A k)
    · rw [if_pos c] at e2 ⊢
      exact e2
    · rw [if_neg c] at e2 ⊢
      exact e2
theorem mq_most (h : WF A) (g : MM A S) : ∃ S', mm_most S = some (sMost A, S') ∧ MM A S' := by
  have hR := wfR h
  obtain ⟨S', e, m⟩ := m_mostl h (aR A) 0 4000 S g (by omega) (by omega)
  refine ⟨S', ?_, m⟩
  unfold mm_most
  rw [lt_t, lt_t, lt_t, q0]
  exact e
end PMQ6
