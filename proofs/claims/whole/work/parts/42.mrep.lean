-- the reference's memory holds the state
section PM
def ltr (s : Nat) : Nat := if s < 3 then 107 else if s < 6 then 104 else if s = 7 then 117 else if s = 10 then 98 else if s = 13 then 99 else if s = 16 then 101 else 115
def sgn (s : Nat) : Nat := if s % 3 = 0 then 60 else if s % 3 = 1 then 61 else 62
def eM (t : Nat) : Nat := if t = 210 then 33 else if t = 220 then 38 else if t = 230 then 124 else 1000 * ltr (t / 10) + 10 * sgn (t / 10) + t % 10
def MW (A : AA) (S : MS) : Prop := S.1 0 = nI (aN A) ∧ ∀ w, w < 14 → (w < aN A → S.2.1 4 w = nI (aK A w) ∧ S.2.1 5 w = nI (aB A w) ∧ S.2.1 6 w = nI (aF A w)) ∧ S.2.1 7 w = nI (aP A w).length ∧ ∀ k, k < (aP A w).length → S.2.1 8 (4 * w + k) = nI ((aP A w).getD k 0)
def MCl (S : MS) (r k : Nat) (c : Nat × Nat × List Nat) : Prop := S.2.1 15 (6 * r + k) = nI c.1 ∧ (c.1 = 2 → S.2.1 16 (6 * r + k) = nI c.2.1) ∧ ∃ f, S.2.1 17 (6 * r + k) = nI f ∧ S.2.1 18 (6 * r + k) = nI (f + c.2.2.length) ∧ 100 * r ≤ f ∧ f + c.2.2.length ≤ 100 * r + 100 ∧ ∀ i t, c.2.2[i]? = some t → S.2.1 19 (f + i) = nI (eM t)
def MRl (A : AA) (S : MS) : Prop := S.1 9 = nI (aR A) ∧ ∀ r, r < aR A → S.2.1 13 r = nI (aL A r) ∧ S.2.1 14 r = nI (aC A r).length ∧ ∀ k c, (aC A r)[k]? = some c → MCl S r k c
def MT (A : AA) (S : MS) : Prop := ∀ t, t < 6 → S.2.1 36 t = aTs A t ∧ S.2.1 37 t = nI (aTl A t) ∧ ∀ i, i < 60 → S.2.2 38 (60 * t + i) = aTi A t i
def MM (A : AA) (S : MS) : Prop := MW A S ∧ MRl A S ∧ (∀ p, p < 8 → S.2.1 3 p = nI (aKn A p)) ∧ S.1 1 = nI (aSh A) ∧ S.1 2 = nI (aJu A) ∧ S.1 10 = nI (aTx A).length ∧ (∀ i c, (aTx A)[i]? = some c → S.2.1 12 i = (nI c).toInt8.toInt32) ∧ S.1 34 = nI (aRn A) ∧ (∀ i, i < 20 → i < aRn A → S.2.1 35 i = nI (aBd A i)) ∧ MT A S
def MVw (v : VV) (S : MS) : Prop := S.1 24 = nI v.1 ∧ S.1 25 = nI v.2.1 ∧ v.1 < 1024 ∧ v.2.1 < 1024 ∧ (∀ p, p < 8 → S.2.1 27 p = nI (v.2.2.1 p) ∧ v.2.2.1 p < 100) ∧ ∀ w, w < 14 → v.2.2.2 w = decide (nI w = S.1 26)
def MV (A : AA) (v : VV) (S : MS) : Prop := WF A ∧ MM A S ∧ MVw v S
-- frames: which int fields and which rows may change
def Fm (I R : List Nat) (S S' : MS) : Prop := (∀ k, k ∉ I → S'.1 k = S.1 k) ∧ (∀ k, k ∉ R → S'.2.1 k = S.2.1 k) ∧ S'.2.2 = S.2.2
theorem Fm.rf {I R : List Nat} {S : MS} : Fm I R S S := ⟨fun _ _ => rfl, fun _ _ => rfl, rfl⟩
theorem Fm.tr {I R : List Nat} {S T U : MS} (h : Fm I R S T) (g : Fm I R T U) : Fm I R S U := ⟨fun k q => (g.1 k q).trans (h.1 k q), fun k q => (g.2.1 k q).trans (h.2.1 k q), g.2.2.trans h.2.2⟩
theorem Fm.wk {I R I' R' : List Nat} {S T : MS} (h : Fm I R S T) (hI : I ⊆ I') (hR : R ⊆ R') : Fm I' R' S T := ⟨fun k q => h.1 k (fun z => q (hI z)), fun k q => h.2.1 k (fun z => q (hR z)), h.2.2⟩
theorem Fm.mP {I R : List Nat} {S : MS} {k : Nat} {x : Int32} (h : k ∈ I) : Fm I R S (mP S k x) := by
  refine ⟨fun j q => ?_, fun _ _ => rfl, rfl⟩
  have : j ≠ k := fun e => q (e ▸ h)
  show upd S.1 k x j = _
  exact pk_un this
theorem Fm.mR {I R : List Nat} {S : MS} {k i : Nat} {x : Int32} (h : k ∈ R) : Fm I R S (mR S k i x) := by
  refine ⟨fun _ _ => rfl, fun j q => ?_, rfl⟩
  have : j ≠ k := fun e => q (e ▸ h)
  exact va_up_ne _ _ this
theorem mR_s {S : MS} {k i j : Nat} {x : Int32} : (mR S k i x).2.1 k j = if j = i then x else S.2.1 k j := by
  show va_up S.2.1 k (upd (S.2.1 k) i x) k j = _
  rw [va_up_self]
  by_cases h : j = i
  · subst h
    rw [if_pos rfl, pk_us]
  · rw [if_neg h, pk_un h]
theorem mR_n {S : MS} {k l i : Nat} {x : Int32} (h : l ≠ k) : (mR S k i x).2.1 l = S.2.1 l := va_up_ne _ _ h
theorem mR_i {S : MS} {k i : Nat} {x : Int32} : (mR S k i x).1 = S.1 := rfl
theorem mR_l {S : MS} {k i : Nat} {x : Int32} : (mR S k i x).2.2 = S.2.2 := rfl
theorem mP_r {S : MS} {k : Nat} {x : Int32} : (mP S k x).2 = S.2 := rfl
theorem mP_s {S : MS} {k : Nat} {x : Int32} : (mP S k x).1 k = x := pk_us
theorem mP_n {S : MS} {k l : Nat} {x : Int32} (h : l ≠ k) : (mP S k x).1 l = S.1 l := pk_un h
def scI : List Nat := [11, 20, 22, 23, 24, 25, 26]
def scR : List Nat := [21, 27, 28, 29, 30, 31, 32, 33]
theorem MM.fm {A : AA} {S T : MS} (h : MM A S) (f : Fm scI scR S T) : MM A T := by
  obtain ⟨f1, f2, f3⟩ := f
  unfold MM MW MRl MCl MT at *
  simp only [f1 0 (by decide), f1 1 (by decide), f1 2 (by decide), f1 9 (by decide), f1 10 (by decide), f1 34 (by decide), f2 3 (by decide), f2 4 (by decide), f2 5 (by decide), f2 6 (by decide), f2 7 (by decide), f2 8 (by decide), f2 12 (by decide), f2 13 (by decide), f2 14 (by decide), f2 15 (by decide), f2 16 (by decide), f2 17 (by decide), f2 18 (by decide), f2 19 (by decide), f2 35 (by decide), f2 36 (by decide), f2 37 (by decide), f3]
  exact h
def ev1 : List Nat := [28]
def ev2 : List Nat := [28, 29]
def ev6 : List Nat := [28, 29, 30, 31, 32, 33]
theorem MV.fm {A : AA} {v : VV} {S T : MS} (h : MV A v S) (f : Fm [] ev6 S T) : MV A v T := by
  refine ⟨h.1, h.2.1.fm (f.wk (fun _ q => nomatch q) (by decide)), ?_⟩
  have h3 := h.2.2
  unfold MVw at h3 ⊢
  rw [f.1 24 (by decide), f.1 25 (by decide), f.1 26 (by decide), f.2.1 27 (by decide)]
  exact h3
theorem MV.f1 {A : AA} {v : VV} {S T : MS} (h : MV A v S) (f : Fm [] ev1 S T) : MV A v T := h.fm (f.wk (fun _ q => q) (by decide))
theorem MV.f2 {A : AA} {v : VV} {S T : MS} (h : MV A v S) (f : Fm [] ev2 S T) : MV A v T := h.fm (f.wk (fun _ q => q) (by decide))
theorem Fm.e2 {I : List Nat} {S T : MS} (f : Fm I ev1 S T) : Fm I ev2 S T := f.wk (fun _ q => q) (by decide)
-- small methods
theorem ix_pos (n : Nat) (a : Int32) (hn : n < 2 ^ 30) : decide (¬ (a < nI 0) ∧ ¬ (nI n - nI 1 < a)) = (ix n a).isSome := by
  have hn' : n < 2 ^ 31 := by omega
  have e1 : (nI n - nI 1).toInt = (n : Int) - 1 := pk_sub_toInt hn (by decide)
  have e0 : (nI 0).toInt = 0 := rfl
  rcases pk_ix a hn' with q | q | ⟨j, hj, rfl⟩
  · have : ix n a = none := by unfold ix; rw [if_pos (Or.inl q)]
    rw [this]
    have : a < nI 0 := q
    simp [this]
  · have : ix n a = none := by unfold ix; rw [if_pos (Or.inr q)]
    rw [this]
    have h2 : nI n - nI 1 < a := by
      rw [Int32.lt_iff_toInt_lt, e1]
      rw [Int32.le_iff_toInt_le, nI_toInt hn'] at q
      omega
    simp [h2]
  · rw [ix_i hj hn']
    have h1 : ¬ nI j < nI 0 := by rw [lt_n (by omega) (by decide)]; omega
    have h2 : ¬ (nI n - nI 1 < nI j) := by
      rw [Int32.lt_iff_toInt_lt, e1, nI_toInt (by omega)]
      omega
    simp [h1, h2]
theorem m_in (S : MS) (n : Nat) (a : Int32) (hn : n < 2 ^ 30) : mm_in S a (nI 0) (nI n - nI 1) = some (nI (ix n a).isSome.toNat, S) := by
  rw [← ix_pos n a hn]
  unfold mm_in mm_in_14
  by_cases h1 : a < nI 0
  · rw [decide_eq_false (fun q => q.1 h1), if_pos h1]
    rfl
  · by_cases h2 : nI n - nI 1 < a
    · rw [decide_eq_false (fun q => q.2 h2), if_neg h1, if_pos h2]
      rfl
    · rw [decide_eq_true (p := ¬ (a < nI 0) ∧ ¬ (nI n - nI 1 < a)) ⟨h1, h2⟩, if_neg h1, if_neg h2]
      rfl
theorem m_in' (S : MS) (m : Nat) (a : Int32) (hn : m + 1 < 2 ^ 30) : mm_in S a (nI 0) (nI m) = some (nI (ix (m + 1) a).isSome.toNat, S) := by
  rw [← m_in S (m + 1) a hn, pk_sub (by omega)]
  rfl
theorem m_has (S : MS) {a k : Nat} (ha : a < 2 ^ 31) (hk : k < 32) : mm_has S (nI a) (nI k) = some (nI (a.testBit k).toNat, S) := by
  unfold mm_has
  simp only [q1, bit_n ha hk]
  cases a.testBit k <;> rfl
theorem m_isW {A : AA} {S : MS} (h : WF A) (g : MM A S) (a : Int32) : mm_isWord S a = some (nI (ix (aN A) a).isSome.toNat, S) := by
  have := wfN h
  unfold mm_isWord
  simp only [q0, q1, q2, q3, q4, q5, q6, q7, q8, q9, q10, q11, q14, q20, q32, q33, q38, q40, q41, q48, q57, q59, q60, q61, q62, q98, q99, q100, q101, q104, q107, q115, q117, q124, q1000, q1023, q1024]
  rw [g.1.1, m_in S _ a (by omega), bd_s, z01_b, ck_t]
theorem m_isR {A : AA} {S : MS} (h : WF A) (g : MM A S) (a : Int32) : mm_isRule S a = some (nI (ix (aR A) a).isSome.toNat, S) := by
  have := wfR h
  unfold mm_isRule
  simp only [q0, q1, q2, q3, q4, q5, q6, q7, q8, q9, q10, q11, q14, q20, q32, q33, q38, q40, q41, q48, q57, q59, q60, q61, q62, q98, q99, q100, q101, q104, q107, q115, q117, q124, q1000, q1023, q1024]
  rw [g.2.1.1, m_in S _ a (by omega), bd_s, z01_b, ck_t]
theorem m_isL (S : MS) (a : Int32) : mm_isLand S a = some (nI (ix 2 a).isSome.toNat, S) := by
  unfold mm_isLand
  simp only [q0, q1, q2, q3, q4, q5, q6, q7, q8, q9, q10, q11, q14, q20, q32, q33, q38, q40, q41, q48, q57, q59, q60, q61, q62, q98, q99, q100, q101, q104, q107, q115, q117, q124, q1000, q1023, q1024]
  rw [m_in' S 1 a (by decide), bd_s, z01_b, ck_t]
theorem m_isE (S : MS) (a : Int32) : mm_isEnd S a = some (nI (ix 4 a).isSome.toNat, S) := by
  unfold mm_isEnd
  simp only [q0, q1, q2, q3, q4, q5, q6, q7, q8, q9, q10, q11, q14, q20, q32, q33, q38, q40, q41, q48, q57, q59, q60, q61, q62, q98, q99, q100, q101, q104, q107, q115, q117, q124, q1000, q1023, q1024]
  rw [m_in' S 3 a (by decide), bd_s, z01_b, ck_t]
theorem m_isT (S : MS) (a : Int32) : mm_isTape S a = some (nI (ix 6 a).isSome.toNat, S) := by
  unfold mm_isTape
  simp only [q0, q1, q2, q3, q4, q5, q6, q7, q8, q9, q10, q11, q14, q20, q32, q33, q38, q40, q41, q48, q57, q59, q60, q61, q62, q98, q99, q100, q101, q104, q107, q115, q117, q124, q1000, q1023, q1024]
  rw [m_in' S 5 a (by decide), bd_s, z01_b, ck_t]
theorem m_und (S : MS) {k f : Nat} (hk : k < 7) (hf : f < 10) : mm_isUnder S (nI k) (nI f) = some (nI (undr k f).toNat, S) := by
  unfold mm_isUnder mm_isUnder_9 mm_isUnder_32 mm_isUnder_52
  simp (discharger := omega) only [q0, q1, q2, q3, q4, q5, q6, q7, q8, q9, q10, q11, q14, q20, q32, q33, q38, q40, q41, q48, q57, q59, q60, q61, q62, q98, q99, q100, q101, q104, q107, q115, q117, q124, q1000, q1023, q1024, nI_add, pk_mul, nI_clamp, ne_n, lt_n, le_n, vin_n, decide_true, decide_false, if_true, if_false]
  have hd : ∀ k, k < 7 → ∀ f, f < 10 → (undr k f).toNat = if f = 0 then 1 else if k = f then 1 else if f = 1 then (if k = 2 then 1 else if k = 5 then 1 else if k = 6 then 1 else 0) else if f = 2 then (if k = 5 then 1 else 0) else 0 := by decide
  rw [hd k hk f hf]
  repeat' split
  all_goals rfl
theorem m_cmp (S : MS) {g x n : Nat} (hg : g = 60 ∨ g = 61 ∨ g = 62) (hx : x < 2 ^ 31) (hn : n < 10) : mm_compares S (nI g) (nI x) (nI n) = some (nI (if g = 60 then decide (x < n) else if g = 61 then decide (x = n) else decide (n < x)).toNat, S) := by
  unfold mm_compares
  rcases hg with rfl | rfl | rfl
  · simp (discharger := omega) only [q0, q1, q2, q3, q4, q5, q6, q7, q8, q9, q10, q11, q14, q20, q32, q33, q38, q40, q41, q48, q57, q59, q60, q61, q62, q98, q99, q100, q101, q104, q107, q115, q117, q124, q1000, q1023, q1024, nI_add, pk_mul, nI_clamp, ne_n, lt_n, le_n, vin_n, decide_true, decide_false, if_true, if_false]
    by_cases h : n ≤ x
    · simp [h, Nat.not_lt.mpr h]
    · simp [h, Nat.lt_of_not_le h]
  · simp (discharger := omega) only [q0, q1, q2, q3, q4, q5, q6, q7, q8, q9, q10, q11, q14, q20, q32, q33, q38, q40, q41, q48, q57, q59, q60, q61, q62, q98, q99, q100, q101, q104, q107, q115, q117, q124, q1000, q1023, q1024, nI_add, pk_mul, nI_clamp, ne_n, lt_n, le_n, vin_n, decide_true, decide_false, if_true, if_false]
    by_cases h : x = n
    · simp [h]
    · simp [h]
  · simp (discharger := omega) only [q0, q1, q2, q3, q4, q5, q6, q7, q8, q9, q10, q11, q14, q20, q32, q33, q38, q40, q41, q48, q57, q59, q60, q61, q62, q98, q99, q100, q101, q104, q107, q115, q117, q124, q1000, q1023, q1024, nI_add, pk_mul, nI_clamp, ne_n, lt_n, le_n, vin_n, decide_true, decide_false, if_true, if_false]
    by_cases h : x ≤ n
    · simp [h, Nat.not_lt.mpr h]
    · simp [h, Nat.lt_of_not_le h]
end PM
