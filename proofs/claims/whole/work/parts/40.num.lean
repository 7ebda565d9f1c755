-- numbers: an Int32 as nI of a Nat; sets of Nats as masks
section PN
theorem q0 : (0 : Int32) = nI 0 := rfl
theorem q1 : (1 : Int32) = nI 1 := rfl
theorem q2 : (2 : Int32) = nI 2 := rfl
theorem q3 : (3 : Int32) = nI 3 := rfl
theorem q4 : (4 : Int32) = nI 4 := rfl
theorem q5 : (5 : Int32) = nI 5 := rfl
theorem q6 : (6 : Int32) = nI 6 := rfl
theorem q7 : (7 : Int32) = nI 7 := rfl
theorem q8 : (8 : Int32) = nI 8 := rfl
theorem q9 : (9 : Int32) = nI 9 := rfl
theorem q10 : (10 : Int32) = nI 10 := rfl
theorem q11 : (11 : Int32) = nI 11 := rfl
theorem q14 : (14 : Int32) = nI 14 := rfl
theorem q20 : (20 : Int32) = nI 20 := rfl
theorem q21 : (21 : Int32) = nI 21 := rfl
theorem q22 : (22 : Int32) = nI 22 := rfl
theorem q23 : (23 : Int32) = nI 23 := rfl
theorem q32 : (32 : Int32) = nI 32 := rfl
theorem q33 : (33 : Int32) = nI 33 := rfl
theorem q38 : (38 : Int32) = nI 38 := rfl
theorem q40 : (40 : Int32) = nI 40 := rfl
theorem q41 : (41 : Int32) = nI 41 := rfl
theorem q48 : (48 : Int32) = nI 48 := rfl
theorem q57 : (57 : Int32) = nI 57 := rfl
theorem q59 : (59 : Int32) = nI 59 := rfl
theorem q60 : (60 : Int32) = nI 60 := rfl
theorem q61 : (61 : Int32) = nI 61 := rfl
theorem q62 : (62 : Int32) = nI 62 := rfl
theorem q98 : (98 : Int32) = nI 98 := rfl
theorem q99 : (99 : Int32) = nI 99 := rfl
theorem q100 : (100 : Int32) = nI 100 := rfl
theorem q101 : (101 : Int32) = nI 101 := rfl
theorem q104 : (104 : Int32) = nI 104 := rfl
theorem q107 : (107 : Int32) = nI 107 := rfl
theorem q115 : (115 : Int32) = nI 115 := rfl
theorem q117 : (117 : Int32) = nI 117 := rfl
theorem q124 : (124 : Int32) = nI 124 := rfl
theorem q1000 : (1000 : Int32) = nI 1000 := rfl
theorem q1023 : (1023 : Int32) = nI 1023 := rfl
theorem q1024 : (1024 : Int32) = nI 1024 := rfl
theorem ck_t {β : Type} {k : Option β} : ck true k = k := eq_of_heq HEq.rfl
theorem bd_s {α σ β : Type} {a : α} {s : σ} {f : α → σ → Option β} : bd (some (a, s)) f = f a s := eq_of_heq HEq.rfl
theorem lt_t {α β : Type} {a : α} {f : α → Option β} : lt_ a f = f a := eq_of_heq HEq.rfl
theorem vin_n {i n : Nat} (hi : i < 2 ^ 31) : vin (nI i) n = decide (i < n) := by
  unfold vin
  rw [nI_clamp hi]
  have := nI_pos hi
  by_cases h : i < n
  · simp [h, this, Nat.not_le.mpr h]
  · simp [h, Nat.le_of_not_lt h]
theorem z01_b (b : Bool) : z01 (nI b.toNat) = true := by cases b <;> rfl
theorem z01_0 : z01 (nI 0) = true := rfl
theorem z01_1 : z01 (nI 1) = true := rfl
theorem b2_0 (b : Bool) : (nI b.toNat = nI 0) = (b = false) := by cases b <;> simp [nI] <;> decide
theorem ne_n {a b : Nat} (ha : a < 2 ^ 31) (hb : b < 2 ^ 31) : (nI a = nI b) = (a = b) := propext (nI_eq ha hb)
theorem lt_n {a b : Nat} (ha : a < 2 ^ 31) (hb : b < 2 ^ 31) : (nI a < nI b) = (a < b) := propext (nI_ltI ha hb)
theorem le_n {a b : Nat} (ha : a < 2 ^ 31) (hb : b < 2 ^ 31) : (nI a ≤ nI b) = (a ≤ b) := propext (nI_leI ha hb)
def ix (n : Nat) (a : Int32) : Option Nat := if a < 0 ∨ nI n ≤ a then none else some a.toNatClampNeg
theorem ix_s {n : Nat} {a : Int32} {j : Nat} (hn : n < 2 ^ 31) (h : ix n a = some j) : j < n ∧ a = nI j := by
  unfold ix at h
  rcases pk_ix a hn with q | q | ⟨i, hi, rfl⟩
  · simp [q] at h
  · simp [q] at h
  · have h1 : ¬ nI i < 0 := nI_pos (by omega)
    have h2 : ¬ nI n ≤ nI i := nI_ge hi hn
    simp [h1, h2] at h
    rw [nI_clamp (by omega)] at h
    exact ⟨by omega, by rw [h]⟩
theorem ix_n {n : Nat} {a : Int32} (h : ix n a = none) : a < 0 ∨ nI n ≤ a := by
  unfold ix at h
  split at h
  · assumption
  · cases h
theorem ix_i {n j : Nat} (hj : j < n) (hn : n < 2 ^ 31) : ix n (nI j) = some j := by
  unfold ix
  have h1 : ¬ nI j < 0 := nI_pos (by omega)
  have h2 : ¬ nI n ≤ nI j := nI_ge hj hn
  simp [h1, h2]
  exact nI_clamp (by omega)
-- shifts
theorem smod_n : ∀ k, k < 32 → ((nI k &&& 31).toBitVec.smod 32).toNat = k := by decide +kernel
theorem shl_n {k : Nat} (hk : k < 32) : nI 1 <<< (nI k &&& 31) = nI (2 ^ k) := by
  rw [pk_shlN (n := 1) (nI k &&& 31) k (smod_n k hk) (by rw [Nat.one_mul]; exact Nat.pow_lt_pow_right (by decide) hk), Nat.one_mul]
theorem shr_n {a k : Nat} (ha : a < 2 ^ 31) (hk : k < 32) : nI a >>> (nI k &&& 31) = nI (a / 2 ^ k) := pk_shrN ha _ k (smod_n k hk)
theorem and_n (a b : Nat) : nI a &&& nI b = nI (a &&& b) := by
  apply Int32.toBitVec_inj.mp
  show BitVec.ofNat 32 a &&& BitVec.ofNat 32 b = BitVec.ofNat 32 (a &&& b)
  apply BitVec.eq_of_getLsbD_eq
  intro i hi
  simp [BitVec.getLsbD_and, BitVec.getLsbD_ofNat, hi]
theorem or_n (a b : Nat) : nI a ||| nI b = nI (a ||| b) := by
  apply Int32.toBitVec_inj.mp
  show BitVec.ofNat 32 a ||| BitVec.ofNat 32 b = BitVec.ofNat 32 (a ||| b)
  apply BitVec.eq_of_getLsbD_eq
  intro i hi
  simp [BitVec.getLsbD_or, BitVec.getLsbD_ofNat, hi]
theorem xor_n (a b : Nat) : nI a ^^^ nI b = nI (a ^^^ b) := by
  apply Int32.toBitVec_inj.mp
  show BitVec.ofNat 32 a ^^^ BitVec.ofNat 32 b = BitVec.ofNat 32 (a ^^^ b)
  apply BitVec.eq_of_getLsbD_eq
  intro i hi
  simp [BitVec.getLsbD_xor, BitVec.getLsbD_ofNat, hi]
def sd (a b : Nat) : Nat := a ^^^ (a &&& b)
theorem sd_t (a b i : Nat) : (sd a b).testBit i = (a.testBit i && !b.testBit i) := by
  unfold sd
  rw [Nat.testBit_xor, Nat.testBit_and]
  cases a.testBit i <;> cases b.testBit i <;> rfl
theorem sd_n (a b : Nat) : nI a &&& (nI b ^^^ (-1 : Int32)) = nI (sd a b) := by
  apply Int32.toBitVec_inj.mp
  show BitVec.ofNat 32 a &&& (BitVec.ofNat 32 b ^^^ BitVec.allOnes 32) = BitVec.ofNat 32 (sd a b)
  apply BitVec.eq_of_getLsbD_eq
  intro i hi
  simp only [BitVec.getLsbD_and, BitVec.getLsbD_xor, BitVec.getLsbD_ofNat, BitVec.getLsbD_allOnes, hi, sd_t, decide_true, Bool.true_and]
  cases a.testBit i <;> cases b.testBit i <;> rfl
theorem bit_n {a k : Nat} (ha : a < 2 ^ 31) (hk : k < 32) : (nI a >>> (nI k &&& 31)) &&& nI 1 = nI (a.testBit k).toNat := by
  rw [shr_n ha hk, and_n]
  congr 1
  rw [Nat.testBit_eq_decide_div_mod_eq, Nat.and_one_is_mod]
  have := Nat.mod_two_eq_zero_or_one (a / 2 ^ k)
  rcases this with q | q <;> simp [q]
-- masks
def msk (f : Nat → Bool) : Nat → Nat
  | 0 => 0
  | n + 1 => msk f n + (if f n = true then 2 ^ n else 0)
theorem msk_lt (f : Nat → Bool) (n : Nat) : msk f n < 2 ^ n := by
  induction n with
  | zero => exact Nat.one_pos
  | succ n ih =>
    show msk f n + _ < _
    rw [Nat.pow_succ]
    split <;> omega
theorem msk_t (f : Nat → Bool) (n i : Nat) : (msk f n).testBit i = (decide (i < n) && f i) := by
  induction n with
  | zero => simp [msk]
  | succ n ih =>
    have hl := msk_lt f n
    show (msk f n + _).testBit i = _
    by_cases hf : f n = true
    · rw [if_pos hf, Nat.add_comm]
      by_cases hi : i = n
      · subst hi
        rw [Nat.testBit_two_pow_add_eq, ih]
        simp [hf]
      · rcases Nat.lt_or_gt_of_ne hi with q | q
        · rw [Nat.testBit_two_pow_add_gt q, ih]
          simp [q, Nat.lt_succ_of_lt q]
        · have e : (2 ^ n + msk f n).testBit i = false := Nat.testBit_lt_two_pow (Nat.lt_of_lt_of_le (by rw [Nat.pow_succ]; omega) (Nat.pow_le_pow_right (by decide) q))
          rw [e]
          simp [Nat.not_lt.mpr (show n + 1 ≤ i from q)]
    · rw [if_neg hf, Nat.add_zero, ih]
      by_cases hi : i = n
      · subst hi
        simp [Bool.eq_false_iff.mpr hf]
      · have : (i < n + 1) = (i < n) := by apply propext; omega
        simp [this]
theorem msk_or (f : Nat → Bool) (n : Nat) (h : f n = true) : msk f n ||| 2 ^ n = msk f (n + 1) := by
  apply Nat.eq_of_testBit_eq
  intro i
  rw [Nat.testBit_or, msk_t, msk_t, Nat.testBit_two_pow]
  by_cases hi : n = i
  · subst hi
    simp [h]
  · have : (i < n + 1) = (i < n) := by apply propext; omega
    simp [hi, this]
theorem msk_no (f : Nat → Bool) (n : Nat) (h : f n = false) : msk f (n + 1) = msk f n := by
  show msk f n + _ = _
  rw [h]
  rfl
theorem msk_cong {f g : Nat → Bool} {n : Nat} (h : ∀ i, i < n → f i = g i) : msk f n = msk g n := by
  apply Nat.eq_of_testBit_eq
  intro i
  rw [msk_t, msk_t]
  by_cases q : i < n
  · rw [h i q]
  · simp [q]
theorem lt_pow {a n : Nat} (h : ∀ i, a.testBit i = true → i < n) : a < 2 ^ n := by
  apply Nat.lt_pow_two_of_testBit
  intro i hi
  cases q : a.testBit i with
  | false => rfl
  | true => exact absurd (h i q) (by omega)
theorem of_lt {a n i : Nat} (h : a < 2 ^ n) (hi : a.testBit i = true) : i < n := by
  rcases Nat.lt_or_ge i n with q | q
  · exact q
  · rw [Nat.testBit_lt_two_pow (Nat.lt_of_lt_of_le h (Nat.pow_le_pow_right (by decide) q))] at hi
    cases hi
theorem msk_of {a n : Nat} (h : a < 2 ^ n) : msk a.testBit n = a := by
  apply Nat.eq_of_testBit_eq
  intro i
  rw [msk_t]
  by_cases q : i < n
  · simp [q]
  · have e : a.testBit i = false := by
      cases c : a.testBit i with
      | false => rfl
      | true => exact absurd (of_lt h c) q
    simp [q, e]
theorem eq0_of {a : Nat} : a = 0 ↔ ∀ i, a.testBit i = false := by
  constructor
  · intro h i
    rw [h, Nat.zero_testBit]
  · intro h
    apply Nat.eq_of_testBit_eq
    intro i
    rw [h i, Nat.zero_testBit]
-- counts
def cn (f : Nat → Bool) : Nat → Nat
  | 0 => 0
  | n + 1 => cn f n + (f n).toNat
theorem cn_le (f : Nat → Bool) (n : Nat) : cn f n ≤ n := by
  induction n with
  | zero => exact Nat.le_refl 0
  | succ n ih =>
    show cn f n + _ ≤ _
    have := Bool.toNat_le (f n)
    omega
theorem cn_cong {f g : Nat → Bool} {n : Nat} (h : ∀ i, i < n → f i = g i) : cn f n = cn g n := by
  induction n with
  | zero => rfl
  | succ n ih =>
    show cn f n + _ = cn g n + _
    rw [ih (fun i hi => h i (by omega)), h n (by omega)]
theorem cn_mono {f g : Nat → Bool} {n : Nat} (h : ∀ i, i < n → f i = true → g i = true) : cn f n ≤ cn g n := by
  induction n with
  | zero => exact Nat.le_refl 0
  | succ n ih =>
    show cn f n + _ ≤ cn g n + _
    have h1 := ih (fun i hi => h i (by omega))
    have h2 : (f n).toNat ≤ (g n).toNat := by
      cases q : f n with
      | false => simp
      | true => rw [h n (by omega) q]; exact Nat.le_refl _
    omega
theorem cn_lt {f g : Nat → Bool} {n k : Nat} (hk : k < n) (hf : f k = false) (hg : g k = true) (h : ∀ i, i < n → f i = true → g i = true) : cn f n < cn g n := by
  induction n with
  | zero => cases hk
  | succ n ih =>
    show cn f n + _ < cn g n + _
    by_cases q : k = n
    · subst q
      have h1 := cn_mono (n := k) (fun i hi => h i (by omega))
      simp [hf, hg]
      omega
    · have h1 := ih (by omega) (fun i hi => h i (by omega))
      have h2 : (f n).toNat ≤ (g n).toNat := by
        cases q : f n with
        | false => simp
        | true => rw [h n (by omega) q]; exact Nat.le_refl _
      omega
theorem cn_rm {f g : Nat → Bool} {n k : Nat} (hk : k < n) (hf : f k = false) (hg : g k = true) (h : ∀ i, i ≠ k → f i = g i) : cn g n = cn f n + 1 := by
  induction n with
  | zero => cases hk
  | succ n ih =>
    show cn g n + _ = cn f n + _ + 1
    by_cases q : k = n
    · subst q
      rw [cn_cong (f := g) (g := f) (fun i hi => (h i (by omega)).symm), hf, hg]
      rfl
    · rw [ih (by omega), h n (by omega)]
      omega
theorem cn_0 {f : Nat → Bool} {n : Nat} (h : cn f n = 0) : ∀ i, i < n → f i = false := by
  induction n with
  | zero => intro i hi; cases hi
  | succ n ih =>
    have e : cn f n + (f n).toNat = 0 := h
    intro i hi
    by_cases q : i = n
    · subst q
      cases c : f i with
      | false => rfl
      | true => rw [c] at e; simp at e
    · exact ih (by omega) i (by omega)
-- the lowest bit
theorem low_bit : ∀ (b a : Nat), a < 2 ^ b → a ≠ 0 → ∃ k, a.testBit k = true ∧ ∀ i, (a &&& (a - 1)).testBit i = (a.testBit i && !decide (i = k)) := by
  intro b
  induction b with
  | zero => intro a h h0; exact absurd (by simpa using h) h0
  | succ b ih =>
    intro a h h0
    by_cases hp : a % 2 = 1
    · refine ⟨0, by rw [Nat.testBit_zero]; simp [hp], fun i => ?_⟩
      cases i with
      | zero => rw [Nat.testBit_and, Nat.testBit_zero, Nat.testBit_zero]; simp; omega
      | succ i =>
        rw [Nat.testBit_and, Nat.testBit_succ, Nat.testBit_succ, show (a - 1) / 2 = a / 2 by omega]
        simp
    · have ha : a / 2 < 2 ^ b := by rw [Nat.pow_succ] at h; omega
      obtain ⟨k, h1, h2⟩ := ih (a / 2) ha (by omega)
      refine ⟨k + 1, by rw [Nat.testBit_succ]; exact h1, fun i => ?_⟩
      cases i with
      | zero => rw [Nat.testBit_and, Nat.testBit_zero, Nat.testBit_zero]; simp; omega
      | succ i =>
        have := h2 i
        rw [Nat.testBit_and] at this
        rw [Nat.testBit_and, Nat.testBit_succ, Nat.testBit_succ, show (a - 1) / 2 = a / 2 - 1 by omega, this]
        simp
end PN
