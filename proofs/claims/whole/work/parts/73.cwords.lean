section PCWD
variable {t0 : TS} {ad : DD} {A : AA} {P : PS} {e sh ju B s l : Nat}
theorem mkl_t {i : Nat} : ∀ {L : List Nat}, (mkl L).testBit i = true ↔ i ∈ L
  | [] => by show (0 : Nat).testBit i = true ↔ _; rw [Nat.zero_testBit]; simp
  | d :: L => by
    show (2 ^ d ||| mkl L).testBit i = true ↔ _
    rw [Nat.testBit_or, Nat.testBit_two_pow, Bool.or_eq_true, mkl_t, List.mem_cons]
    constructor
    · rintro (h | h)
      · exact Or.inl (of_decide_eq_true h).symm
      · exact Or.inr h
    · rintro (h | h)
      · exact Or.inl (decide_eq_true h.symm)
      · exact Or.inr h
def wpF (A : AA) : Nat → Nat → Nat
  | 0, m => m
  | k + 1, m => wpF A k (if m.testBit k = true then m ||| mkl (aP A k) else m)
theorem wpF_sup {i : Nat} : ∀ {k m : Nat}, m.testBit i = true → (wpF A k m).testBit i = true
  | 0, m, h => h
  | k + 1, m, h => by
    show (wpF A k (if m.testBit k = true then m ||| mkl (aP A k) else m)).testBit i = true
    refine wpF_sup ?_
    split
    · rw [Nat.testBit_or, h, Bool.true_or]
    · exact h
theorem wpF_min {X : Nat → Prop} (hX : ∀ i, X i → ∀ p ∈ aP A i, X p) : ∀ {k m : Nat}, (∀ i, m.testBit i = true → X i) → ∀ i, (wpF A k m).testBit i = true → X i
  | 0, m, h => h
  | k + 1, m, h => by
    refine wpF_min hX (k := k) ?_
    intro i hi
    split at hi
    · rename_i c
      rw [Nat.testBit_or, Bool.or_eq_true] at hi
      rcases hi with z | z
      · exact h i z
      · exact hX k (h k c) i (mkl_t.mp z)
    · exact h i hi
theorem wpF_hi (hW : WF A) {i : Nat} : ∀ {k m : Nat}, k ≤ aN A → k ≤ i → (wpF A k m).testBit i = m.testBit i
  | 0, m, _, _ => rfl
  | k + 1, m, hk, hi => by
    show (wpF A k (if m.testBit k = true then m ||| mkl (aP A k) else m)).testBit i = _
    rw [wpF_hi hW (by omega) (by omega)]
    split
    · rw [Nat.testBit_or]
      have : (mkl (aP A k)).testBit i = false := by
        cases q : (mkl (aP A k)).testBit i with
        | false => rfl
        | true =>
          have := wfP hW (show k < aN A by omega) i (mkl_t.mp q)
          omega
      rw [this, Bool.or_false]
    · rfl
theorem wpF_cl (hW : WF A) {i p : Nat} : ∀ {k m : Nat}, k ≤ aN A → i < k → (wpF A k m).testBit i = true → p ∈ aP A i → (wpF A k m).testBit p = true
  | k + 1, m, hk, hi, h, hp => by
    have h' : (wpF A k (if m.testBit k = true then m ||| mkl (aP A k) else m)).testBit i = true := h
    show (wpF A k (if m.testBit k = true then m ||| mkl (aP A k) else m)).testBit p = true
    by_cases c : i = k
    · subst c
      rw [wpF_hi hW (by omega) (Nat.le_refl _)] at h'
      by_cases q : m.testBit i = true
      · rw [if_pos q]
        exact wpF_sup (by rw [Nat.testBit_or, mkl_t.mpr hp, Bool.or_true])
      · rw [if_neg q] at h'
        exact absurd h' q
    · exact wpF_cl hW (by omega) (by omega) h' hp
theorem wpF_lt (hW : WF A) {m : Nat} (hm : m < 2 ^ aN A) : wpF A (aN A) m < 2 ^ aN A := by
  apply lt_pow
  intro i hi
  rcases Nat.lt_or_ge i (aN A) with c | c
  · exact c
  · rw [wpF_hi hW (Nat.le_refl _) c] at hi
    exact of_lt hm hi
theorem pw14 (hN : aN A ≤ 14) {m : Nat} (h : m < 2 ^ aN A) : m < 2 ^ 14 := Nat.lt_of_lt_of_le h (Nat.pow_le_pow_right (by decide) hN)
theorem mklP_lt (hW : WF A) {w : Nat} (hw : w < aN A) : mkl (aP A w) < 2 ^ aN A := mkl_lt (fun d hd => by have := wfP hW hw d hd; omega)
theorem or_lt' {a b n : Nat} (ha : a < 2 ^ n) (hb : b < 2 ^ n) : a ||| b < 2 ^ n := Nat.or_lt_two_pow ha hb
theorem c_wpl (hW : WF A) (h : CC t0 ad A P) : ∀ (k m fuel : Nat), k ≤ aN A → m < 2 ^ aN A → k < fuel → hm_X8_withParts_12L fuel (ad 0) (nI m) (nI k - nI 1) P = some (nI (wpF A k m), P) := by
  have hN := wfN hW
  obtain ⟨-, f1, -⟩ := h.r
  have ls := h.ws
  intro k
  induction k with
  | zero =>
    intro m fuel hk hm hf
    obtain ⟨fu, rfl⟩ : ∃ fu, fuel = fu + 1 := ⟨fuel - 1, by omega⟩
    show hm_X8_withParts_12 _ _ _ _ _ = _
    unfold hm_X8_withParts_12
    rw [if_pos (show nI 0 - nI 1 < 0 by decide)]
    rfl
  | succ k ih =>
    intro m fuel hk hm hf
    obtain ⟨fu, rfl⟩ : ∃ fu, fuel = fu + 1 := ⟨fuel - 1, by omega⟩
    have hm14 := pw14 hN hm
    have hk' : k < aN A := by omega
    obtain ⟨-, -, -, -, w6, -⟩ := h.w hk'
    have e0 := nIs (n := k) (by omega)
    have hneg : ¬ nI k < 0 := nI_pos (n := k) (by omega)
    have e3 : nI k + -1 = nI k - nI 1 := (Int32.sub_eq_add_neg _ _).symm
    have ih1 := ih m fu (by omega) hm (by omega)
    have ih2 := ih (m ||| mkl (aP A k)) fu (by omega) (or_lt' hm (mklP_lt hW hk')) (by omega)
    have eh := c_has P (a := m) (k := k) (by omega) (by omega)
    show hm_X8_withParts_12 _ _ _ _ _ = some (nI (wpF A k (if m.testBit k = true then m ||| mkl (aP A k) else m)), P)
    unfold hm_X8_withParts_12 hm_X8_withParts_41
    simp only [ck_t, nn_s, bd_s, lt_t, e0, if_neg hneg, eh, h.k0, f1, ls.k, ls.gt hk', h.kW hN hk', w6, or_n, e3]
    cases m.testBit k with
    | true =>
      rw [if_neg (show ¬ nI true.toNat = 0 by decide), if_pos rfl]
      exact ih2
    | false =>
      rw [if_pos (show nI false.toNat = 0 from rfl), if_neg (by decide)]
      exact ih1
theorem c_wp (hW : WF A) (h : CC t0 ad A P) {m : Nat} (hm : m < 2 ^ aN A) : hm_X8_withParts P (ad 0) (nI m) = some (nI (wpF A (aN A) m), P) := by
  have hN := wfN hW
  obtain ⟨-, f1, -⟩ := h.r
  have ls := h.ws
  unfold hm_X8_withParts
  simp only [ck_t, nn_s, bd_s, lt_t, h.k0, f1, ls.k, ls.sz, q1]
  exact c_wpl hW h (aN A) m 4000 (Nat.le_refl _) hm (by omega)
-- heard to the end of parts
def nob (v : VV) : Prop := ∀ w, v.2.2.2 w = false
theorem hrd_n (hW : WF A) {v : VV} (hv : nob v) {w : Nat} (hw : w < aN A) : hrd A v l w = ((aP A w).all (hrd A v l) && (kpr A v w 0 l).isNone) := by
  rw [hrd_eq v l w (wfP hW hw)]
  unfold hb1
  rw [hv w]
  simp
theorem sd_all {h : Nat} {L : List Nat} : sd (mkl L) h = 0 ↔ ∀ p ∈ L, h.testBit p = true := by
  rw [eq0_of]
  constructor
  · intro z p hp
    have := z p
    rw [sd_t, mkl_t.mpr hp, Bool.true_and] at this
    cases q : h.testBit p with
    | true => rfl
    | false => rw [q] at this; cases this
  · intro z i
    rw [sd_t]
    cases q : (mkl L).testBit i with
    | false => rfl
    | true => rw [z i (mkl_t.mp q)]; rfl
def hpE (A : AA) (v : VV) (l among : Nat) : Nat → Nat
  | 0 => 0
  | i + 1 => if (among.testBit i && decide (sd (mkl (aP A i)) (hpE A v l among i) = 0) && (kpr A v i 0 l).isNone) = true then hpE A v l among i ||| 2 ^ i else hpE A v l among i
theorem hpE_lt {v : VV} {among : Nat} : ∀ n, hpE A v l among n < 2 ^ n
  | 0 => by show 0 < 2 ^ 0; decide
  | n + 1 => by
    have h1 := hpE_lt (v := v) (among := among) n
    have h2 : 2 ^ n < 2 ^ (n + 1) := Nat.pow_lt_pow_right (by decide) (Nat.lt_succ_self n)
    show (if _ then _ else _) < _
    split
    · exact Nat.or_lt_two_pow (Nat.lt_trans h1 h2) h2
    · exact Nat.lt_trans h1 h2
theorem hpE_cl (hW : WF A) {v : VV} (hv : nob v) {among : Nat} (hc : ∀ i, i < aN A → among.testBit i = true → ∀ p ∈ aP A i, among.testBit p = true) : ∀ n, n ≤ aN A → hpE A v l among n = msk (fun i => among.testBit i && hrd A v l i) n
  | 0, _ => rfl
  | n + 1, hn => by
    have ih := hpE_cl hW hv hc n (by omega)
    have hn' : n < aN A := by omega
    have key : (among.testBit n && decide (sd (mkl (aP A n)) (hpE A v l among n) = 0) && (kpr A v n 0 l).isNone) = (among.testBit n && hrd A v l n) := by
      rw [hrd_n hW hv hn']
      cases q : among.testBit n with
      | false => rfl
      | true =>
        rw [Bool.true_and, Bool.true_and]
        congr 1
        rw [ih]
        apply Bool.eq_iff_iff.mpr
        rw [decide_eq_true_iff, sd_all, List.all_eq_true]
        constructor
        · intro z p hp
          have := z p hp
          rw [msk_t, Bool.and_eq_true, Bool.and_eq_true] at this
          exact this.2.2
        · intro z p hp
          rw [msk_t, decide_eq_true (wfP hW hn' p hp), hc n hn' q p hp, z p hp]
          rfl
    show (if _ then _ else _) = _
    rw [key, ih]
    cases q : (among.testBit n && hrd A v l n) with
    | true => rw [if_pos rfl]; exact msk_or (fun i => among.testBit i && hrd A v l i) n q
    | false => rw [if_neg (by decide)]; exact (msk_no (fun i => among.testBit i && hrd A v l i) n q).symm
theorem isNone_lt {o : Option Nat} (h : ∀ k, o = some k → k < 2 ^ 31) : (oI o < 0) = (o.isNone = true) := by
  have := oI_lt h
  rw [show (0 : Int32) = nI 0 from rfl, this]
  cases o <;> simp
theorem c_hpl (hW : WF A) (h : CC t0 ad A P) (hs : SVw A P s sh ju B) (hl : l < 2) {among : Nat} (ha : among < 2 ^ aN A) : ∀ (n k fuel : Nat), k + n = aN A → n < fuel → hm_X8_heardToPartsEnd_6L fuel (ad 0) (nI among) (nI l) s (nI (hpE A (vS A sh ju B) l among k)) (nI k) P = some (nI (hpE A (vS A sh ju B) l among (aN A)), P) := by
  have hN := wfN hW
  obtain ⟨-, f1, -⟩ := h.r
  have ls := h.ws
  have ha14 := pw14 hN ha
  intro n
  induction n with
  | zero =>
    intro k fuel hk hf
    obtain ⟨fu, rfl⟩ : ∃ fu, fuel = fu + 1 := ⟨fuel - 1, by omega⟩
    obtain rfl : k = aN A := by omega
    show hm_X8_heardToPartsEnd_6 _ _ _ _ _ _ _ _ = _
    unfold hm_X8_heardToPartsEnd_6
    have hle : nI (aN A) ≤ nI (aN A) := by rw [le_n (by omega) (by omega)]; exact Nat.le_refl _
    simp only [ck_t, nn_s, bd_s, lt_t, h.k0, f1, ls.k, ls.sz, if_pos hle]
  | succ n ih =>
    intro k fuel hk hf
    obtain ⟨fu, rfl⟩ : ∃ fu, fuel = fu + 1 := ⟨fuel - 1, by omega⟩
    have hk' : k < aN A := by omega
    have hle : ¬ nI (aN A) ≤ nI k := by rw [le_n (by omega) (by omega)]; omega
    obtain ⟨-, -, -, -, w6, -⟩ := h.w hk'
    have eh := c_has P (a := among) (k := k) (by omega) (by omega)
    have ek := c_kpr (e := 0) hW h hs hk' (by decide) hl
    have ek' : hm_X8_keeper P (ad 0) (ad (50 + k)) 0 (nI l) s = _ := ek
    have hkb : ∀ j, kpr A (vS A sh ju B) k 0 l = some j → j < 2 ^ 31 := kpr_b hW
    have ih' := ih (k + 1) fu (by omega) (by omega)
    have e1 : nI k + (1 : Int32) = nI (k + 1) := by rw [q1, nI_add]
    have e9 : (1 : Int32) <<< (nI k &&& 31) = nI (2 ^ k) := shl_n (by omega)
    have hgo : hpE A (vS A sh ju B) l among (k + 1) = if (among.testBit k && decide (sd (mkl (aP A k)) (hpE A (vS A sh ju B) l among k) = 0) && (kpr A (vS A sh ju B) k 0 l).isNone) = true then hpE A (vS A sh ju B) l among k ||| 2 ^ k else hpE A (vS A sh ju B) l among k := rfl
    rw [hgo] at ih'
    show hm_X8_heardToPartsEnd_6 _ _ _ _ _ _ _ _ = _
    unfold hm_X8_heardToPartsEnd_6 hm_X8_heardToPartsEnd_75
    simp only [ck_t, nn_s, bd_s, lt_t, h.k0, f1, ls.k, ls.sz, if_neg hle, ls.gt hk', h.kW hN hk', eh, w6, sd_n, ek', e1, e9, or_n]
    cases qa : among.testBit k with
    | false =>
      rw [qa, Bool.false_and, Bool.false_and, if_neg (by decide)] at ih'
      rw [if_pos (show nI false.toNat = 0 from rfl)]
      exact ih'
    | true =>
      rw [qa, Bool.true_and] at ih'
      rw [if_neg (show ¬ nI true.toNat = 0 by decide)]
      have hsd : nI (sd (mkl (aP A k)) (hpE A (vS A sh ju B) l among k)) = 0 ↔ sd (mkl (aP A k)) (hpE A (vS A sh ju B) l among k) = 0 := by
        have h1 := sd_le (mkl (aP A k)) (hpE A (vS A sh ju B) l among k)
        have h2 := pw14 hN (mklP_lt hW hk')
        rw [q0, ne_n (by omega) (by decide)]
      by_cases qs : sd (mkl (aP A k)) (hpE A (vS A sh ju B) l among k) = 0
      · rw [if_pos (hsd.mpr qs)]
        rw [decide_eq_true qs, Bool.true_and] at ih'
        cases qk : kpr A (vS A sh ju B) k 0 l with
        | none =>
          rw [qk, if_pos (show Option.isNone (none : Option Nat) = true from rfl)] at ih'
          rw [if_neg (show ¬ (0 : Int32) ≤ oI none by decide)]
          exact ih'
        | some j =>
          rw [qk, if_neg (by simp)] at ih'
          have hj := hkb j qk
          have : (0 : Int32) ≤ oI (some j) := by show nI 0 ≤ nI j; rw [le_n (by decide) hj]; omega
          rw [if_pos this]
          exact ih'
      · rw [if_neg (fun z => qs (hsd.mp z))]
        rw [decide_eq_false qs, Bool.false_and, if_neg (by decide)] at ih'
        exact ih'
theorem c_hp (hW : WF A) (h : CC t0 ad A P) (hs : SVw A P s sh ju B) (hl : l < 2) {among : Nat} (ha : among < 2 ^ aN A) : hm_X8_heardToPartsEnd P (ad 0) (nI among) (nI l) s = some (nI (hpE A (vS A sh ju B) l among (aN A)), P) := by
  unfold hm_X8_heardToPartsEnd
  rw [lt_t, lt_t]
  exact c_hpl hW h hs hl ha (aN A) 0 4000 (by omega) (by have := wfN hW; omega)
theorem vS_nob : nob (vS A sh ju B) := fun _ => rfl
theorem c_hpc (hW : WF A) (h : CC t0 ad A P) (hs : SVw A P s sh ju B) (hl : l < 2) {m : Nat} (hm : m < 2 ^ aN A) : hm_X8_heardToPartsEnd P (ad 0) (nI (wpF A (aN A) m)) (nI l) s = some (nI (msk (fun i => (wpF A (aN A) m).testBit i && hrd A (vS A sh ju B) l i) (aN A)), P) := by
  rw [c_hp hW h hs hl (wpF_lt hW hm), hpE_cl hW vS_nob (fun i hi q p hp => wpF_cl hW (Nat.le_refl _) hi q hp) (aN A) (Nat.le_refl _)]
def allm (A : AA) : Nat := 2 ^ aN A - 1
theorem allm_t {i : Nat} : (allm A).testBit i = decide (i < aN A) := Nat.testBit_two_pow_sub_one _ _
theorem allm_lt : allm A < 2 ^ aN A := by have := Nat.two_pow_pos (aN A); unfold allm; omega
theorem c_all (hW : WF A) (h : CC t0 ad A P) : hm_X8_allWords P (ad 0) = some (nI (allm A), P) := by
  have hN := wfN hW
  obtain ⟨-, f1, -⟩ := h.r
  have ls := h.ws
  have e9 : (1 : Int32) <<< (nI (aN A) &&& 31) = nI (2 ^ aN A) := shl_n (by omega)
  unfold hm_X8_allWords
  simp only [ck_t, nn_s, bd_s, lt_t, h.k0, f1, ls.k, ls.sz, e9]
  rw [q1, pk_sub (Nat.two_pow_pos _)]
  rfl
theorem c_hpa (hW : WF A) (h : CC t0 ad A P) (hs : SVw A P s sh ju B) (hl : l < 2) : hm_X8_heardToPartsEnd P (ad 0) (nI (allm A)) (nI l) s = some (nI (msk (hrd A (vS A sh ju B) l) (aN A)), P) := by
  rw [c_hp hW h hs hl allm_lt, hpE_cl hW vS_nob (fun i hi q p hp => by rw [allm_t]; exact decide_eq_true (by have := wfP hW hi p hp; omega)) (aN A) (Nat.le_refl _)]
  congr 3
  exact msk_cong (fun i hi => by rw [allm_t, decide_eq_true hi, Bool.true_and])
end PCWD
