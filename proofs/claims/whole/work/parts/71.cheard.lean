-- the class: a clause, a rule
section PCH
variable {t0 : TS} {ad : DD} {A : AA} {P : PS}
def enc : List Bool → Nat
  | [] => 0
  | b :: st => 2 * enc st + b.toNat
theorem enc_lt : ∀ {st : List Bool}, enc st < 2 ^ st.length
  | [] => by decide
  | b :: st => by
    have := enc_lt (st := st)
    have hb := Bool.toNat_le b
    show 2 * enc st + b.toNat < 2 ^ (st.length + 1)
    rw [Nat.pow_succ]
    omega
theorem enc_0 (b : Bool) (st : List Bool) : enc (b :: st) % 2 = b.toNat := by
  show (2 * enc st + b.toNat) % 2 = _
  cases b <;> simp
theorem enc_2 (b : Bool) (st : List Bool) : enc (b :: st) / 2 = enc st := by
  show (2 * enc st + b.toNat) / 2 = _
  have := Bool.toNat_le b
  omega
theorem enc_b (b : Bool) (st : List Bool) : nI (enc (b :: st)) &&& (1 : Int32) = nI b.toNat := by
  rw [q1, and_n, Nat.and_one_is_mod, enc_0]
theorem sh1 {a : Nat} (ha : a < 2 ^ 31) : nI a >>> ((1 : Int32) &&& 31) = nI (a / 2) := by
  have := shr_n (a := a) (k := 1) ha (by decide)
  rw [Nat.pow_one] at this
  exact this
theorem sl1 {a : Nat} : nI a <<< ((1 : Int32) &&& 31) = nI (2 * a) := by
  apply Int32.toBitVec_inj.mp
  show BitVec.ofNat 32 a <<< (BitVec.smod 1#32 32#32) = _
  apply BitVec.eq_of_toNat_eq
  show ((a % 2 ^ 32) <<< 1) % 2 ^ 32 = (2 * a) % 2 ^ 32
  rw [Nat.shiftLeft_eq]
  omega
theorem enc_not {b : Bool} {st : List Bool} : nI (enc (b :: st)) ^^^ (1 : Int32) = nI (enc ((!b) :: st)) := by
  rw [q1, xor_n]
  congr 1
  apply Nat.eq_of_testBit_eq
  intro i
  rw [Nat.testBit_xor]
  cases i with
  | zero =>
    rw [Nat.testBit_zero, Nat.testBit_zero, Nat.testBit_zero, enc_0, enc_0]
    cases b <;> rfl
  | succ i =>
    rw [Nat.testBit_succ, Nat.testBit_succ, Nat.testBit_succ, enc_2, enc_2]
    simp
theorem enc_or {a b : Bool} {st : List Bool} : nI (enc (a :: st)) ||| nI b.toNat = nI (enc ((a || b) :: st)) := by
  rw [or_n]
  congr 1
  apply Nat.eq_of_testBit_eq
  intro i
  rw [Nat.testBit_or]
  cases i with
  | zero =>
    rw [Nat.testBit_zero, Nat.testBit_zero, Nat.testBit_zero, enc_0, enc_0]
    cases a <;> cases b <;> rfl
  | succ i =>
    rw [Nat.testBit_succ, Nat.testBit_succ, Nat.testBit_succ, enc_2, enc_2]
    cases b <;> simp
theorem enc_and {a b : Bool} {st s2 : List Bool} : nI (enc (a :: st)) &&& (nI (enc (b :: s2)) ||| (-2 : Int32)) = nI (enc ((a && b) :: st)) := by
  apply Int32.toBitVec_inj.mp
  show BitVec.ofNat 32 (enc (a :: st)) &&& (BitVec.ofNat 32 (enc (b :: s2)) ||| (-2 : Int32).toBitVec) = BitVec.ofNat 32 (enc ((a && b) :: st))
  apply BitVec.eq_of_getLsbD_eq
  intro i hi
  have hm : ∀ i, i < 32 → ((-2 : Int32).toBitVec).getLsbD i = decide (i ≠ 0) := by decide
  rw [BitVec.getLsbD_and, BitVec.getLsbD_or, BitVec.getLsbD_ofNat, BitVec.getLsbD_ofNat, BitVec.getLsbD_ofNat, hm i hi]
  simp only [hi, decide_true, Bool.true_and]
  cases i with
  | zero =>
    rw [Nat.testBit_zero, Nat.testBit_zero, Nat.testBit_zero, enc_0, enc_0, enc_0]
    cases a <;> cases b <;> rfl
  | succ i =>
    rw [Nat.testBit_succ, Nat.testBit_succ, Nat.testBit_succ, enc_2, enc_2, enc_2]
    simp
-- a stand shows a view
def pcn (A : AA) (B p : Nat) : Nat := cn (fun w => B.testBit w && (aB A w == p)) 14
def vS (A : AA) (sh ju B : Nat) : VV := (sh, ju, pcn A B, fun _ => false)
def SV (P : PS) (s sh ju B : Nat) : Prop := kk P s 6 = true ∧ pI P s 0 = nI sh ∧ pI P s 1 = nI ju ∧ pI P s 2 = nI B ∧ sh < 1024 ∧ ju < 1024 ∧ B < 2 ^ 14
theorem kms_t {k f : Nat} (hk : k < 7) (hf : f < 10) : (kms k).testBit f = undr k f := by
  have : ∀ k, k < 7 → ∀ f, f < 10 → (kms k).testBit f = undr k f := by decide +kernel
  exact this k hk f hf
theorem kms_lt {k : Nat} : kms k < 2 ^ 7 := msk_lt _ 7
theorem ite_c {p : Prop} [Decidable p] : (if p then some (nI 1, P) else some (nI 0, P)) = some (nI (decide p).toNat, P) := by
  by_cases h : p <;> simp [h]
theorem ite_n {p : Prop} [Decidable p] : (if p then some (nI 0, P) else some (nI 1, P)) = some (nI (!decide p).toNat, P) := by
  by_cases h : p <;> simp [h]
theorem bitI {a k : Nat} (ha : a < 2 ^ 31) (hk : k < 32) : (if (nI a >>> (nI k &&& 31)) &&& (1 : Int32) = 0 then some ((0 : Int32), P) else some (1, P)) = some (nI (a.testBit k).toNat, P) := by
  rw [show (1 : Int32) = nI 1 from rfl, bit_n ha hk]
  cases a.testBit k <;> rfl
theorem itL {a b : Nat} (ha : a < 2 ^ 31) (hb : b < 2 ^ 31) : (if nI a ≤ nI b then some ((0 : Int32), P) else some (1, P)) = some (nI (decide (b < a)).toNat, P) := by
  by_cases c : a ≤ b
  · rw [if_pos (by rw [le_n ha hb]; exact c), decide_eq_false (by omega)]
    rfl
  · rw [if_neg (by rw [le_n ha hb]; exact c), decide_eq_true (by omega)]
    rfl
theorem itE {a b : Nat} (ha : a < 2 ^ 31) (hb : b < 2 ^ 31) : (if nI a = nI b then some ((1 : Int32), P) else some (0, P)) = some (nI (decide (a = b)).toNat, P) := by
  by_cases c : a = b
  · rw [if_pos (by rw [c]), decide_eq_true c]
    rfl
  · rw [if_neg (by rw [ne_n ha hb]; exact c), decide_eq_false c]
    rfl
theorem c_pass (hW : WF A) (h : CC t0 ad A P) {w e t sh ju B : Nat} (hw : w < aN A) (he : e < 4) (ht : tkO t = true) (hsh : sh < 1024) : hm_X1_passes P (nI t) (ad (50 + w)) (nI e) (nI sh) (nI (pcn A B (aB A w))) = some (nI (tst A (vS A sh ju B) w e t).toNat, P) := by
  obtain ⟨h1, h2, h3⟩ := tk_cases ht
  have hN := wfN hW
  have hK := wfK hW hw
  have hB := wfB hW hw
  have hKn := wfKn hW hB
  have hcn : pcn A B (aB A w) ≤ 14 := cn_le _ 14
  have hkm := kms_lt (k := aK A w)
  obtain ⟨w0, w1, w2, w3, w4, w5, w6, -⟩ := h.w hw
  obtain ⟨p0, p1, -⟩ := h.2.1 (aB A w) hB
  have kP := h.kP hB
  have kW := h.kW hN hw
  unfold hm_X1_passes hm_X1_passes_272 tst
  rw [dv2 (by omega), lt_t]
  have ed : nI t / (10 : Int32) = nI (t / 10) := by rw [q10, pk_div (by omega) (by decide) (by decide)]
  rw [ed]
  rcases h3 with z | z | z | z | z | z | z | z | z | z | z
  all_goals simp (decide := true) only [z, if_true, if_false, kW, kP, ck_t, w1, w2, w5, nn_s, p0, p1]
  · exact itL (by omega) (by omega)
  · exact itE (by omega) (by omega)
  · by_cases c : aK A w ≤ t % 10
    · rw [if_pos (by rw [le_n (by omega) (by omega)]; exact c), decide_eq_false (by omega)]
      rfl
    · rw [if_neg (by rw [le_n (by omega) (by omega)]; exact c), decide_eq_true (by omega)]
      rfl
  · exact itL (by omega) (by omega)
  · exact itE (by omega) (by omega)
  · exact itL (a := pcn A B (aB A w)) (b := t % 10) (by omega) (by omega)
  · rw [← kms_t hK h1]
    exact bitI (by omega) (by omega)
  · exact itE (by omega) (by omega)
  · exact bitI (by omega) (by omega)
  · exact itE (by omega) (by omega)
  · exact bitI (by omega) (by omega)
theorem c_hl (hW : WF A) (h : CC t0 ad A P) {w e sh ju B r k : Nat} {c : Nat × Nat × List Nat} (hr : r < aR A) (hk : (aC A r)[k]? = some c) (hw : w < aN A) (he : e < 4) (hsh : sh < 1024) {x7 : Int32} (h7 : x7 = nI c.2.2.length) : ∀ (ts : List Nat) (i : Nat) (st : List Bool) (fuel : Nat), c.2.2.drop i = ts → i ≤ c.2.2.length → hok ts st.length = true → st.length ≤ 20 → ts.length < fuel →
    hm_X1_holds_17L fuel (ad (50 + w)) (nI e) (nI sh) (nI (pcn A B (aB A w))) (nI (enc st)) (ad (300 + 6 * r + k)) x7 (nI i) P = some (nI ((evl A (vS A sh ju B) w e ts st).headD false).toNat, P) := by
  have hR := wfR hW
  have h6 := wfCl hW hr
  have hkl := (List.getElem?_eq_some_iff.mp hk).1
  have hcl := wfC hW hr c (List.mem_of_getElem? hk)
  obtain ⟨-, k12⟩ := h.kC hR hr hkl h6
  obtain ⟨-, -, -, l4, l5⟩ := (h.ru hr).2.2.2.2.2.2.2.2 k c hk
  have h100 := hcl.2.2.1
  intro ts
  induction ts with
  | nil =>
    intro i st fuel hd hi hok' hs hf
    obtain ⟨fu, rfl⟩ : ∃ fu, fuel = fu + 1 := ⟨fuel - 1, by omega⟩
    have hil : c.2.2.length ≤ i := drop_n hd
    have hst : st.length = 1 := of_decide_eq_true hok'
    obtain ⟨b, rfl⟩ : ∃ b, st = [b] := by
      cases st with
      | nil => cases hst
      | cons b st => exact ⟨b, by rw [List.eq_nil_of_length_eq_zero (Nat.succ.inj hst)]⟩
    show hm_X1_holds_17 _ _ _ _ _ _ _ _ _ _ = _
    unfold hm_X1_holds_17
    rw [h7, if_pos (by rw [le_n (by omega) (by omega)]; exact hil), enc_b]
    show _ = some (nI b.toNat, P)
    cases b <;> rfl
  | cons t ts ih =>
    intro i st fuel hd hi hok' hs hf
    obtain ⟨fu, rfl⟩ : ∃ fu, fuel = fu + 1 := ⟨fuel - 1, by omega⟩
    obtain ⟨a1, a2, a3⟩ := drop_c hd
    rw [List.length_cons] at hf
    have hti := l5 i t a1
    have hen := enc_lt (st := st)
    have hen2 : enc st < 2 ^ 20 := Nat.lt_of_lt_of_le hen (Nat.pow_le_pow_right (by decide) hs)
    have hgo : ∀ st' : List Bool, hok ts st'.length = true → st'.length ≤ 20 → hm_X1_holds_17L fu (ad (50 + w)) (nI e) (nI sh) (nI (pcn A B (aB A w))) (nI (enc st')) (ad (300 + 6 * r + k)) x7 (nI (i + 1)) P = some (nI ((evl A (vS A sh ju B) w e ts st').headD false).toNat, P) := fun st' b1 b2 => ih (i + 1) st' fu a2 (by omega) b1 b2 (by omega)
    show hm_X1_holds_17 _ _ _ _ _ _ _ _ _ _ = some (nI ((evl A (vS A sh ju B) w e ts (stp A (vS A sh ju B) w e t st)).headD false).toNat, P)
    unfold hm_X1_holds_17 hm_X1_holds_119 hm_X1_holds_122
    have hle : ¬ x7 ≤ nI i := by rw [h7, le_n (by omega) (by omega)]; omega
    rw [if_neg hle, k12, ck_t, vin_n (by omega), l4, decide_eq_true a3, ck_t, nI_clamp (by omega), hti, lt_t, lt_t]
    have h1 : nI i + (1 : Int32) = nI (i + 1) := by rw [q1, nI_add]
    unfold hok at hok'
    unfold stp
    by_cases c1 : t = 210
    · subst c1
      rw [if_pos rfl] at hok' ⊢
      rw [Bool.and_eq_true] at hok'
      cases st with
      | nil => exact absurd (of_decide_eq_true hok'.1) (by decide)
      | cons b st =>
        rw [if_pos (show nI 210 / (10 : Int32) = 21 by decide), lt_t, lt_t, enc_not, h1]
        exact hgo ((!b) :: st) hok'.2 hs
    · rw [if_neg c1] at hok' ⊢
      by_cases c2 : t = 220
      · subst c2
        rw [if_pos (Or.inl rfl), Bool.and_eq_true] at hok'
        rw [if_pos rfl]
        cases st with
        | nil => exact absurd (of_decide_eq_true hok'.1) (by decide)
        | cons b st =>
          cases st with
          | nil => exact absurd (of_decide_eq_true hok'.1) (by simp)
          | cons a st =>
            rw [if_neg (show ¬ nI 220 / (10 : Int32) = 21 by decide), if_pos (show nI 220 / (10 : Int32) = 22 by decide), lt_t, lt_t, sh1 (by omega), enc_2, enc_and, h1]
            exact hgo ((a && b) :: st) hok'.2 (by simp at hs ⊢; omega)
      · rw [if_neg c2]
        by_cases c3 : t = 230
        · subst c3
          rw [if_pos (Or.inr rfl), Bool.and_eq_true] at hok'
          rw [if_pos rfl]
          cases st with
          | nil => exact absurd (of_decide_eq_true hok'.1) (by decide)
          | cons b st =>
            cases st with
            | nil => exact absurd (of_decide_eq_true hok'.1) (by simp)
            | cons a st =>
              rw [if_neg (show ¬ nI 230 / (10 : Int32) = 21 by decide), if_neg (show ¬ nI 230 / (10 : Int32) = 22 by decide), if_pos (show nI 230 / (10 : Int32) = 23 by decide), lt_t, lt_t, sh1 (by omega), enc_2, enc_b, enc_or, h1]
              exact hgo ((a || b) :: st) hok'.2 (by simp at hs ⊢; omega)
        · rw [if_neg c3]
          rw [if_neg (fun z => z.elim c2 c3), Bool.and_eq_true, Bool.and_eq_true] at hok'
          obtain ⟨⟨o1, o2⟩, o3⟩ := hok'
          have hs20 : st.length < 20 := of_decide_eq_true o2
          obtain ⟨-, t200, -⟩ := tk_cases o1
          have ed : nI t / (10 : Int32) = nI (t / 10) := by rw [q10, pk_div (by omega) (by decide) (by decide)]
          have n21 : ¬ nI (t / 10) = 21 := by rw [q21, ne_n (by omega) (by decide)]; omega
          have n22 : ¬ nI (t / 10) = 22 := by rw [q22, ne_n (by omega) (by decide)]; omega
          have n23 : ¬ nI (t / 10) = 23 := by rw [q23, ne_n (by omega) (by decide)]; omega
          rw [ed, if_neg n21, if_neg n22, if_neg n23, c_pass (ju := ju) hW h hw he o1 hsh, bd_s, sl1]
          have := hgo (tst A (vS A sh ju B) w e t :: st) o3 (by simp; omega)
          cases hb : tst A (vS A sh ju B) w e t with
          | true =>
            rw [hb] at this
            rw [if_neg (show ¬ nI true.toNat = 0 by decide), lt_t, lt_t, h1, q1, or_n]
            have e2 : 2 * enc st ||| 1 = enc (true :: st) := by
              show _ = 2 * enc st + 1
              have := Nat.two_pow_add_eq_or_of_lt (i := 1) (b := 1) (by decide) (enc st)
              rw [Nat.pow_one] at this
              exact this.symm
            rw [e2]
            exact this
          | false =>
            rw [hb] at this
            rw [if_pos (show nI false.toNat = 0 from rfl), lt_t, lt_t, h1, q0, or_n, Nat.or_zero]
            exact this
theorem c_holds (hW : WF A) (h : CC t0 ad A P) {w e sh ju B r k : Nat} {c : Nat × Nat × List Nat} (hr : r < aR A) (hk : (aC A r)[k]? = some c) (hw : w < aN A) (he : e < 4) (hsh : sh < 1024) : hm_X1_holds P (ad (200 + 6 * r + k)) (ad (50 + w)) (nI e) (nI sh) (nI (pcn A B (aB A w))) = some (nI (hc A (vS A sh ju B) w e c).toNat, P) := by
  have hkl := (List.getElem?_eq_some_iff.mp hk).1
  have hcl := wfC hW hr c (List.mem_of_getElem? hk)
  obtain ⟨k2, k12⟩ := h.kC (wfR hW) hr hkl (wfCl hW hr)
  obtain ⟨-, -, l3, l4, -⟩ := (h.ru hr).2.2.2.2.2.2.2.2 k c hk
  unfold hm_X1_holds
  rw [lt_t, k2, ck_t, l3, nn_s, k12, ck_t, l4, lt_t, lt_t]
  exact c_hl (ju := ju) hW h hr hk hw he hsh rfl c.2.2 0 [] 4000 rfl (Nat.zero_le _) hcl.2.2.2 (by decide) (by have := hcl.2.2.1; omega)
end PCH
