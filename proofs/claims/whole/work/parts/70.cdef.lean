-- the class's pool holds the state: addresses by code
section PCD
abbrev DD : Type := Nat → Nat
def kd (i : Nat) : Nat := if i = 0 then 9 else if i = 1 then 15 else if i = 2 ∨ i = 3 ∨ i = 9 then 0 else if i = 4 then 4 else if i = 5 ∨ i = 6 then 6 else if i = 7 then 16 else if i = 8 then 1 else if i = 11 then 11 else if i < 20 then 12 else if i < 30 then 3 else if i < 40 then 7 else if i < 50 then 13 else if i < 70 then 8 else if i < 90 then 0 else if i < 120 then 5 else if i < 130 then 0 else if i < 300 then 2 else 12
def lv (A : AA) (i : Nat) : Prop := i ≤ 13 ∨ (20 ≤ i ∧ i < 28) ∨ (30 ≤ i ∧ i < 36) ∨ (40 ≤ i ∧ i < 46) ∨ (50 ≤ i ∧ i < 50 + aN A) ∨ (70 ≤ i ∧ i < 70 + aN A) ∨ (110 ≤ i ∧ i < 110 + aR A) ∨ (120 ≤ i ∧ i < 120 + aR A) ∨ ∃ r k, r < aR A ∧ k < (aC A r).length ∧ (i = 200 + 6 * r + k ∨ i = 300 + 6 * r + k)
def bk (A : AA) (i : Nat) : Prop := i = 14 ∨ i = 15 ∨ i = 16 ∨ (90 ≤ i ∧ i < 90 + aN A) ∨ (130 ≤ i ∧ i < 130 + aR A)
def LW (t0 : TS) (P : PS) (l b n : Nat) : Prop := kk P l 0 = true ∧ pR P l 1 = some b ∧ pI P l 2 = nI n ∧ n ≤ 60 ∧ ((kk P b 17 = true ∧ n ≤ pN P b ∧ pN P b ≤ 64 ∧ 10 ≤ pN P b) ∨ (b = t0.1 ∧ n = 0))
def LSt (t0 : TS) (P : PS) (l b n : Nat) (f : Nat → Nat) : Prop := LW t0 P l b n ∧ ∀ k, k < n → pR P b k = some (f k)
def pmk (A : AA) (p : Nat) : Nat := msk (fun w => aB A w == p) (aN A)
def kms (k : Nat) : Nat := msk (undr k) 7
def smk (cs : List (Nat × Nat × List Nat)) (s : Nat) : Nat := msk (fun k => match cs[k]? with
  | some c => isS s c
  | none => false) cs.length
def fasB (cs : List (Nat × Nat × List Nat)) (f : Nat) : Bool := cs.any fun c => (isS 2 c && c.2.1 == f) || c.2.2.contains (190 + f)
variable (t0 : TS) (ad : DD) (A : AA) (P : PS)
def C1 : Prop := (∀ k, k < 10 → pR P (ad 0) k = some (ad (k + 1))) ∧ pN P (ad 1) = 8 ∧ (∀ p, p < 8 → pR P (ad 1) p = some (ad (20 + p))) ∧ pN P (ad 7) = 6 ∧ (∀ t, t < 6 → pR P (ad 7) t = some (ad (30 + t)) ∧ pR P (ad (30 + t)) 0 = some (ad (40 + t)) ∧ pN P (ad (40 + t)) = 60) ∧ pR P (ad 4) 0 = some (ad 11) ∧ pR P (ad 4) 1 = some (ad 12) ∧ pR P (ad 8) 0 = some (ad 13) ∧ pN P (ad 10) = 32 ∧ pN P (ad 11) = 100 ∧ pN P (ad 12) = 100 ∧ pN P (ad 13) = 20
def C2 : Prop := ∀ p, p < 8 → pI P (ad (20 + p)) 0 = nI p ∧ pI P (ad (20 + p)) 1 = nI (aKn A p) ∧ pI P (ad (20 + p)) 2 = nI (pmk A p)
def CW (w : Nat) : Prop := pI P (ad (50 + w)) 0 = nI w ∧ pI P (ad (50 + w)) 1 = nI (aK A w) ∧ pI P (ad (50 + w)) 2 = nI (kms (aK A w)) ∧ pI P (ad (50 + w)) 4 = nI (aF A w) ∧ pI P (ad (50 + w)) 6 = nI (mkl (aP A w)) ∧ pR P (ad (50 + w)) 3 = some (ad (20 + aB A w)) ∧ pR P (ad (50 + w)) 5 = some (ad (70 + w)) ∧ LSt t0 P (ad (70 + w)) (ad (90 + w)) (aP A w).length (fun k => ad (50 + (aP A w).getD k 0))
def C3 : Prop := LSt t0 P (ad 2) (ad 14) (aN A) (fun w => ad (50 + w)) ∧ ∀ w, w < aN A → CW t0 ad A P w
def CL (r k : Nat) (c : Nat × Nat × List Nat) : Prop := pI P (ad (200 + 6 * r + k)) 0 = nI c.1 ∧ pI P (ad (200 + 6 * r + k)) 1 = nI c.2.1 ∧ pR P (ad (200 + 6 * r + k)) 2 = some (ad (300 + 6 * r + k)) ∧ pN P (ad (300 + 6 * r + k)) = c.2.2.length ∧ ∀ i t, c.2.2[i]? = some t → pI P (ad (300 + 6 * r + k)) i = nI t
def CRu (r : Nat) : Prop := pI P (ad (110 + r)) 0 = nI r ∧ pI P (ad (110 + r)) 1 = nI (aL A r) ∧ pI P (ad (110 + r)) 3 = nI (smk (aC A r) 0) ∧ pI P (ad (110 + r)) 4 = nI (smk (aC A r) 1) ∧ pI P (ad (110 + r)) 5 = nI (smk (aC A r) 3) ∧ pI P (ad (110 + r)) 6 = nI (msk (fasB (aC A r)) 10) ∧ pR P (ad (110 + r)) 2 = some (ad (120 + r)) ∧ LSt t0 P (ad (120 + r)) (ad (130 + r)) (aC A r).length (fun k => ad (200 + 6 * r + k)) ∧ ∀ k c, (aC A r)[k]? = some c → CL ad P r k c
def C4 : Prop := LSt t0 P (ad 3) (ad 15) (aR A) (fun r => ad (110 + r)) ∧ ∀ r, r < aR A → CRu t0 ad A P r
def C5 : Prop := pI P (ad 4) 2 = nI (aTx A).length ∧ ∀ i c, (aTx A)[i]? = some c → pI P (ad 11) i = sx c
def C6 : Prop := pI P (ad 5) 0 = nI (aSh A) ∧ pI P (ad 5) 1 = nI (aJu A) ∧ pI P (ad 5) 2 = nI 0
def C7 : Prop := ∀ t, t < 6 → pI P (ad (30 + t)) 1 = aTs A t ∧ pI P (ad (30 + t)) 2 = nI (aTl A t) ∧ ∀ i, i < 60 → pJ P (ad (40 + t)) i = aTi A t i
def C8 : Prop := pI P (ad 8) 1 = nI (aRn A) ∧ ∀ i, i < 20 → i < aRn A → pI P (ad 13) i = nI (aBd A i)
def C9 : Prop := ∃ n, LW t0 P (ad 9) (ad 16) n
def CKI : Prop := (∀ i, lv A i → kk P (ad i) (kd i) = true) ∧ (∀ i j, lv A i → lv A j → ad i = ad j → i = j) ∧ ∀ i j, bk A i → bk A j → ad i = ad j → ad i ≠ t0.1 → i = j
def CZ : Prop := (∀ a, a ∈ pL P → a < pZ P) ∧ t0.1 < pZ P ∧ t0.1 ∉ pL P
def CC : Prop := C1 ad P ∧ C2 ad A P ∧ C3 t0 ad A P ∧ C4 t0 ad A P ∧ C5 ad A P ∧ C6 ad A P ∧ C7 ad A P ∧ C8 ad A P ∧ C9 t0 ad P ∧ CKI t0 ad A P ∧ CZ t0 P
end PCD
section PCE
variable {t0 : TS} {ad : DD} {A : AA} {P : PS}
theorem nn_s {β : Type} {b : Nat} {f : Nat → Option β} : nn (some b) f = f b := eq_of_heq HEq.rfl
theorem nlS {β : Type} {b : Nat} {a : Option β} {f : Nat → Option β} : nl (some b) a f = f b := eq_of_heq HEq.rfl
theorem nlN {β : Type} {a : Option β} {f : Nat → Option β} : nl none a f = a := eq_of_heq HEq.rfl
theorem CC.k (h : CC t0 ad A P) {i : Nat} (hi : lv A i) : kk P (ad i) (kd i) = true := h.2.2.2.2.2.2.2.2.2.1.1 i hi
theorem CC.k0 (h : CC t0 ad A P) : kk P (ad 0) 9 = true := h.k (i := 0) (Or.inl (by decide))
theorem CC.k1 (h : CC t0 ad A P) : kk P (ad 1) 15 = true := h.k (i := 1) (Or.inl (by decide))
theorem CC.k4 (h : CC t0 ad A P) : kk P (ad 4) 4 = true := h.k (i := 4) (Or.inl (by decide))
theorem CC.k5 (h : CC t0 ad A P) : kk P (ad 5) 6 = true := h.k (i := 5) (Or.inl (by decide))
theorem CC.k6 (h : CC t0 ad A P) : kk P (ad 6) 6 = true := h.k (i := 6) (Or.inl (by decide))
theorem CC.k7 (h : CC t0 ad A P) : kk P (ad 7) 16 = true := h.k (i := 7) (Or.inl (by decide))
theorem CC.k8 (h : CC t0 ad A P) : kk P (ad 8) 1 = true := h.k (i := 8) (Or.inl (by decide))
theorem CC.k9 (h : CC t0 ad A P) : kk P (ad 9) 0 = true := h.k (i := 9) (Or.inl (by decide))
theorem CC.k10 (h : CC t0 ad A P) : kk P (ad 10) 12 = true := h.k (i := 10) (Or.inl (by decide))
theorem CC.k11 (h : CC t0 ad A P) : kk P (ad 11) 11 = true := h.k (i := 11) (Or.inl (by decide))
theorem CC.k12 (h : CC t0 ad A P) : kk P (ad 12) 12 = true := h.k (i := 12) (Or.inl (by decide))
theorem CC.k13 (h : CC t0 ad A P) : kk P (ad 13) 12 = true := h.k (i := 13) (Or.inl (by decide))
theorem CC.k2 (h : CC t0 ad A P) : kk P (ad 2) 0 = true := h.k (i := 2) (Or.inl (by decide))
theorem CC.k3 (h : CC t0 ad A P) : kk P (ad 3) 0 = true := h.k (i := 3) (Or.inl (by decide))
theorem kd_p : ∀ p, p < 8 → kd (20 + p) = 3 := by decide
theorem kd_t : ∀ t, t < 6 → kd (30 + t) = 7 ∧ kd (40 + t) = 13 := by decide
theorem kd_w : ∀ w, w < 14 → kd (50 + w) = 8 ∧ kd (70 + w) = 0 := by decide
theorem kd_r : ∀ r, r < 10 → kd (110 + r) = 5 ∧ kd (120 + r) = 0 := by decide
theorem kd_c : ∀ i, i < 60 → kd (200 + i) = 2 ∧ kd (300 + i) = 12 := by decide
theorem CC.kP (h : CC t0 ad A P) {p : Nat} (hp : p < 8) : kk P (ad (20 + p)) 3 = true := by
  have := h.k (i := 20 + p) (by unfold lv; omega)
  rw [kd_p p hp] at this
  exact this
theorem CC.kT (h : CC t0 ad A P) {t : Nat} (ht : t < 6) : kk P (ad (30 + t)) 7 = true := by
  have := h.k (i := 30 + t) (by unfold lv; omega)
  rw [(kd_t t ht).1] at this
  exact this
theorem CC.kJ (h : CC t0 ad A P) {t : Nat} (ht : t < 6) : kk P (ad (40 + t)) 13 = true := by
  have := h.k (i := 40 + t) (by unfold lv; omega)
  rw [(kd_t t ht).2] at this
  exact this
theorem CC.kW (h : CC t0 ad A P) (hN : aN A ≤ 14) {w : Nat} (hw : w < aN A) : kk P (ad (50 + w)) 8 = true := by
  have := h.k (i := 50 + w) (by unfold lv; omega)
  rw [(kd_w w (by omega)).1] at this
  exact this
theorem CC.kR (h : CC t0 ad A P) (hR : aR A ≤ 10) {r : Nat} (hr : r < aR A) : kk P (ad (110 + r)) 5 = true := by
  have := h.k (i := 110 + r) (by unfold lv; omega)
  rw [(kd_r r (by omega)).1] at this
  exact this
theorem CC.kC (h : CC t0 ad A P) (hR : aR A ≤ 10) {r k : Nat} (hr : r < aR A) (hk : k < (aC A r).length) (h6 : (aC A r).length ≤ 6) : kk P (ad (200 + 6 * r + k)) 2 = true ∧ kk P (ad (300 + 6 * r + k)) 12 = true := by
  have h1 := h.k (i := 200 + 6 * r + k) (by unfold lv; exact Or.inr (Or.inr (Or.inr (Or.inr (Or.inr (Or.inr (Or.inr (Or.inr ⟨r, k, hr, hk, Or.inl rfl⟩))))))))
  have h2 := h.k (i := 300 + 6 * r + k) (by unfold lv; exact Or.inr (Or.inr (Or.inr (Or.inr (Or.inr (Or.inr (Or.inr (Or.inr ⟨r, k, hr, hk, Or.inr rfl⟩))))))))
  rw [Nat.add_assoc, (kd_c (6 * r + k) (by omega)).1, ← Nat.add_assoc] at h1
  rw [Nat.add_assoc, (kd_c (6 * r + k) (by omega)).2, ← Nat.add_assoc] at h2
  exact ⟨h1, h2⟩
theorem CC.r (h : CC t0 ad A P) : pR P (ad 0) 0 = some (ad 1) ∧ pR P (ad 0) 1 = some (ad 2) ∧ pR P (ad 0) 2 = some (ad 3) ∧ pR P (ad 0) 3 = some (ad 4) ∧ pR P (ad 0) 4 = some (ad 5) ∧ pR P (ad 0) 5 = some (ad 6) ∧ pR P (ad 0) 6 = some (ad 7) ∧ pR P (ad 0) 7 = some (ad 8) ∧ pR P (ad 0) 8 = some (ad 9) ∧ pR P (ad 0) 9 = some (ad 10) := ⟨h.1.1 0 (by decide), h.1.1 1 (by decide), h.1.1 2 (by decide), h.1.1 3 (by decide), h.1.1 4 (by decide), h.1.1 5 (by decide), h.1.1 6 (by decide), h.1.1 7 (by decide), h.1.1 8 (by decide), h.1.1 9 (by decide)⟩
theorem CC.w (h : CC t0 ad A P) {w : Nat} (hw : w < aN A) : CW t0 ad A P w := h.2.2.1.2 w hw
theorem CC.ws (h : CC t0 ad A P) : LSt t0 P (ad 2) (ad 14) (aN A) (fun w => ad (50 + w)) := h.2.2.1.1
theorem CC.ru (h : CC t0 ad A P) {r : Nat} (hr : r < aR A) : CRu t0 ad A P r := h.2.2.2.1.2 r hr
theorem CC.rs (h : CC t0 ad A P) : LSt t0 P (ad 3) (ad 15) (aR A) (fun r => ad (110 + r)) := h.2.2.2.1.1
theorem CC.now (h : CC t0 ad A P) : C6 ad A P := h.2.2.2.2.2.1
-- lists
variable {l b n : Nat} {f : Nat → Nat}
theorem LSt.k (h : LSt t0 P l b n f) : kk P l 0 = true := h.1.1
theorem LW.sz (h : LW t0 P l b n) : hm_Jx4a65c_size_8abf5 P l = some (nI n, P) := by
  unfold hm_Jx4a65c_size_8abf5
  rw [h.1, ck_t, h.2.2.1]
theorem LSt.sz (h : LSt t0 P l b n f) : hm_Jx4a65c_size_8abf5 P l = some (nI n, P) := h.1.sz
theorem LSt.gt (h : LSt t0 P l b n f) {k : Nat} (hk : k < n) : hm_Jx4a65c_get_915e3 P l (nI k) = some (some (f k), P) := by
  obtain ⟨⟨h1, h2, h3, h4, h5⟩, h6⟩ := h
  have h7 : kk P b 17 = true ∧ k < pN P b ∧ pN P b ≤ 64 := by
    rcases h5 with z | z
    · exact ⟨z.1, by omega, z.2.2.1⟩
    · omega
  unfold hm_Jx4a65c_get_915e3 hm_J15_checkIndex_7cf53 hm_J3_checkIndex_8e157 hm_Jx4a65c_elementData_915e3
  have hneg : ¬ nI k < 0 := nI_pos (n := k) (by omega)
  have hlt : nI k < nI n := by rw [lt_n (by omega) (by omega)]; exact hk
  simp only [h1, ck_t, h3, if_neg hneg, if_pos hlt, bd_s, h2, nn_s, h7.1, vin_n (show k < 2 ^ 31 by omega), decide_eq_true h7.2.1, nI_clamp (show k < 2 ^ 31 by omega), h6 k hk, lt_t]
-- small ones
theorem c_within (P : PS) (a : Int32) {n : Nat} (hn : n < 2 ^ 31) : hm_X8_within P a (nI n) = some (nI (ix n a).isSome.toNat, P) := by
  unfold hm_X8_within hm_X8_within_13 ix
  by_cases h1 : a < 0
  · rw [if_pos h1, if_pos (Or.inl h1)]
    rfl
  · by_cases h2 : nI n ≤ a
    · rw [if_neg h1, if_pos h2, if_pos (Or.inr h2)]
      rfl
    · rw [if_neg h1, if_neg h2, if_neg (fun z => z.elim h1 h2)]
      rfl
theorem c_offer (P : PS) (a b : Int32) : hm_X8_isOffer P a b = some (nI ((ix 4 a).isSome && (ix 2 b).isSome).toNat, P) := by
  unfold hm_X8_isOffer hm_X8_isOffer_20
  rw [show (4 : Int32) = nI 4 from rfl, c_within P a (by decide), bd_s]
  cases ix 4 a with
  | none => rfl
  | some e =>
    rw [show (2 : Int32) = nI 2 from rfl, c_within P b (by decide)]
    cases ix 2 b with
    | none => rfl
    | some l => rfl
theorem c_has (P : PS) {a k : Nat} (ha : a < 2 ^ 31) (hk : k < 32) : hm_X8_has P (nI a) (nI k) = some (nI (a.testBit k).toNat, P) := by
  unfold hm_X8_has
  rw [show (1 : Int32) = nI 1 from rfl, bit_n ha hk]
  cases a.testBit k <;> rfl
theorem c_bits (P : PS) {a : Nat} (ha : a < 2 ^ 14) : hm_J6_bitCount_0f7a4 P (nI a) = some (nI (cn a.testBit 14), P) := by
  have h1 := bc_key (a / 128) (by omega) (a % 128) (by omega)
  rw [show 128 * (a / 128) + a % 128 = a by omega] at h1
  unfold hm_J6_bitCount_0f7a4 at h1 ⊢
  simp only [lt_t] at h1 ⊢
  rw [← Option.some.inj h1]
theorem c_ntz {P : PS} {a : Nat} (ha : a < 64) (h0 : a ≠ 0) {k : Nat} (hk : (List.range 6).find? a.testBit = some k) : hm_J6_numberOfTrailingZeros_0f7a4 P (nI a) = some (nI k, P) := by
  have h1 := ntz_key a ha h0
  rw [hk] at h1
  unfold hm_J6_numberOfTrailingZeros_0f7a4 hm_J6_numberOfTrailingZeros_0f7a4_34 hm_J6_numberOfTrailingZeros_0f7a4_49 hm_J6_numberOfTrailingZeros_0f7a4_62 hm_J6_numberOfTrailingZeros_0f7a4_74 at h1 ⊢
  simp only [lt_t] at h1 ⊢
  repeat' split
  all_goals simp only [*, if_true, if_false, Option.map_some] at h1
  all_goals rw [Option.some.inj h1]
end PCE
