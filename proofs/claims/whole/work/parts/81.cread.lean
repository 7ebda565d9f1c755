section PCRD
variable {t0 : TS} {ad : DD} {A : AA} {P : PS} {w : Nat}
theorem isome_n {o : Option Nat} {x : Nat} (h : o = some x) : ¬ nI (Option.isSome o).toNat = 0 := by rw [h]; show ¬ nI 1 = 0; decide
theorem cq_of (hW : WF A) (h : CC t0 ad A P) (a b : Int32) : hm_X8_of P (ad 0) a b = some (sOf A a b, P) := by
  have hN := wfN hW
  unfold hm_X8_of hm_X8_of_19 sOf
  simp only [ck_t, nn_s, bd_s, lt_t, c_wordAt hW h, h.k0, show (8 : Int32) = nI 8 from rfl, c_within P b (show 8 < 2 ^ 31 by decide)]
  cases h1 : ix (aN A) a with
  | none => rfl
  | some w =>
  cases h2 : ix 8 b with
  | none => rfl
  | some q =>
  obtain ⟨hw, rfl⟩ := ix_s (by omega) h1
  obtain ⟨hq, rfl⟩ := ix_s (by decide) h2
  have n1 := isome_n (show (some q : Option Nat) = some q from rfl)
  obtain ⟨w0, w1, -, w4, -, w5, w7, ls⟩ := h.w hw
  have hB := wfB hW hw
  have hpl := wfPl hW w
  obtain ⟨p0, -⟩ := h.2.1 _ hB
  simp only [Option.map_some, nlS, if_neg n1, ck_t, nn_s, bd_s, lt_t, h.kW hN hw, w1, w4, w5, w7, nn_s, h.kP hB, p0, ls.sz, ls.k]
  have en : ∀ c : Nat, c < 8 → (nI q = nI c ↔ q = c) := fun c hc => by rw [ne_n (by omega) (by omega)]
  have z0 : nI q = 0 ↔ q = 0 := en 0 (by decide)
  have z1 : nI q = 1 ↔ q = 1 := en 1 (by decide)
  have z2 : nI q = 2 ↔ q = 2 := en 2 (by decide)
  have z3 : nI q = 3 ↔ q = 3 := en 3 (by decide)
  by_cases c0 : q = 0
  · rw [if_pos (z0.mpr c0), if_pos c0]
  · rw [if_neg (fun y => c0 (z0.mp y)), if_neg c0]
    by_cases c1 : q = 1
    · rw [if_pos (z1.mpr c1), if_pos c1]
    · rw [if_neg (fun y => c1 (z1.mp y)), if_neg c1]
      by_cases c2 : q = 2
      · rw [if_pos (z2.mpr c2), if_pos c2]
      · rw [if_neg (fun y => c2 (z2.mp y)), if_neg c2]
        by_cases c3 : q = 3
        · rw [if_pos (z3.mpr c3), if_pos c3]
        · rw [if_neg (fun y => c3 (z3.mp y)), if_neg c3]
          have e4 : nI q - (4 : Int32) = nI (q - 4) := by rw [q4, pk_sub (by omega)]
          have hneg : ¬ nI (q - 4) < 0 := nI_pos (n := q - 4) (by omega)
          unfold hm_X7_partAt hm_X7_partAt_29
          rw [e4, if_neg hneg]
          by_cases c5 : q - 4 < (aP A w).length
          · obtain ⟨p, hp1, hp2⟩ := ge_some c5
            have hpn : p < aN A := by have := wfP hW hw p hp2; omega
            have eg := ls.gt c5
            rw [getD_s hp1] at eg
            obtain ⟨x0, -⟩ := h.w hpn
            have hle : ¬ nI (aP A w).length ≤ nI (q - 4) := by rw [le_n (by omega) (by omega)]; omega
            simp only [ck_t, nn_s, bd_s, lt_t, h.kW hN hw, w7, ls.sz, ls.k, if_neg hle, eg, h.kW hN hpn, nlS, x0, hp1]
          · have hle : nI (aP A w).length ≤ nI (q - 4) := by rw [le_n (by omega) (by omega)]; omega
            have hnone : (aP A w)[q - 4]? = none := List.getElem?_eq_none (by omega)
            simp only [ck_t, nn_s, bd_s, lt_t, h.kW hN hw, w7, ls.sz, ls.k, if_pos hle, nlN, hnone]
theorem cq_taken (hW : WF A) (h : CC t0 ad A P) (a b : Int32) : hm_X8_taken P (ad 0) a b = some (sTaken A a b, P) := by
  have hN := wfN hW
  unfold hm_X8_taken sTaken
  simp only [ck_t, nn_s, bd_s, lt_t, c_wordAt hW h, h.k0, show (7 : Int32) = nI 7 from rfl, c_within P b (show 7 < 2 ^ 31 by decide)]
  cases h2 : ix 7 b with
  | none => rfl
  | some k =>
  cases h1 : ix (aN A) a with
  | none => rfl
  | some w =>
  obtain ⟨hw, rfl⟩ := ix_s (by omega) h1
  obtain ⟨hk, rfl⟩ := ix_s (by decide) h2
  have n1 := isome_n (show (some k : Option Nat) = some k from rfl)
  obtain ⟨w0, w1, w2, -⟩ := h.w hw
  have hkm := kms_lt (k := aK A w)
  have eh := c_has P (a := kms (aK A w)) (k := k) (by omega) (by omega)
  rw [kms_t (wfK hW hw) (by omega)] at eh
  simp only [Option.map_some, nlS, if_neg n1, ck_t, nn_s, bd_s, lt_t, h.kW hN hw, w1, w2, eh]
  cases undr (aK A w) k with
  | true => rw [if_neg (show ¬ nI true.toNat = 0 by decide), if_pos rfl]
  | false => rw [if_pos (show nI false.toNat = 0 from rfl), if_neg (by decide)]
theorem cq_trace (hW : WF A) (h : CC t0 ad A P) (a : Int32) : hm_X8_trace P (ad 0) a = some (sTrace A a, P) := by
  have hrn := hW.2.2.2.2.2.2.2.1
  obtain ⟨-, -, -, -, -, -, -, f7, -⟩ := h.r
  obtain ⟨c1, c2⟩ := h.2.2.2.2.2.2.2.1
  have hr0 := h.1.2.2.2.2.2.2.2.1
  have h20 := h.1.2.2.2.2.2.2.2.2.2.2.2
  unfold hm_X8_trace hm_X0_traced hm_X0_traced_30 sTrace
  simp only [ck_t, nn_s, bd_s, lt_t, h.k0, f7, h.k8, c1, hr0, h.k13, h20]
  cases h1 : ix 20 a with
  | none =>
    rcases ix_n h1 with z | z
    · rw [if_pos z]; rfl
    · by_cases z1 : a < 0
      · rw [if_pos z1]; rfl
      · rw [if_neg z1]
        by_cases z2 : nI (aRn A) ≤ a
        · rw [if_pos z2]; rfl
        · rw [if_neg z2, if_pos z]; rfl
  | some i =>
    obtain ⟨hi, rfl⟩ := ix_s (by decide) h1
    have z1 : ¬ nI i < 0 := nI_pos (n := i) (by omega)
    have z3 : ¬ nI 20 ≤ nI i := by rw [le_n (by omega) (by omega)]; omega
    rw [if_neg z1]
    by_cases c : i < aRn A
    · have z2 : ¬ nI (aRn A) ≤ nI i := by rw [le_n (by omega) (by omega)]; omega
      simp only [if_neg z2, if_neg z3, vin_n (show i < 2 ^ 31 by omega), decide_eq_true hi, ck_t, nI_clamp (show i < 2 ^ 31 by omega), c2 i hi c, bd_s, if_pos c]
    · have z2 : nI (aRn A) ≤ nI i := by rw [le_n (by omega) (by omega)]; omega
      rw [if_pos z2]
      simp only [if_neg c]
      rfl
theorem c_cntl (hW : WF A) (h : CC t0 ad A P) : ∀ (n k fuel : Nat), k + n = aR A → n < fuel → hm_X8_rulesOfFirstLand_4L fuel (ad 0) (nI (cn (fun r => aL A r == 0) k)) (nI k) P = some (nI (cn (fun r => aL A r == 0) (aR A)), P) := by
  have hR := wfR hW
  obtain ⟨-, -, f2, -⟩ := h.r
  have ls := h.rs
  intro n
  induction n with
  | zero =>
    intro k fuel hk hf
    obtain ⟨fu, rfl⟩ : ∃ fu, fuel = fu + 1 := ⟨fuel - 1, by omega⟩
    obtain rfl : k = aR A := by omega
    have hle : nI (aR A) ≤ nI (aR A) := by rw [le_n (by omega) (by omega)]; exact Nat.le_refl _
    show hm_X8_rulesOfFirstLand_4 _ _ _ _ _ = _
    unfold hm_X8_rulesOfFirstLand_4
    simp only [ck_t, nn_s, bd_s, lt_t, h.k0, f2, ls.k, ls.sz, if_pos hle]
  | succ n ih =>
    intro k fuel hk hf
    obtain ⟨fu, rfl⟩ : ∃ fu, fuel = fu + 1 := ⟨fuel - 1, by omega⟩
    have hk' : k < aR A := (by omega); have hle : ¬ nI (aR A) ≤ nI k := by rw [le_n (by omega) (by omega)]; omega
    have ih' := ih (k + 1) fu (by omega) (by omega)
    have ec : ∀ x : Nat, nI x + (1 : Int32) = nI (x + 1) := fun x => by rw [q1, nI_add]
    have hL := wfL hW hk'
    obtain ⟨-, r1, -⟩ := h.ru hk'
    have e2 : nI (aL A k) = 0 ↔ aL A k = 0 := by rw [q0, ne_n (by omega) (by omega)]
    have hs : cn (fun r => aL A r == 0) (k + 1) = cn (fun r => aL A r == 0) k + (aL A k == 0).toNat := rfl
    rw [hs] at ih'
    show hm_X8_rulesOfFirstLand_4 _ _ _ _ _ = _
    unfold hm_X8_rulesOfFirstLand_4 hm_X8_rulesOfFirstLand_35
    simp only [ck_t, nn_s, bd_s, lt_t, h.k0, f2, ls.k, ls.sz, if_neg hle, ls.gt hk', h.kR hR hk', r1, ec]
    by_cases z : aL A k = 0
    · rw [beq_iff_eq.mpr z] at ih'
      rw [if_pos (e2.mpr z)]
      exact ih'
    · have : (aL A k == 0) = false := by simp [z]
      rw [this] at ih'
      rw [if_neg (fun y => z (e2.mp y))]
      exact ih'
theorem cq_count (hW : WF A) (h : CC t0 ad A P) (a : Int32) : hm_X8_count P (ad 0) a = some (sCount A a, P) := by
  obtain ⟨-, f1, f2, f3, -, -, -, f7, -⟩ := h.r
  have ws := h.ws
  have rs := h.rs
  have c5 := h.2.2.2.2.1.1
  have c8 := h.2.2.2.2.2.2.2.1.1
  have el : hm_X8_rulesOfFirstLand P (ad 0) = some (nI (cn (fun r => aL A r == 0) (aR A)), P) := by
    unfold hm_X8_rulesOfFirstLand
    rw [lt_t, lt_t]
    exact c_cntl hW h (aR A) 0 4000 (by omega) (by have := wfR hW; omega)
  unfold hm_X8_count sCount
  simp only [ck_t, nn_s, bd_s, lt_t, h.k0, f1, f2, f3, f7, ws.sz, ws.k, rs.sz, rs.k, h.k4, h.k8, c5, c8, el]
  cases h1 : ix 5 a with
  | none =>
    have hne : ∀ c : Nat, c < 5 → ¬ a = nI c := by
      intro c hc z
      rw [z, ix_i hc (by decide)] at h1
      cases h1
    rw [if_neg (show ¬ a = 0 from hne 0 (by decide)), if_neg (show ¬ a = 1 from hne 1 (by decide)), if_neg (show ¬ a = 2 from hne 2 (by decide)), if_neg (show ¬ a = 3 from hne 3 (by decide)), if_neg (show ¬ a = 4 from hne 4 (by decide))]
  | some q =>
    obtain ⟨hq, rfl⟩ := ix_s (by decide) h1
    have en : ∀ c : Nat, c < 8 → (nI q = nI c ↔ q = c) := fun c hc => by rw [ne_n (by omega) (by omega)]
    have z0 : nI q = 0 ↔ q = 0 := en 0 (by decide)
    have z1 : nI q = 1 ↔ q = 1 := en 1 (by decide)
    have z2 : nI q = 2 ↔ q = 2 := en 2 (by decide)
    have z3 : nI q = 3 ↔ q = 3 := en 3 (by decide)
    have z4 : nI q = 4 ↔ q = 4 := en 4 (by decide)
    simp only [z0, z1, z2, z3, z4]
    have hc : q = 0 ∨ q = 1 ∨ q = 2 ∨ q = 3 ∨ q = 4 := by omega
    rcases hc with rfl | rfl | rfl | rfl | rfl <;> rfl
theorem tl60 (hW : WF A) {t : Nat} (ht : t < 6) : aTl A t ≤ 60 := (hW.2.2.2.2.2.2.2.2.2 t ht).2.1
theorem c_hasP (hW : WF A) (h : CC t0 ad A P) {t : Nat} (ht : t < 6) (a : Int32) : hm_X6_hasPlace P (ad (30 + t)) a = some (nI (ix (aTl A t) a).isSome.toNat, P) := by
  have hl := tl60 hW ht
  obtain ⟨-, j2, -⟩ := h.2.2.2.2.2.2.1 t ht
  obtain ⟨-, j3, j4⟩ := h.1.2.2.2.2.1 t ht
  unfold hm_X6_hasPlace hm_X6_hasPlace_25
  simp only [ck_t, nn_s, bd_s, lt_t, h.kT ht, j2, j3, h.kJ ht, j4]
  cases h1 : ix (aTl A t) a with
  | none =>
    rcases ix_n h1 with z | z
    · rw [if_pos z]; rfl
    · by_cases z1 : a < 0
      · rw [if_pos z1]; rfl
      · rw [if_neg z1, if_pos z]; rfl
  | some i =>
    obtain ⟨hi, rfl⟩ := ix_s (by omega) h1
    have z1 : ¬ nI i < 0 := nI_pos (n := i) (by omega)
    have z2 : ¬ nI (aTl A t) ≤ nI i := by rw [le_n (by omega) (by omega)]; omega
    have z3 : ¬ nI 60 ≤ nI i := by rw [le_n (by omega) (by omega)]; omega
    rw [if_neg z1, if_neg z2, if_neg z3]
    rfl
theorem cq_read (hW : WF A) (h : CC t0 ad A P) (a b : Int32) : hm_X8_read P (ad 0) a b = some (sRead A a b, P) := by
  unfold hm_X8_read hm_X6_get sRead
  simp only [ck_t, nn_s, bd_s, lt_t, c_tapeAt h, h.k0]
  cases h1 : ix 6 a with
  | none => rfl
  | some t =>
  obtain ⟨ht, rfl⟩ := ix_s (by decide) h1
  have hl := tl60 hW ht
  have hm := (hW.2.2.2.2.2.2.2.2.2 t ht).2.2
  obtain ⟨-, j2, j5⟩ := h.2.2.2.2.2.2.1 t ht
  obtain ⟨-, j3, j4⟩ := h.1.2.2.2.2.1 t ht
  simp only [Option.map_some, nlS, ck_t, nn_s, bd_s, lt_t, c_hasP hW h ht, h.kT ht, j3, h.kJ ht, j4]
  cases h2 : ix (aTl A t) b with
  | none => simp; rfl
  | some i =>
    obtain ⟨hi, rfl⟩ := ix_s (by omega) h2
    have hs : ¬ aTs A t = -1 := fun z => by have := hm z; omega
    rw [if_neg (isome_n rfl), if_neg hs, vin_n (by omega), decide_eq_true (show i < 60 by omega), ck_t, nI_clamp (by omega), j5 i (by omega)]
    rfl
end PCRD
