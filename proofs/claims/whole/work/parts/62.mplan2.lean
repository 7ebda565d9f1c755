section PMPM
variable {A : AA} {S : MS}
theorem m_pl119 {l s n : Nat} {c : Int32} (h : WF A) (hl : l < 2) (hn : n = (rwl A s).length) (hn0 : 0 < n) (hn5 : n ≤ 5) (hc : ¬ c < -1) : ∀ (m x fuel : Nat) (S : MS), MM A S → (∀ j, j < n → S.2.1 30 j = nI (rwf A s j)) → x + m = n ^ n → m < fuel → (∀ y, y < x → okP (hdP A l s n) (dgs n n y) 0 = false) → ∃ S', mm_plan_119L fuel (nI l) c (nI n) (nI (n ^ n)) (nI x) S = some (plA A l s c, S') ∧ MM A S' := by
  have hnn : n ^ n ≤ 3125 := by
    have : ∀ n, n < 6 → n ^ n ≤ 3125 := by decide
    exact this n (by omega)
  have hblk := nx_blk (n := n) (hd := hdP A l s n) hn0 n 0 0 (by omega) rfl
  have hpl : plA A l s c = match nxF n (hdP A l s n) n 0 with
    | none => if c = -1 then 0 else -1
    | some ds => if c = -1 then 1 else (match ix n c with
      | some i => nI (rwf A s (ds.getD i 0))
      | none => -1) := by
    subst hn
    rfl
  have e0 : mkl (dgs n 0 0) = 0 := rfl
  rw [e0] at hblk
  simp only [Nat.zero_mul, Nat.zero_add] at hblk
  intro m
  induction m with
  | zero =>
    intro x fuel S g h30 hx hf hz
    obtain ⟨fu, rfl⟩ : ∃ fu, fuel = fu + 1 := ⟨fuel - 1, by omega⟩
    obtain rfl : x = n ^ n := by omega
    refine ⟨S, ?_, g⟩
    show mm_plan_119 _ _ _ _ _ _ _ = _
    unfold mm_plan_119
    rw [if_pos (by rw [le_n (by omega) (by omega)]; exact Nat.le_refl _), hpl]
    cases hx : nxF n (hdP A l s n) n 0 with
    | none =>
      by_cases c1 : c = -1
      · simp only [if_pos c1]
      · simp only [if_neg c1]
    | some ds =>
      exfalso
      rw [hx] at hblk
      obtain ⟨-, y, hy, -, ho, -⟩ := hblk
      rw [hz y hy] at ho
      cases ho
  | succ m ih =>
    intro x fuel S g h30 hx hf hz
    obtain ⟨fu, rfl⟩ : ∃ fu, fuel = fu + 1 := ⟨fuel - 1, by omega⟩
    have hlt : ¬ nI (n ^ n) ≤ nI x := by rw [le_n (by omega) (by omega)]; omega
    obtain ⟨S1, e1, f1, a1, -⟩ := m_iol hn0 hn5 n x 0 4000 S (Nat.le_refl _) (by omega) (by decide) (by omega)
    have g1 : MM A S1 := g.fm (f1.wk (by decide) (by decide))
    have e1' : mm_isOrder S (nI x) (nI n) = some (nI (dst (dgs n n x) 0).toNat, S1) := by
      rw [← okP_dst (l := 0) (s := 0) hn0 hn5]
      exact e1
    have h30' : ∀ j, j < n → S1.2.1 30 j = nI (rwf A s j) := fun j hj => by rw [f1.2.1 30 (by decide)]; exact h30 j hj
    have hstep : ∀ S2, MM A S2 → S2.2.1 30 = S1.2.1 30 → okP (hdP A l s n) (dgs n n x) 0 = false → ∃ S', mm_plan_119L fu (nI l) c (nI n) (nI (n ^ n)) (nI (x + 1)) S2 = some (plA A l s c, S') ∧ MM A S' := by
      intro S2 g2 k30 hb
      exact ih (x + 1) fu S2 g2 (fun j hj => by rw [k30]; exact h30' j hj) (by omega) (by omega) (fun y hy => by
        by_cases q : y = x
        · rw [q]; exact hb
        · exact hz y (by omega))
    show ∃ S', mm_plan_119 _ _ _ _ _ _ _ = _ ∧ _
    unfold mm_plan_119 mm_plan_178
    rw [if_neg hlt]
    simp only [e1', bd_s, b2_z, lt_t, q1, nI_add]
    cases hd : dst (dgs n n x) 0 with
    | false =>
      rw [if_pos rfl]
      refine hstep S1 g1 rfl ?_
      cases q : okP (hdP A l s n) (dgs n n x) 0 with
      | false => rfl
      | true => rw [dst_of q] at hd; cases hd
    | true =>
      rw [if_neg (by decide)]
      have a31 : ∀ i d, (dgs n n x)[i]? = some d → S1.2.1 31 i = nI d := by
        intro i d q
        have hi := (List.getElem?_eq_some_iff.mp q).1
        rw [dgs_len] at hi
        rw [a1 i hi, getD_s q]
      obtain ⟨S2, e2, g2, k30, k31⟩ := m_isP h g1 hl hn hn5 dgs_len a31 h30' (fun d hd => dgs_lt hn0 d hd) hd
      simp only [e2, bd_s, b2_z]
      cases ho : okP (hdP A l s n) (dgs n n x) 0 with
      | false =>
        rw [if_pos rfl]
        exact hstep S2 g2 k30 ho
      | true =>
        rw [if_neg (by decide)]
        have hxs : nxF n (hdP A l s n) n 0 = some (dgs n n x) := by
          cases hx2 : nxF n (hdP A l s n) n 0 with
          | none =>
            rw [hx2] at hblk
            have := hblk x (by omega)
            rw [ho] at this
            cases this
          | some ds =>
            rw [hx2] at hblk
            obtain ⟨-, y, hy, hd2, ho2, hm⟩ := hblk
            rcases Nat.lt_trichotomy x y with q | q | q
            · have := hm x q
              rw [ho] at this
              cases this
            · subst q
              rw [hd2]
              rfl
            · rw [hz y q] at ho2
              cases ho2
        rw [hpl, hxs]
        refine ⟨S2, ?_, g2⟩
        have em : (-nI 1 : Int32) = -1 := rfl
        simp only [em]
        by_cases c1 : c = -1
        · simp only [if_pos c1]
          rfl
        · simp only [if_neg c1]
          cases hi : ix n c with
          | none =>
            rcases ix_n hi with z | z
            · exfalso
              have h1 : c.toInt < 0 := by rw [Int32.lt_iff_toInt_lt] at z; exact z
              have h2 : ¬ c.toInt < -1 := by rw [Int32.lt_iff_toInt_lt] at hc; exact hc
              have h3 : c.toInt = -1 := by omega
              exact c1 (Int32.toInt_inj.mp (h3.trans rfl))
            · rw [if_pos z]
          | some i =>
            obtain ⟨hi2, rfl⟩ := ix_s (by omega) hi
            have hni : ¬ nI n ≤ nI i := nI_ge hi2 (by omega)
            have hdi : (dgs n n x).getD i 0 < n := by
              obtain ⟨d, q1, q2⟩ := ge_some (L := dgs n n x) (i := i) (by rw [dgs_len]; exact hi2)
              rw [getD_s q1]
              exact dgs_lt hn0 d q2
            have i31 : S2.2.1 31 i = nI ((dgs n n x).getD i 0) := by rw [k31, a1 i hi2]
            have i30 : S2.2.1 30 ((dgs n n x).getD i 0) = nI (rwf A s ((dgs n n x).getD i 0)) := by rw [k30]; exact h30' _ hdi
            rw [if_neg hni, vin_n (by omega), nI_clamp (by omega), i31, vin_n (by omega), nI_clamp (by omega), i30, decide_eq_true (show i < 5 by omega), decide_eq_true (show (dgs n n x).getD i 0 < 5 by omega), ck_t, ck_t]
theorem m_pl96 {n : Nat} {l c : Int32} (hn5 : n ≤ 5) : ∀ (m k fuel : Nat) (S : MS), k + m = n → m < fuel → mm_plan_96L fuel l c (nI n) (nI (n ^ k)) (nI k) S = mm_plan_119L 4000 l c (nI n) (nI (n ^ n)) (nI 0) S := by
  intro m
  induction m with
  | zero =>
    intro k fuel S hk hf
    obtain ⟨fu, rfl⟩ : ∃ fu, fuel = fu + 1 := ⟨fuel - 1, by omega⟩
    obtain rfl : k = n := by omega
    show mm_plan_96 _ _ _ _ _ _ _ = _
    unfold mm_plan_96
    rw [if_pos (by rw [le_n (by omega) (by omega)]; exact Nat.le_refl _)]
    rfl
  | succ m ih =>
    intro k fuel S hk hf
    obtain ⟨fu, rfl⟩ : ∃ fu, fuel = fu + 1 := ⟨fuel - 1, by omega⟩
    have hlt : ¬ nI n ≤ nI k := by rw [le_n (by omega) (by omega)]; omega
    show mm_plan_96 _ _ _ _ _ _ _ = _
    unfold mm_plan_96
    rw [if_neg hlt, lt_t, lt_t, pk_mul, q1, nI_add, ← Nat.pow_succ]
    exact ih (k + 1) fu S (by omega) (by omega)
theorem cn_up {f : Nat → Bool} {k : Nat} : ∀ {n : Nat}, k ≤ n → cn f k ≤ cn f n
  | 0, h => by have : k = 0 := by omega
               rw [this]; exact Nat.le_refl _
  | n + 1, h => by
    by_cases q : k = n + 1
    · rw [q]; exact Nat.le_refl _
    · have := cn_up (f := f) (k := k) (n := n) (by omega)
      show cn f k ≤ cn f n + _
      omega
theorem flt_len {f : Nat → Bool} : ∀ {n : Nat}, ((List.range n).filter f).length = cn f n
  | 0 => rfl
  | n + 1 => by
    rw [List.range_succ, List.filter_append, List.length_append, flt_len]
    show _ = cn f n + (f n).toNat
    cases q : f n <;> simp [q]
theorem m_pl53 {s l : Nat} {c : Int32} (h : WF A) (h5 : cn s.testBit 14 ≤ 5) (hs : s < 2 ^ 14) : ∀ (m k fuel : Nat) (S : MS), MM A S → k + m = aN A → m < fuel → (∀ j, j < ((List.range k).filter fun w => s.testBit w).length → S.2.1 30 j = nI (((List.range k).filter fun w => s.testBit w).getD j 0)) → ∃ S', mm_plan_53L fuel (nI s) (nI l) c (nI ((List.range k).filter fun w => s.testBit w).length) (nI 1) (nI k) S = mm_plan_96L 4000 (nI l) c (nI (rwl A s).length) (nI 1) (nI 0) S' ∧ MM A S' ∧ ∀ j, j < (rwl A s).length → S'.2.1 30 j = nI (rwf A s j) := by
  have hN := wfN h
  intro m
  induction m with
  | zero =>
    intro k fuel S g hk hf h30
    obtain ⟨fu, rfl⟩ : ∃ fu, fuel = fu + 1 := ⟨fuel - 1, by omega⟩
    obtain rfl : k = aN A := by omega
    refine ⟨S, ?_, g, h30⟩
    show mm_plan_53 _ _ _ _ _ _ _ _ = _
    unfold mm_plan_53
    rw [g.1.1, if_pos (by rw [le_n (by omega) (by omega)]; exact Nat.le_refl _)]
    rfl
  | succ m ih =>
    intro k fuel S g hk hf h30
    obtain ⟨fu, rfl⟩ : ∃ fu, fuel = fu + 1 := ⟨fuel - 1, by omega⟩
    have hlt : ¬ nI (aN A) ≤ nI k := by rw [le_n (by omega) (by omega)]; omega
    have hr : (List.range (k + 1)).filter (fun w => s.testBit w) = (List.range k).filter (fun w => s.testBit w) ++ (if s.testBit k = true then [k] else []) := by
      rw [List.range_succ, List.filter_append]
      congr 1
      cases q : s.testBit k <;> simp [q]
    show ∃ S', mm_plan_53 _ _ _ _ _ _ _ _ = _ ∧ _
    unfold mm_plan_53 mm_plan_87
    rw [g.1.1, if_neg hlt, m_has S (show s < 2 ^ 31 by omega) (show k < 32 by omega), bd_s]
    simp only [b2_z, lt_t, q1, nI_add]
    have hlen := flt_len (f := fun w => s.testBit w) (n := k)
    cases q : s.testBit k with
    | false =>
      rw [if_pos rfl]
      have he : (List.range (k + 1)).filter (fun w => s.testBit w) = (List.range k).filter (fun w => s.testBit w) := by
        rw [hr, q]
        simp
      have := ih (k + 1) fu S g (by omega) (by omega) (by rw [he]; exact h30)
      rw [he] at this
      exact this
    | true =>
      rw [if_neg (by decide)]
      have he : (List.range (k + 1)).filter (fun w => s.testBit w) = (List.range k).filter (fun w => s.testBit w) ++ [k] := by
        rw [hr, q]
        simp
      have hc1 : cn s.testBit (k + 1) = cn s.testBit k + 1 := by
        show cn s.testBit k + (s.testBit k).toNat = _
        rw [q]
        rfl
      have hc2 := cn_up (f := s.testBit) (k := k + 1) (n := 14) (by omega)
      have hle : ((List.range k).filter fun w => s.testBit w).length < 5 := by
        have : ((List.range k).filter fun w => s.testBit w).length = cn s.testBit k := hlen
        omega
      have f1 : Fm [] [30] S (mR S 30 ((List.range k).filter fun w => s.testBit w).length (nI k)) := Fm.mR (by decide)
      have := ih (k + 1) fu (mR S 30 ((List.range k).filter fun w => s.testBit w).length (nI k)) (g.fm (f1.wk (by decide) (by decide))) (by omega) (by omega) (by
        rw [he]
        intro j hj
        rw [List.length_append] at hj
        rw [mR_s]
        by_cases z : j = ((List.range k).filter fun w => s.testBit w).length
        · rw [if_pos z, z, getD_last]
        · rw [if_neg z, getD_ap (by simp at hj; omega)]
          exact h30 j (by simp at hj; omega))
      rw [he, List.length_append] at this
      rw [vin_n (by omega), decide_eq_true hle, ck_t, nI_clamp (by omega)]
      exact this
theorem m_in1 (S : MS) (n : Nat) (a : Int32) (hn : n < 2 ^ 30) : mm_in S a (nI 1) (nI n - nI 1) = some (nI (match ix n a with | some j => decide (j ≠ 0) | none => false).toNat, S) := by
  have e1 : (nI n - nI 1).toInt = (n : Int) - 1 := pk_sub_toInt hn (by decide)
  unfold mm_in mm_in_14
  cases hi : ix n a with
  | none =>
    rcases ix_n hi with z | z
    · have : a < nI 1 := by
        rw [Int32.lt_iff_toInt_lt] at z ⊢
        have : (0 : Int32).toInt = 0 := rfl
        have : (nI 1).toInt = 1 := rfl
        omega
      rw [if_pos this]
      rfl
    · rw [Int32.le_iff_toInt_le, nI_toInt (by omega)] at z
      have h2 : nI n - nI 1 < a := by rw [Int32.lt_iff_toInt_lt, e1]; omega
      rw [if_pos h2]
      split <;> rfl
  | some j =>
    obtain ⟨hj, rfl⟩ := ix_s (by omega) hi
    have h2 : ¬ (nI n - nI 1 < nI j) := by rw [Int32.lt_iff_toInt_lt, e1, nI_toInt (by omega)]; omega
    rw [if_neg h2]
    by_cases c : j = 0
    · subst c
      rfl
    · have h1 : ¬ nI j < nI 1 := by rw [lt_n (by omega) (by decide)]; omega
      rw [if_neg h1]
      simp [c, q1]
theorem mq_plan (h : WF A) (g : MM A S) (a b c : Int32) : ∃ S', mm_plan S a b c = some (sPlan A a b c, S') ∧ MM A S' := by
  have hN := wfN h
  unfold mm_plan mm_plan_13 mm_plan_41 sPlan
  simp only [m_isL, bd_s, b2_z]
  cases h2 : ix 2 b with
  | none => exact ⟨S, by simp, g⟩
  | some l =>
  obtain ⟨hl, rfl⟩ := ix_s (by decide) h2
  simp only [Option.isSome_some, reduceCtorEq, if_false]
  have hpw : 2 ^ aN A ≤ 2 ^ 14 := Nat.pow_le_pow_right (by decide) hN
  by_cases hc : c < -1
  · have : ¬ (-1 : Int32) ≤ c := by
      rw [Int32.le_iff_toInt_le]
      rw [Int32.lt_iff_toInt_lt] at hc
      omega
    rw [if_neg this, if_pos hc]
    exact ⟨S, rfl, g⟩
  · have h1 : (-1 : Int32) ≤ c := by
      rw [Int32.le_iff_toInt_le]
      rw [Int32.lt_iff_toInt_lt] at hc
      omega
    rw [if_pos h1, if_neg hc]
    have e1 : ((1 : Int32) <<< ((S.1 0) &&& 31)) - (1 : Int32) = nI (2 ^ aN A) - nI 1 := by
      rw [g.1.1]
      rw [show (1 : Int32) <<< (nI (aN A) &&& 31) = nI (2 ^ aN A) from shl_n (by omega)]
      rfl
    rw [e1, show (1 : Int32) = nI 1 from rfl, m_in1 S (2 ^ aN A) a (by omega), bd_s]
    simp only [b2_z]
    cases h3 : ix (2 ^ aN A) a with
    | none => exact ⟨S, by simp, g⟩
    | some s =>
    obtain ⟨hs, rfl⟩ := ix_s (by omega) h3
    have hs14 : s < 2 ^ 14 := by omega
    have hcl := cn_le s.testBit 14
    by_cases c0 : s = 0
    · subst c0
      exact ⟨S, by simp, g⟩
    · simp only [c0, ne_eq, not_false_eq_true, decide_true, reduceCtorEq, if_false, false_or]
      rw [m_ones S hs14, bd_s]
      have h5 : (nI (cn s.testBit 14) ≤ 5) = ¬ (5 < lsz s) := by
        rw [q5, le_n (by omega) (by decide)]
        show (_ ≤ 5) = ¬ (5 < cn s.testBit 14)
        apply propext
        omega
      simp only [h5]
      by_cases c5 : 5 < lsz s
      · simp only [c5, not_true_eq_false, if_false, if_true]
        exact ⟨S, rfl, g⟩
      · simp only [c5, not_false_eq_true, if_false, if_true, lt_t]
        have h5' : cn s.testBit 14 ≤ 5 := Nat.le_of_not_lt c5
        obtain ⟨S1, e2, g1, r1⟩ := m_pl53 (l := l) (c := c) h h5' hs14 (aN A) 0 4000 S g (by omega) (by omega) (fun j hj => absurd hj (Nat.not_lt_zero _))
        have hlen : (rwl A s).length = cn s.testBit (aN A) := flt_len
        have hup := cn_up (f := s.testBit) (k := aN A) (n := 14) hN
        have hn0 : 0 < (rwl A s).length := by
          rcases Nat.eq_zero_or_pos (rwl A s).length with z | z
          · exfalso
            apply c0
            rw [eq0_of]
            intro i
            cases q : s.testBit i with
            | false => rfl
            | true =>
              have := cn_0 (hlen.symm.trans z) i (of_lt hs q)
              rw [q] at this
              cases this
          · exact z
        have e3 := m_pl96 (n := (rwl A s).length) (l := nI l) (c := c) (by omega) (rwl A s).length 0 4000 S1 (by omega) (by omega)
        have hpw5 : (rwl A s).length ^ (rwl A s).length ≤ 3125 := by
          have : ∀ n, n < 6 → n ^ n ≤ 3125 := by decide
          exact this _ (by omega)
        obtain ⟨S2, e4, g2⟩ := m_pl119 (c := c) h hl rfl hn0 (by omega) hc ((rwl A s).length ^ (rwl A s).length) 0 4000 S1 g1 r1 (by omega) (by omega) (fun y hy => absurd hy (Nat.not_lt_zero _))
        refine ⟨S2, ?_, g2⟩
        rw [Nat.pow_zero] at e3
        have e2' : mm_plan_53L 4000 (nI s) (nI l) c 0 (nI 1) 0 S = _ := e2
        rw [e2', e3, e4]
end PMPM
