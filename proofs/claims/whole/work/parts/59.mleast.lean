section PMLE
variable {A : AA} {S : MS}
def vL (A : AA) (s : Nat) : VV := (aSh A ||| s, aJu A, fun _ => 0, fun _ => false)
def lok (A : AA) (l w e s : Nat) : Bool := decide (s &&& aSh A = 0) && hrE A (vL A s) l e w
def lsz (s : Nat) : Nat := cn s.testBit 14
def lpk (A : AA) (l w e n s : Nat) : Bool := decide (lsz s = n) && lok A l w e s
def lmn (A : AA) (l w e : Nat) : Option Nat := (List.range 11).find? fun n => (List.range 1024).any (lpk A l w e n)
def o5 (o : Option Nat) : Int32 := match o with
  | some k => nI k
  | none => -5
def lsA (A : AA) (l w e q : Nat) : Int32 := match lmn A l w e with
  | none => if q = 0 then -5 else 0
  | some n => if q = 0 then o5 ((List.range 1024).find? (lpk A l w e n)) else nI ((List.range 1024).countP (lpk A l w e n))
def sLeast (A : AA) (a b c d : Int32) : Int32 := match ix (aN A) a, ix 4 b, ix 2 c, ix 2 d with
  | some w, some e, some l, some q => lsA A l w e q
  | _, _, _, _ => -1
theorem o5_ge {o : Option Nat} (h : ∀ k, o = some k → k < 2 ^ 31) : (nI 0 ≤ o5 o) = (o.isSome = true) := by
  cases o with
  | none => simp [o5]; decide
  | some k =>
    have := h k rfl
    show (nI 0 ≤ nI k) = _
    rw [le_n (by decide) this]
    simp
theorem rg_f {p : Nat → Bool} {k : Nat} (h : p k = false) : (List.range (k + 1)).find? p = (List.range k).find? p ∧ (List.range (k + 1)).countP p = (List.range k).countP p := by
  rw [List.range_succ, List.find?_append, List.countP_append]
  simp [h]
theorem rg_t {p : Nat → Bool} {k : Nat} (h : p k = true) : (List.range (k + 1)).find? p = some (((List.range k).find? p).getD k) ∧ (List.range (k + 1)).countP p = (List.range k).countP p + 1 := by
  rw [List.range_succ, List.find?_append, List.countP_append]
  have e1 : [k].find? p = some k := by simp [h]
  have e2 : [k].countP p = 1 := by simp [h]
  rw [e1, e2]
  refine ⟨?_, rfl⟩
  cases List.find? p (List.range k) <;> rfl
theorem rg_b {p : Nat → Bool} {n : Nat} : ∀ k, (List.range n).find? p = some k → k < n := fun _ q => List.mem_range.mp (List.mem_of_find?_eq_some q)
theorem rg_c {p : Nat → Bool} {n : Nat} : (List.range n).countP p ≤ n := by
  have := List.countP_le_length (p := p) (l := List.range n)
  rw [List.length_range] at this
  exact this
theorem m_ls52 {w e l n : Nat} (hw : w < aN A) (he : e < 4) (hl : l < 2) (hn : n < 11) {k37 : Int32 → Int32 → Int32 → Int32 → Int32 → Int32 → Int32 → MS → Option (Int32 × MS)} {x4 : Int32} : ∀ (m k fuel sh : Nat) (S : MS), MV A (sh, aJu A, fun _ => 0, fun _ => false) S → k + m = 1024 → m < fuel → ∃ S' sh', MV A (sh', aJu A, fun _ => 0, fun _ => false) S' ∧ mm_least_52L k37 fuel (nI w) (nI e) (nI l) x4 (o5 ((List.range k).find? (lpk A l w e n))) (nI ((List.range k).countP (lpk A l w e n))) (nI n) (nI k) S = k37 (nI w) (nI e) (nI l) x4 (o5 ((List.range 1024).find? (lpk A l w e n))) (nI ((List.range 1024).countP (lpk A l w e n))) (nI (n + 1)) S' := by
  intro m
  induction m with
  | zero =>
    intro k fuel sh S h hk hf
    obtain ⟨fu, rfl⟩ : ∃ fu, fuel = fu + 1 := ⟨fuel - 1, by omega⟩
    obtain rfl : k = 1024 := by omega
    refine ⟨S, sh, h, ?_⟩
    show mm_least_52 _ _ _ _ _ _ _ _ _ _ _ = _
    unfold mm_least_52
    simp (discharger := omega) only [q1024, q1, nI_add, pk_mul, nI_clamp, ne_n, lt_n, le_n, vin_n, decide_true, decide_false, if_true, if_false, lt_t, Nat.le_refl]
  | succ m ih =>
    intro k fuel sh S h hk hf
    obtain ⟨fu, rfl⟩ : ∃ fu, fuel = fu + 1 := ⟨fuel - 1, by omega⟩
    have hk1 : ¬ 1024 ≤ k := by omega
    have hc := cn_le k.testBit 14
    have ha : k &&& aSh A ≤ k := Nat.and_le_left
    have g1 := h.2.1.2.2.2.1
    have hS := wfS h.1
    have hcp := rg_c (p := lpk A l w e n) (n := k)
    have h14 : k < 2 ^ 14 := by omega
    have hff : lpk A l w e n k = false → ∀ sh2 S2, MV A (sh2, aJu A, fun _ => 0, fun _ => false) S2 → ∃ S' sh', MV A (sh', aJu A, fun _ => 0, fun _ => false) S' ∧ mm_least_52L k37 fu (nI w) (nI e) (nI l) x4 (o5 ((List.range k).find? (lpk A l w e n))) (nI ((List.range k).countP (lpk A l w e n))) (nI n) (nI (k + 1)) S2 = k37 (nI w) (nI e) (nI l) x4 (o5 ((List.range 1024).find? (lpk A l w e n))) (nI ((List.range 1024).countP (lpk A l w e n))) (nI (n + 1)) S' := by
      intro hp sh2 S2 h2
      obtain ⟨e1, e2⟩ := rg_f hp
      have := ih (k + 1) fu sh2 S2 h2 (by omega) (by omega)
      rw [e1, e2] at this
      exact this
    show ∃ S' sh', _ ∧ mm_least_52 _ _ _ _ _ _ _ _ _ _ _ = _
    unfold mm_least_52 mm_least_123 mm_least_125
    simp (discharger := omega) only [q0, q1024, q1, bd_s, ck_t, lt_t, nI_add, pk_mul, nI_clamp, ne_n, lt_n, le_n, vin_n, decide_true, decide_false, if_true, if_false, hk1, m_ones S h14, g1, or_n, and_n]
    by_cases c1 : cn k.testBit 14 = n
    · rw [if_pos c1]
      by_cases c2 : k &&& aSh A = 0
      · rw [if_pos c2]
        have f1 : Fm [24] [] S (mP S 24 (nI (aSh A ||| k))) := Fm.mP (by decide)
        have h1 : MV A (vL A k) (mP S 24 (nI (aSh A ||| k))) := ⟨h.1, h.2.1.fm (f1.wk (by decide) (by decide)), MVw_sh h.2.2 (or1024 hS (by omega)) mP_s (mP_n (by decide)) (mP_n (by decide)) rfl⟩
        obtain ⟨S1, e1, f2⟩ := m_hrE h1 hw he hl
        have h2 := h1.f2 f2
        simp only [e1, bd_s, b2_0, lt_t]
        have hp : lpk A l w e n k = hrE A (vL A k) l e w := by
          show (decide (cn k.testBit 14 = n) && (decide (k &&& aSh A = 0) && _)) = _
          rw [decide_eq_true c1, decide_eq_true c2, Bool.true_and, Bool.true_and]
        cases hh : hrE A (vL A k) l e w with
        | false =>
          rw [if_pos rfl]
          exact hff (hp.trans hh) _ S1 h2
        | true =>
          simp only [reduceCtorEq, if_false]
          obtain ⟨e3, e4⟩ := rg_t (hp.trans hh)
          have hi := ih (k + 1) fu _ S1 h2 (by omega) (by omega)
          rw [e3, e4] at hi
          have hge := o5_ge (o := (List.range k).find? (lpk A l w e n)) (fun j q => by have := rg_b j q; omega)
          simp only [hge]
          cases hfd : (List.range k).find? (lpk A l w e n) with
          | none =>
            rw [hfd] at hi
            simp only [Option.isSome_none, Bool.false_eq_true, if_false]
            exact hi
          | some j =>
            rw [hfd] at hi
            simp only [Option.isSome_some, if_true]
            exact hi
      · rw [if_neg c2]
        exact hff (by show (_ && (decide (k &&& aSh A = 0) && _)) = _; rw [decide_eq_false c2, Bool.false_and, Bool.and_false]) _ S h
    · rw [if_neg c1]
      exact hff (by show (decide (cn k.testBit 14 = n) && _) = _; rw [decide_eq_false c1, Bool.false_and]) _ S h
theorem m_ls37 {w e l q : Nat} (hw : w < aN A) (he : e < 4) (hl : l < 2) (hq : q < 2) : ∀ (m n fuel sh : Nat) (S : MS), MV A (sh, aJu A, fun _ => 0, fun _ => false) S → n + m = 11 → m + 1 < fuel → (∀ n', n' < n → (List.range 1024).any (lpk A l w e n') = false) → ∃ S', mm_least_37L fuel (nI w) (nI e) (nI l) (nI q) (-5) (nI 0) (nI n) S = some (lsA A l w e q, S') ∧ MM A S' := by
  intro m
  induction m with
  | zero =>
    intro n fuel sh S h hk hf hz
    obtain ⟨fu, rfl⟩ : ∃ fu, fuel = fu + 1 := ⟨fuel - 1, by omega⟩
    obtain rfl : n = 11 := by omega
    refine ⟨S, ?_, h.2.1⟩
    show mm_least_37 _ _ _ _ _ _ _ _ _ = _
    unfold mm_least_37 mm_least_137
    have hl : lmn A l w e = none := by
      unfold lmn
      rw [List.find?_range_eq_none]
      intro i hi
      rw [hz i hi]
      rfl
    unfold lsA
    rw [hl]
    simp (discharger := omega) only [q11, q0, nI_add, pk_mul, nI_clamp, ne_n, lt_n, le_n, vin_n, decide_true, decide_false, if_true, if_false, Nat.le_refl]
    by_cases c : q = 0
    · simp only [if_pos c]
    · simp only [if_neg c]
  | succ m ih =>
    intro n fuel sh S h hk hf hz
    obtain ⟨fu, rfl⟩ : ∃ fu, fuel = fu + 1 := ⟨fuel - 1, by omega⟩
    have hn : ¬ 11 ≤ n := by omega
    obtain ⟨S1, sh1, h1, e1⟩ := m_ls52 (n := n) (k37 := mm_least_37L fu) (x4 := nI q) hw he hl (by omega) 1024 0 4000 sh S h rfl (by decide)
    have e1' : mm_least_52L (mm_least_37L fu) 4000 (nI w) (nI e) (nI l) (nI q) (-5) (nI 0) (nI n) (nI 0) S = _ := e1
    show ∃ S', mm_least_37 _ _ _ _ _ _ _ _ _ = _ ∧ _
    unfold mm_least_37
    have hm5 : ¬ nI 0 ≤ (-5 : Int32) := by decide
    simp (discharger := omega) only [q11, q0, nI_add, pk_mul, nI_clamp, ne_n, lt_n, le_n, vin_n, decide_true, decide_false, if_true, if_false, lt_t, hn, hm5]
    rw [e1']
    cases ha : (List.range 1024).any (lpk A l w e n) with
    | false =>
      have hn0 : (List.range 1024).find? (lpk A l w e n) = none := by
        rw [List.find?_eq_none]
        exact List.any_eq_false.mp ha
      have hc0 : (List.range 1024).countP (lpk A l w e n) = 0 := by
        rw [List.countP_eq_zero]
        exact List.any_eq_false.mp ha
      rw [hn0, hc0]
      exact ih (n + 1) fu sh1 S1 h1 (by omega) (by omega) (fun n' hn' => by
        by_cases c : n' = n
        · rw [c]; exact ha
        · exact hz n' (by omega))
    | true =>
      have hlm : lmn A l w e = some n := by
        unfold lmn
        rw [List.find?_range_eq_some]
        refine ⟨ha, List.mem_range.mpr (by omega), fun j hj => ?_⟩
        rw [hz j hj]
        rfl
      refine ⟨S1, ?_, h1.2.1⟩
      obtain ⟨fv, rfl⟩ : ∃ fv, fu = fv + 1 := ⟨fu - 1, by omega⟩
      show mm_least_37 _ _ _ _ _ _ _ _ _ = _
      unfold mm_least_37 mm_least_137
      have hs : ((List.range 1024).find? (lpk A l w e n)).isSome = true := by
        rw [List.find?_isSome]
        obtain ⟨x, hx, hy⟩ := List.any_eq_true.mp ha
        exact ⟨x, hx, hy⟩
      have hge : (nI 0 ≤ o5 ((List.range 1024).find? (lpk A l w e n))) = True := by
        rw [o5_ge (fun j q => by have := rg_b j q; omega), hs]
        simp
      unfold lsA
      rw [hlm]
      simp (discharger := omega) only [q11, q0, nI_add, pk_mul, nI_clamp, ne_n, lt_n, le_n, vin_n, decide_true, decide_false, if_true, if_false, hge]
      by_cases c : q = 0
      · simp only [if_pos c, ite_self]
      · simp only [if_neg c, ite_self]
theorem mq_least (h : WF A) (g : MM A S) (a b c d : Int32) : ∃ S', mm_least S a b c d = some (sLeast A a b c d, S') ∧ MM A S' := by
  unfold mm_least mm_least_21 sLeast
  simp only [m_isLay h g, bd_s, ck_t, lt_t, q0, q1, b2_0]
  cases h1 : ix (aN A) a with
  | none => exact ⟨S, by simp, g⟩
  | some w =>
  cases h2 : ix 4 b with
  | none => exact ⟨S, by simp, g⟩
  | some e =>
  cases h3 : ix 2 c with
  | none => exact ⟨S, by simp, g⟩
  | some l =>
  simp only [Option.isSome_some, Bool.and_true, reduceCtorEq, if_false, m_in' S 1 d (by decide), bd_s, b2_0]
  cases h4 : ix 2 d with
  | none => exact ⟨S, by simp, g⟩
  | some q =>
  have hN := wfN h
  obtain ⟨hw, rfl⟩ := ix_s (by omega) h1
  obtain ⟨he, rfl⟩ := ix_s (by decide) h2
  obtain ⟨hl, rfl⟩ := ix_s (by decide) h3
  obtain ⟨hq, rfl⟩ := ix_s (by decide) h4
  obtain ⟨S0, x, e0, f0, v0'⟩ := m_asIs h g
  obtain ⟨S1, e1, f1⟩ := m_ls37 hw he hl hq 11 0 4000 (aSh A) S0 v0' rfl (by decide) (fun n' z => absurd z (Nat.not_lt_zero _))
  refine ⟨S1, ?_, f1⟩
  simp only [Option.isSome_some, reduceCtorEq, if_false, e0, bd_s]
  exact e1
end PMLE
