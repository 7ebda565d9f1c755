section PMRV
variable {A : AA} {S S' : MS} {T : List Nat} {c g R : Nat}
theorem m_word (hT : tOK T) {w k p : Nat} (hw : w < 2 ^ 31) (hk : k ≤ 6) (h : PX T p S) (hp : p ≤ T.length) {y : Int32} (hy : y = nI k) : ∃ S', mm_takesWord S (nI w) y = some (nI (rdW T (lws w k) p).2.toNat, S') ∧ PX T (rdW T (lws w k) p).1 S' ∧ FRg c g R S S' ∧ S'.2 = S.2 ∧ S'.1 20 = S.1 20 := by
  obtain ⟨S1, a1, a2, a3⟩ := m_twl (c := c) (g := g) (R := R) hT hw k p 4000 S h hp hk (by omega)
  refine ⟨S1, ?_, a2, a3⟩
  unfold mm_takesWord
  rw [lt_t, hy, q1]
  exact a1
theorem m_hdw (hT : tOK T) {w k p s cI : Nat} {L : List Nat} (hL : lws w k = L) (hw : w < 2 ^ 31) (hk : k ≤ 6) (h : PX T p S) (hp : p ≤ T.length) (hs : s ≠ 2) {y ws : Int32} (hy : y = nI k) (hws : ws = nI w) : match hdW T p s L with
    | (q, none) => ∃ S', (bd (mm_takesWord (mR S 15 cI (nI s)) ws y) fun r S1 => ck (z01 r) (some (r, S1))) = some (0, S') ∧ PX T q S' ∧ FRg cI g R S S'
    | (q, some sd) => ∃ S', (bd (mm_takesWord (mR S 15 cI (nI s)) ws y) fun r S1 => ck (z01 r) (some (r, S1))) = some (1, S') ∧ PX T q S' ∧ FRg cI g R S S' ∧ S'.2.1 15 cI = nI sd.1 ∧ (sd.1 = 2 → S'.2.1 16 cI = nI sd.2) ∧ S'.1 20 = S.1 20 := by
  have h1 : PX T p (mR S 15 cI (nI s)) := h.fr rfl (mR_n (by decide)) h.2.2
  have f1 : FRg cI g R S (mR S 15 cI (nI s)) := FRg.m15 (by decide) (Nat.le_refl _)
  obtain ⟨S1, a1, a2, a3, a4, a5⟩ := m_word (c := cI) (g := g) (R := R) hT hw hk h1 hp hy
  rw [hL] at a1 a2
  rw [hws, a1, bd_s]
  unfold hdW
  cases e : rdW T L p with
  | mk q b =>
    rw [e] at a2
    cases b with
    | false => exact ⟨S1, rfl, a2, f1.tr a3⟩
    | true => exact ⟨S1, rfl, a2, f1.tr a3, by rw [a4, mR_s, if_pos rfl], fun z => absurd z hs, a5⟩
theorem mm_in4 {p : Nat} (hT : tOK T) : mm_in S (nxI T p) 48 57 = some (nI (Option.isSome (T[p]?.bind dgi)).toNat, S) := by
  have key : ∀ x : Int32, mm_in S x 48 57 = some (nI (decide (¬ x < nI 48 ∧ ¬ nI 57 < x)).toNat, S) := by
    intro x
    unfold mm_in mm_in_14
    by_cases h1 : x < nI 48
    · rw [decide_eq_false (fun q => q.1 h1)]
      exact if_pos h1
    · by_cases h2 : nI 57 < x
      · rw [decide_eq_false (fun q => q.2 h2)]
        exact (if_neg h1).trans (if_pos h2)
      · rw [decide_eq_true (p := ¬ x < nI 48 ∧ ¬ nI 57 < x) ⟨h1, h2⟩]
        exact (if_neg h1).trans (if_neg h2)
  rw [key]
  congr 4
  unfold nxI
  cases q : T[p]? with
  | none => rfl
  | some y =>
    have := sx_in y (tOK_c hT q)
    show decide (¬ sx y < nI 48 ∧ ¬ nI 57 < sx y) = (dgi y).isSome
    cases e : (dgi y).isSome with
    | true => exact decide_eq_true (this.mpr e)
    | false =>
      apply decide_eq_false
      intro z
      rw [this.mp z] at e
      cases e
theorem m_hdn (hT : tOK T) {p cI : Nat} (hc : cI < 60) (h : PX T p S) (hp : p ≤ T.length) {k : Int32 → MS → Option (Int32 × MS)} (hk : ∀ S, k 0 S = some (0, S)) (hk1 : k = fun r S1 => if r = 0 then some (0, S1) else bd (mm_next S1) fun r2 S2 => bd (mm_in S2 r2 48 57) fun r3 S3 => if r3 = 0 then some (0, S3) else bd (mm_next S3) fun r4 S4 => ck (vin (nI cI) 60) (lt_ (mR S4 16 (nI cI).toNatClampNeg (r4 - 48)) fun S5 => lt_ (mP S5 11 (S5.1 11 + 1)) fun S6 => bd (mm_takes S6 32) fun r7 S7 => ck (z01 r7) (some (r7, S7)))) : match hdN T p with
    | (q, none) => ∃ S', bd (mm_takesWord (mR S 15 cI (nI 2)) 464036 4) k = some (0, S') ∧ PX T q S' ∧ FRg cI g R S S'
    | (q, some sd) => ∃ S', bd (mm_takesWord (mR S 15 cI (nI 2)) 464036 4) k = some (1, S') ∧ PX T q S' ∧ FRg cI g R S S' ∧ S'.2.1 15 cI = nI sd.1 ∧ (sd.1 = 2 → S'.2.1 16 cI = nI sd.2) ∧ S'.1 20 = S.1 20 := by
  have h1 : PX T p (mR S 15 cI (nI 2)) := h.fr rfl (mR_n (by decide)) h.2.2
  have f1 : FRg cI g R S (mR S 15 cI (nI 2)) := FRg.m15 (by decide) (Nat.le_refl _)
  obtain ⟨S1, a1, a2, a3, a4, a5⟩ := m_word (c := cI) (g := g) (R := R) (w := 464036) (k := 4) (y := 4) hT (by decide) (by decide) h1 hp rfl
  have hL : lws 464036 4 = [110, 101, 101, 100, 32] := rfl
  rw [hL] at a1 a2
  have a1' : mm_takesWord (mR S 15 cI (nI 2)) 464036 4 = _ := a1
  rw [a1', bd_s]
  unfold hdN
  cases e : rdW T [110, 101, 101, 100, 32] p with
  | mk q b =>
    rw [e] at a2
    have hq := (rdW_le e hp).1
    cases b with
    | false => exact ⟨S1, hk S1, a2, f1.tr a3⟩
    | true =>
      have hne : ¬ nI (q, true).2.toNat = 0 := by show ¬ nI 1 = 0; decide
      rw [hk1]
      simp only
      rw [if_neg hne, m_nx hT a2 hq, bd_s, mm_in4 hT, bd_s]
      cases e2 : T[q]?.bind dgi with
      | none =>
        rw [show (if nI (Option.isSome (none : Option Nat)).toNat = 0 then (some (0, S1) : Option (Int32 × MS)) else _) = _ from if_pos rfl]
        exact ⟨S1, rfl, a2, f1.tr a3⟩
      | some d =>
        obtain ⟨y, -, k2, k3⟩ := bind_s e2
        have hv : nxI T q - 48 = nI d := (ix_s (by decide) ((nxI_dg hT).trans e2)).2
        rw [if_neg (show ¬ nI (Option.isSome (some d)).toNat = 0 by show ¬ nI 1 = 0; decide), m_nx hT a2 hq, bd_s, vin_n (by omega), decide_eq_true hc, ck_t, nI_clamp (by omega), hv, lt_t, mR_i, a2.2.2, q1, nI_add, lt_t]
        have h2 : PX T (q + 1) (mP (mR S1 16 cI (nI d)) 11 (nI (q + 1))) := a2.fr rfl rfl rfl
        have ht := m_tk hT h2 (by omega) (d := 32) (by decide)
        have ht' : mm_takes (mP (mR S1 16 cI (nI d)) 11 (nI (q + 1))) 32 = _ := ht
        have f2 : FRg cI g R S (mP (mR S1 16 cI (nI d)) 11 (nI (q + 1))) := f1.tr (a3.tr ((FRg.m15 (by decide) (Nat.le_refl _)).tr (FRg.mP (by decide))))
        rw [ht']
        by_cases e3 : T[q + 1]? = some 32
        · simp only [if_pos e3]
          refine ⟨_, rfl, h2.at, f2.tr (FRg.mP (by decide)), ?_, fun _ => ?_, ?_⟩
          · rw [mP_r, mP_r, mR_n (by decide), a4, mR_s, if_pos rfl]
          · rw [mP_r, mP_r, mR_s, if_pos rfl]
          · exact a5
        · simp only [if_neg e3]
          exact ⟨_, rfl, h2, f2⟩
theorem m_hd (hT : tOK T) {p cI : Nat} (hc : cI < 60) (h : PX T p S) (hp : p ≤ T.length) : match rdH T p with
    | (q, none) => ∃ S', mm_takesHead S (nI cI) = some (0, S') ∧ PX T q S' ∧ FRg cI g R S S'
    | (q, some sd) => ∃ S', mm_takesHead S (nI cI) = some (1, S') ∧ PX T q S' ∧ FRg cI g R S S' ∧ S'.2.1 15 cI = nI sd.1 ∧ (sd.1 = 2 → S'.2.1 16 cI = nI sd.2) ∧ S'.1 20 = S.1 20 := by
  have ev : ∀ d, d < 128 → (nxI T p = nI d) = (T[p]? = some d) := fun d hd => nxI_eq hT hd
  have e105 : (nxI T p = (105 : Int32)) = _ := ev 105 (by decide)
  have e109 : (nxI T p = (109 : Int32)) = _ := ev 109 (by decide)
  have e111 : (nxI T p = (111 : Int32)) = _ := ev 111 (by decide)
  unfold mm_takesHead mm_takesHead_120 rdH
  rw [m_nx hT h hp, bd_s, vin_n (by omega), decide_eq_true hc, ck_t, ck_t, ck_t, ck_t, nI_clamp (by omega), lt_t, lt_t, lt_t, lt_t]
  by_cases c1 : T[p]? = some 105
  · rw [if_pos c1, if_pos (e105.mpr c1)]
    exact m_hdw (w := 302) (k := 2) hT rfl (by decide) (by decide) h hp (by decide) rfl rfl
  · rw [if_neg c1, if_neg (fun z => c1 (e105.mp z))]
    by_cases c2 : T[p]? = some 109
    · rw [if_pos c2, if_pos (e109.mpr c2)]
      exact m_hdw (w := 13369) (k := 3) hT rfl (by decide) (by decide) h hp (by decide) rfl rfl
    · rw [if_neg c2, if_neg (fun z => c2 (e109.mp z))]
      by_cases c3 : T[p]? = some 111
      · rw [if_pos c3, if_pos (e111.mpr c3)]
        exact m_hdw (w := 16052) (k := 3) hT rfl (by decide) (by decide) h hp (by decide) rfl rfl
      · rw [if_neg c3, if_neg (fun z => c3 (e111.mp z))]
        exact m_hdn hT hc h hp (fun _ => rfl) (by simp only [vin_n (show cI < 2 ^ 31 by omega), decide_eq_true hc, ck_t, nI_clamp (show cI < 2 ^ 31 by omega)])
end PMRV
