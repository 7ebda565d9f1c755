section PMRX
variable {A : AA} {S S' : MS} {T : List Nat} {c g R : Nat}
def MCu (S : MS) (r k : Nat) (cl : Nat × Nat × List Nat) (g : Nat) : Prop := S.2.1 15 (6 * r + k) = nI cl.1 ∧ (cl.1 = 2 → S.2.1 16 (6 * r + k) = nI cl.2.1) ∧ ∃ f, S.2.1 17 (6 * r + k) = nI f ∧ S.2.1 18 (6 * r + k) = nI (f + cl.2.2.length) ∧ 100 * r ≤ f ∧ f + cl.2.2.length ≤ g ∧ ∀ i t, cl.2.2[i]? = some t → S.2.1 19 (f + i) = nI (eM t)
theorem MCu.fr {k n g' : Nat} {cl : Nat × Nat × List Nat} (f : FRg (6 * R + n) g R S S') (hk : k < n) (hg : g ≤ g') (h : MCu S R k cl g) : MCu S' R k cl g' := by
  obtain ⟨h1, h2, f0, h3, h4, h5, h6, h7⟩ := h
  have e : ∀ j, j ∈ [15, 16, 17, 18] → S'.2.1 j (6 * R + k) = S.2.1 j (6 * R + k) := fun j hj => f.2.2.2.1 j hj _ (by omega)
  refine ⟨by rw [e 15 (by decide)]; exact h1, fun z => by rw [e 16 (by decide)]; exact h2 z, f0, by rw [e 17 (by decide)]; exact h3, by rw [e 18 (by decide)]; exact h4, h5, by omega, fun i t z => ?_⟩
  have := (List.getElem?_eq_some_iff.mp z).1
  rw [f.2.2.2.2.1 _ (by omega)]
  exact h7 i t z
theorem m_gl (hT : tOK T) (hR : R ≤ 9) : ∀ (m n p : Nat) (acc : List (Nat × Nat × List Nat)) (f fuel : Nat) (S : MS), n + m = 6 → acc.length = n → PX T p S → p ≤ T.length → S.1 20 = nI f → 100 * R ≤ f → f ≤ 100 * R + p → (∀ k cl, acc[k]? = some cl → MCu S R k cl f) → m < fuel → 0 < m → match rdR T m p acc with
    | (q, none) => ∃ S', mm_goes_15L fuel (nI R) (nI n) S = some (0, S') ∧ PX T q S' ∧ FRg (6 * R) (100 * R) R S S'
    | (q, some cs) => ∃ S', mm_goes_15L fuel (nI R) (nI n) S = some (1, S') ∧ PX T q S' ∧ FRg (6 * R) (100 * R) R S S' ∧ S'.2.1 14 R = nI cs.length ∧ ∀ k cl, cs[k]? = some cl → MCu S' R k cl (100 * R + 100) := by
  have hT1 := hT.1
  intro m
  induction m with
  | zero =>
    intro n p acc f fuel S hn ha h hp h20 hf1 hf2 hac hfu hm
    exact absurd hm (Nat.lt_irrefl 0)
  | succ m ih =>
    intro n p acc f fuel S hn ha h hp h20 hf1 hf2 hac hfu hm
    obtain ⟨fu, rfl⟩ : ∃ fu, fuel = fu + 1 := ⟨fuel - 1, by omega⟩
    have hc : 6 * R + n < 60 := by omega
    have hhd := m_hd (g := f) (R := R) hT hc h hp
    have hx3 : (6 : Int32) * nI R + nI n = nI (6 * R + n) := by rw [q6, pk_mul, nI_add]
    unfold rdR rdK
    cases eh : rdH T p with
    | mk q1 x =>
      rw [eh] at hhd
      cases x with
      | none =>
        obtain ⟨S1, a1, a2, a3⟩ := hhd
        refine ⟨S1, ?_, a2, a3.wk (by omega) hf1⟩
        show mm_goes_15 _ _ _ _ = _
        unfold mm_goes_15
        rw [hx3, lt_t, a1, bd_s]
        rfl
      | some sd =>
        obtain ⟨s, d⟩ := sd
        obtain ⟨S1, a1, a2, a3, a4, a5, a6⟩ := hhd
        obtain ⟨b1, b2, b3, b4⟩ := rdH_s eh hp
        have i20 : S1.1 20 = nI f := a6.trans h20
        have f3 : FRg (6 * R + n) f R S1 (mP (mP (mR S1 17 (6 * R + n) (nI f)) 22 0) 23 0) := (FRg.m15 (by decide) (Nat.le_refl _)).tr ((FRg.mP (by decide)).tr (FRg.mP (by decide)))
        have r3 : RPp T q1 f [] [] (mP (mP (mR S1 17 (6 * R + n) (nI f)) 22 0) 23 0) := ⟨a2.fr rfl rfl a2.2.2, ⟨i20, fun i t z => by simp at z⟩, rfl, rfl, trivial⟩
        have hE := m_mE (c := 6 * R + n + 1) (g := f) (R := R) hT (Nat.le_refl f) 101 q1 true [] [] _ 4000 r3 (by simp; omega) (by simp) b2 (by omega) (by decide)
        rw [rdE_m hT1 (by omega) b2] at hE
        have e1 : mm_goes_15 (mm_goes_15L fu) (nI R) (nI n) S = bd (mm_takesE_12L 4000 (nI true.toNat) (mP (mP (mR S1 17 (6 * R + n) (nI f)) 22 0) 23 0)) fun r S2 => if r = 0 then some (0, S2) else (lt_ (mR S2 18 (6 * R + n) (S2.1 20)) fun S3 => lt_ (nI (n + 1)) fun x2 => (lt_ (mR S3 14 R x2) fun S4 => if S4.1 11 = S4.1 10 then some (1, S4) else if x2 = 6 then some (0, S4) else bd (mm_takes S4 59) fun r S5 => if r = 0 then some (0, S5) else mm_goes_15L fu (nI R) x2 S5)) := by
          unfold mm_goes_15 mm_goes_99 mm_takesE
          rw [hx3, lt_t, a1, bd_s, if_neg (show ¬ (1 : Int32) = 0 by decide), vin_n (by omega), decide_eq_true hc, vin_n (by omega), decide_eq_true (show R < 10 by omega), ck_t, i20, nI_clamp (by omega), nI_clamp (by omega), lt_t, lt_t, lt_t, lt_t, show (1 : Int32) = nI 1 from rfl, nI_add]
          rfl
        simp only
        cases ec : rdC T (rdO T 4) q1 [] with
        | mk q2 y =>
          rw [ec] at hE
          cases y with
          | none =>
            obtain ⟨S2, c1, c2, c3⟩ := hE
            refine ⟨S2, ?_, c2, (a3.tr (f3.tr (c3.wk (by omega) (Nat.le_refl _)))).wk (by omega) hf1⟩
            show mm_goes_15 _ _ _ _ = _
            rw [e1, c1, bd_s]
            rfl
          | some o =>
            obtain ⟨S2, c1, c2, c3, c4⟩ := hE
            obtain ⟨d1, d2, d3, d4, -⟩ := rdC_g (rdO_g 4) ec
            have d3' : o.length + q1 ≤ 0 + q2 := d3
            have f5 : FRg (6 * R + n) f R S2 (mR (mR S2 18 (6 * R + n) (nI (f + o.length))) 14 R (nI (n + 1))) := (FRg.m15 (by decide) (Nat.le_refl _)).tr (FRg.m14 (Nat.le_refl _))
            have fall : FRg (6 * R + n) f R S (mR (mR S2 18 (6 * R + n) (nI (f + o.length))) 14 R (nI (n + 1))) := a3.tr (f3.tr ((c4.wk (by omega) (Nat.le_refl _)).tr f5))
            have h5 : PX T q2 (mR (mR S2 18 (6 * R + n) (nI (f + o.length))) 14 R (nI (n + 1))) := c2.fr rfl (by rw [mR_n (by decide), mR_n (by decide)]) c2.2.2
            have hnew : MCu (mR (mR S2 18 (6 * R + n) (nI (f + o.length))) 14 R (nI (n + 1))) R n (s, d, o) (f + o.length) := by
              refine ⟨?_, fun z => ?_, f, ?_, ?_, hf1, Nat.le_refl _, fun i t z => ?_⟩
              · rw [mR_n (by decide), mR_n (by decide), c4.2.2.2.1 15 (by decide) _ (by omega)]
                show (mR S1 17 (6 * R + n) (nI f)).2.1 15 _ = _
                rw [mR_n (by decide)]
                exact a4
              · rw [mR_n (by decide), mR_n (by decide), c4.2.2.2.1 16 (by decide) _ (by omega)]
                show (mR S1 17 (6 * R + n) (nI f)).2.1 16 _ = _
                rw [mR_n (by decide)]
                exact a5 z
              · rw [mR_n (by decide), mR_n (by decide), c4.2.2.2.1 17 (by decide) _ (by omega)]
                show (mR S1 17 (6 * R + n) (nI f)).2.1 17 _ = _
                rw [mR_s, if_pos rfl]
              · rw [mR_n (by decide), mR_s, if_pos rfl]
              · rw [mR_n (by decide), mR_n (by decide)]
                exact c3.2 i t z
            have hacc : ∀ k cl, (acc ++ [(s, d, o)])[k]? = some cl → MCu (mR (mR S2 18 (6 * R + n) (nI (f + o.length))) 14 R (nI (n + 1))) R k cl (f + o.length) := by
              intro k cl hk
              by_cases z : k < n
              · rw [List.getElem?_append_left (by omega)] at hk
                exact (hac k cl hk).fr fall z (by omega)
              · have hkl := (List.getElem?_eq_some_iff.mp hk).1
                rw [List.length_append] at hkl
                simp at hkl
                obtain rfl : k = n := by omega
                rw [← ha, List.getElem?_append_right (Nat.le_refl _), Nat.sub_self] at hk
                obtain rfl : (s, d, o) = cl := Option.some.inj hk
                exact hnew
            have e2 : mm_goes_15 (mm_goes_15L fu) (nI R) (nI n) S = (if (mR (mR S2 18 (6 * R + n) (nI (f + o.length))) 14 R (nI (n + 1))).1 11 = (mR (mR S2 18 (6 * R + n) (nI (f + o.length))) 14 R (nI (n + 1))).1 10 then some (1, mR (mR S2 18 (6 * R + n) (nI (f + o.length))) 14 R (nI (n + 1))) else if nI (n + 1) = 6 then some (0, mR (mR S2 18 (6 * R + n) (nI (f + o.length))) 14 R (nI (n + 1))) else bd (mm_takes (mR (mR S2 18 (6 * R + n) (nI (f + o.length))) 14 R (nI (n + 1))) 59) fun r S5 => if r = 0 then some (0, S5) else mm_goes_15L fu (nI R) (nI (n + 1)) S5) := by
              rw [e1, c1, bd_s, if_neg (show ¬ (1 : Int32) = 0 by decide), c3.1, lt_t, lt_t, lt_t]
            have hend : (mR (mR S2 18 (6 * R + n) (nI (f + o.length))) 14 R (nI (n + 1))).1 11 = (mR (mR S2 18 (6 * R + n) (nI (f + o.length))) 14 R (nI (n + 1))).1 10 ↔ q2 = T.length := by
              rw [h5.1, h5.2.2]
              exact nI_eq (by omega) (by omega)
            have hn6 : nI (n + 1) = 6 ↔ m = 0 := by
              rw [q6, ne_n (by omega) (by decide)]
              omega
            simp only
            by_cases z1 : q2 = T.length
            · rw [if_pos z1]
              refine ⟨_, e2.trans (if_pos (hend.mpr z1)), h5, fall.wk (by omega) hf1, ?_, fun k cl hk => ?_⟩
              · rw [mR_s, if_pos rfl, List.length_append, ha]
                rfl
              · obtain ⟨k1, k2, f', k3, k4, k5, k6, k7⟩ := hacc k cl hk
                exact ⟨k1, k2, f', k3, k4, k5, by omega, k7⟩
            · rw [if_neg z1]
              rw [if_neg (fun z => z1 (hend.mp z))] at e2
              by_cases z2 : m = 0
              · rw [if_pos z2]
                exact ⟨_, e2.trans (if_pos (hn6.mpr z2)), h5, fall.wk (by omega) hf1⟩
              · rw [if_neg z2]
                rw [if_neg (fun z => z2 (hn6.mp z))] at e2
                have ht := m_tk hT h5 d2 (d := 59) (by decide)
                have ht' : mm_takes (mR (mR S2 18 (6 * R + n) (nI (f + o.length))) 14 R (nI (n + 1))) 59 = _ := ht
                rw [ht'] at e2
                by_cases z3 : T[q2]? = some 59
                · have hp1 := (List.getElem?_eq_some_iff.mp z3).1
                  rw [if_pos z3] at e2 ⊢
                  rw [bd_s, if_neg (show ¬ (1 : Int32) = 0 by decide)] at e2
                  have := ih (n + 1) (q2 + 1) (acc ++ [(s, d, o)]) (f + o.length) fu (mP (mR (mR S2 18 (6 * R + n) (nI (f + o.length))) 14 R (nI (n + 1))) 11 (nI (q2 + 1))) (by omega) (by simp; omega) h5.at (by omega) (by rw [mP_n (by decide)]; exact c3.1) (by omega) (by omega) (fun k cl hk => by
                    obtain ⟨k1, k2, f', k3, k4, k5, k6, k7⟩ := hacc k cl hk
                    exact ⟨k1, k2, f', k3, k4, k5, k6, k7⟩) (by omega) (by omega)
                  have ff : FRg (6 * R) (100 * R) R S (mP (mR (mR S2 18 (6 * R + n) (nI (f + o.length))) 14 R (nI (n + 1))) 11 (nI (q2 + 1))) := (fall.wk (by omega) hf1).tr (FRg.mP (by decide))
                  cases er : rdR T m (q2 + 1) (acc ++ [(s, d, o)]) with
                  | mk q4 u =>
                    rw [er] at this
                    cases u with
                    | none =>
                      obtain ⟨S7, j1, j2, j3⟩ := this
                      exact ⟨S7, e2.trans j1, j2, ff.tr j3⟩
                    | some cs =>
                      obtain ⟨S7, j1, j2, j3, j4, j5⟩ := this
                      exact ⟨S7, e2.trans j1, j2, ff.tr j3, j4, j5⟩
                · rw [if_neg z3] at e2 ⊢
                  exact ⟨_, e2, h5, fall.wk (by omega) hf1⟩
theorem MRl.frg (h : WF A) (k : MRl A S) (f : FRg (6 * aR A) (100 * aR A) (aR A) S S') : MRl A S' := by
  refine ⟨(f.1 9 (by decide)).trans k.1, fun r hr => ?_⟩
  obtain ⟨k1, k2, k3⟩ := k.2 r hr
  refine ⟨by rw [f.2.1 13 (by decide)]; exact k1, by rw [f.2.2.2.2.2 r hr]; exact k2, fun j cl hj => ?_⟩
  have hjl := (List.getElem?_eq_some_iff.mp hj).1
  have h6 := wfCl h hr
  obtain ⟨a1, a2, f0, a3, a4, a5, a6, a7⟩ := k3 j cl hj
  have e : ∀ i, i ∈ [15, 16, 17, 18] → S'.2.1 i (6 * r + j) = S.2.1 i (6 * r + j) := fun i hi => f.2.2.2.1 i hi _ (by omega)
  refine ⟨by rw [e 15 (by decide)]; exact a1, fun z => by rw [e 16 (by decide)]; exact a2 z, f0, by rw [e 17 (by decide)]; exact a3, by rw [e 18 (by decide)]; exact a4, a5, a6, fun i t z => ?_⟩
  have := (List.getElem?_eq_some_iff.mp z).1
  rw [f.2.2.2.2.1 _ (by omega)]
  exact a7 i t z
def sRule (A : AA) (a : Int32) : Int32 × AA := match ix 2 a with
  | none => (-1, A)
  | some l => if aR A = 10 then (-4, A) else (match rdR (aTx A) 6 0 [] with
    | (q, none) => (-10 - nI q, uT A [])
    | (_, some cs) => (nI (aR A), uT (uR A (aR A + 1, va_up (aL A) (aR A) l, va_up (aC A) (aR A) cs)) []))
theorem mu_rule (h : WF A) (g : MM A S) (a : Int32) : ∃ S', mm_rule S a = some ((sRule A a).1, S') ∧ MM (sRule A a).2 S' ∧ WF (sRule A a).2 := by
  have hR := wfR h
  obtain ⟨w1, w2, w3, w4, w5, w6, w7, w8⟩ := h
  have h : WF A := ⟨w1, w2, w3, w4, w5, w6, w7, w8⟩
  obtain ⟨g1, g2, g3, g4, g5, g6, g7, g8, g9, g10⟩ := g
  have g : MM A S := ⟨g1, g2, g3, g4, g5, g6, g7, g8, g9, g10⟩
  unfold mm_rule sRule
  simp only [m_isL, bd_s, b2_z]
  cases h2 : ix 2 a with
  | none => exact ⟨S, rfl, g, h⟩
  | some l =>
  obtain ⟨hl, rfl⟩ := ix_s (by decide) h2
  simp only [Option.isSome_some, reduceCtorEq, if_false]
  have e10 : S.1 9 = 10 ↔ aR A = 10 := by rw [g2.1, q10, ne_n (by omega) (by decide)]
  by_cases c1 : aR A = 10
  · rw [if_pos c1, if_pos (e10.mpr c1)]
    exact ⟨S, rfl, g, h⟩
  · rw [if_neg c1, if_neg (fun z => c1 (e10.mp z))]
    have hT : tOK (aTx A) := ⟨w6, w7⟩
    have hpx : PX (aTx A) 0 (mP (mP S 11 0) 20 (nI (100 * aR A))) := ⟨g6, fun i c z => g7 i c z, rfl⟩
    have hgl := m_gl (R := aR A) hT (by omega) 6 0 0 [] (100 * aR A) 4000 _ rfl rfl hpx (Nat.zero_le _) rfl (Nat.le_refl _) (Nat.le_refl _) (fun k cl z => by simp at z) (by decide) (by decide)
    have eg : mm_goes S (S.1 9) = mm_goes_15L 4000 (nI (aR A)) (nI 0) (mP (mP S 11 0) 20 (nI (100 * aR A))) := by
      unfold mm_goes
      rw [g2.1, q100, pk_mul]
      rfl
    rw [eg]
    have f0 : FRg (6 * aR A) (100 * aR A) (aR A) S (mP (mP S 11 0) 20 (nI (100 * aR A))) := (FRg.mP (by decide)).tr (FRg.mP (by decide))
    have hwf : WF (uT A []) := ⟨w1, w2, w3, w4, w5, Nat.zero_le _, fun _ z => (nomatch z), w8⟩
    have hbase : ∀ S1, FRg (6 * aR A) (100 * aR A) (aR A) S S1 → MM (uT A []) (mP S1 10 0) := by
      intro S1 f
      refine ⟨MW.fr (A := A) (S := S) g1 rfl (f.1 0 (by decide)) (fun k hk => f.2.1 k (by simp at hk; rcases hk with rfl | rfl | rfl | rfl | rfl <;> decide)), ?_, fun p hp => by rw [mP_r, f.2.1 3 (by decide)]; exact g3 p hp, (f.1 1 (by decide)).trans g4, (f.1 2 (by decide)).trans g5, rfl, fun i c z => (nomatch z), (f.1 34 (by decide)).trans g8, fun i h1 h2 => by rw [mP_r, f.2.1 35 (by decide)]; exact g9 i h1 h2, MT.fr (A := A) (S := S) g10 rfl (fun k hk => f.2.1 k (by simp at hk; rcases hk with rfl | rfl <;> decide)) (by rw [mP_r, f.2.2.1])⟩
      exact MRl.fr (A := A) (S := S1) (MRl.frg h g2 f) rfl rfl (fun k _ => rfl)
    cases er : rdR (aTx A) 6 0 [] with
    | mk q u =>
      rw [er] at hgl
      cases u with
      | none =>
        obtain ⟨S1, a1, a2, a3⟩ := hgl
        refine ⟨mP S1 10 0, ?_, hbase S1 (f0.tr a3), hwf⟩
        rw [a1, bd_s, lt_t, if_pos rfl, mP_n (by decide), a2.2.2]
      | some cs =>
        obtain ⟨S1, a1, a2, a3, a4, a5⟩ := hgl
        obtain ⟨b1, b2, b3⟩ := rdR_s hT.1 er (Nat.zero_le _) (fun _ z => nomatch z)
        have hm := hbase S1 (f0.tr a3)
        have j9 : S1.1 9 = nI (aR A) := ((f0.tr a3).1 9 (by decide)).trans g2.1
        have hR9 : aR A < 10 := by omega
        refine ⟨mP (mR (mP S1 10 0) 13 (aR A) (nI l)) 9 (nI (aR A + 1)), ?_, ?_, ?_⟩
        · rw [a1, bd_s, lt_t, if_neg (show ¬ (1 : Int32) = 0 by decide), mP_n (by decide), j9, vin_n (by omega), decide_eq_true hR9, ck_t, nI_clamp (by omega), lt_t, mR_i, mP_n (by decide), j9, q1, nI_add, lt_t, mP_s, nIs (by omega)]
        · obtain ⟨m1, m2, m3, m4, m5, m6, m7, m8, m9, m10⟩ := hm
          refine ⟨m1.fr rfl rfl (fun k hk => by rw [mP_r]; exact mR_n (by simp at hk; omega)), ⟨rfl, fun r hr => ?_⟩, fun p hp => by rw [mP_r, mR_n (by decide)]; exact m3 p hp, m4, m5, rfl, fun i c z => (nomatch z), m8, fun i h1 h2 => by rw [mP_r, mR_n (by decide)]; exact m9 i h1 h2, m10.fr rfl (fun k hk => by rw [mP_r]; exact mR_n (by simp at hk; omega)) rfl⟩
          have hr2 : r < aR A + 1 := hr
          by_cases z : r = aR A
          · subst z
            refine ⟨?_, ?_, fun k cl hk => ?_⟩
            · rw [mP_r, mR_s, if_pos rfl]
              show _ = nI (va_up (aL A) (aR A) l (aR A))
              rw [va_up_self]
            · rw [mP_r, mR_n (by decide)]
              show S1.2.1 14 (aR A) = nI (va_up (aC A) (aR A) cs (aR A)).length
              rw [va_up_self]
              exact a4
            · have hk' : (va_up (aC A) (aR A) cs (aR A))[k]? = some cl := hk
              rw [va_up_self] at hk'
              obtain ⟨n1, n2, f1, n3, n4, n5, n6, n7⟩ := a5 k cl hk'
              exact ⟨by rw [mP_r, mR_n (by decide)]; exact n1, fun y => by rw [mP_r, mR_n (by decide)]; exact n2 y, f1, by rw [mP_r, mR_n (by decide)]; exact n3, by rw [mP_r, mR_n (by decide)]; exact n4, n5, n6, fun i t y => by rw [mP_r, mR_n (by decide)]; exact n7 i t y⟩
          · have hr3 : r < aR A := by omega
            obtain ⟨n1, n2, n3⟩ := m2.2 r hr3
            refine ⟨?_, ?_, fun k cl hk => ?_⟩
            · rw [mP_r, mR_s, if_neg z]
              show _ = nI (va_up (aL A) (aR A) l r)
              rw [va_up_ne _ _ z]
              exact n1
            · rw [mP_r, mR_n (by decide)]
              show _ = nI (va_up (aC A) (aR A) cs r).length
              rw [va_up_ne _ _ z]
              exact n2
            · have hk' : (va_up (aC A) (aR A) cs r)[k]? = some cl := hk
              rw [va_up_ne _ _ z] at hk'
              obtain ⟨o1, o2, f1, o3, o4, o5, o6, o7⟩ := n3 k cl hk'
              exact ⟨by rw [mP_r, mR_n (by decide)]; exact o1, fun y => by rw [mP_r, mR_n (by decide)]; exact o2 y, f1, by rw [mP_r, mR_n (by decide)]; exact o3, by rw [mP_r, mR_n (by decide)]; exact o4, o5, o6, fun i t y => by rw [mP_r, mR_n (by decide)]; exact o7 i t y⟩
        · refine ⟨w1, ⟨by show aR A + 1 ≤ 10; omega, fun r hr => ?_⟩, w3, w4, ?_, Nat.zero_le _, fun _ z => (nomatch z), w8⟩
          · have hr2 : r < aR A + 1 := hr
            show va_up (aL A) (aR A) l r < 2 ∧ 1 ≤ (va_up (aC A) (aR A) cs r).length ∧ (va_up (aC A) (aR A) cs r).length ≤ 6 ∧ ∀ c ∈ va_up (aC A) (aR A) cs r, clO c
            by_cases z : r = aR A
            · subst z
              rw [va_up_self, va_up_self]
              exact ⟨hl, by simpa using b2, by simpa using b3, b1⟩
            · rw [va_up_ne _ _ z, va_up_ne _ _ z]
              exact w2.2 r (by omega)
          · exact Nat.lt_of_lt_of_le w5 (Nat.pow_le_pow_right (by decide) (Nat.le_succ _))
end PMRX
