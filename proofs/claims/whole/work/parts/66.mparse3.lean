section PMRP
variable {S S' : MS} {T : List Nat} {c g R : Nat}
theorem stl_top {x : Nat} {st' : List Nat} : ∀ {st o : List Nat}, (stl 124 st o).1 = x :: st' → x ≠ 38 ∧ x ≠ 124
  | [], o, h => nomatch h
  | y :: st, o, h => by
    unfold stl at h
    by_cases q : y = 38 ∨ (y = 124 ∧ 124 ≠ 38)
    · rw [if_pos q] at h
      exact stl_top h
    · rw [if_neg q] at h
      have h1 : y = x := (List.cons.inj h).1
      omega
theorem m_mE (hT : tOK T) {f : Nat} (hg : g ≤ f) : ∀ (F p : Nat) (wn : Bool) (o st : List Nat) (S : MS) (fuel : Nat), RPp T p f o st S → f + o.length + st.length ≤ 900 + p → st.length ≤ p → p ≤ T.length → T.length < F + p → F ≤ fuel → match mEx T F p wn st o with
    | (q, none) => ∃ S', mm_takesE_12L fuel (nI wn.toNat) S = some (0, S') ∧ PX T q S' ∧ FRg c g R S S'
    | (q, some o') => ∃ S', mm_takesE_12L fuel (nI wn.toNat) S = some (1, S') ∧ PX T q S' ∧ PO f o' S' ∧ FRg c g R S S' := by
  have hT1 := hT.1
  intro F
  induction F with
  | zero => intro p wn o st S fuel h hb hs hp hF hf; omega
  | succ F ih =>
    intro p wn o st S fuel h hb hs hp hF hf
    obtain ⟨fu, rfl⟩ : ∃ fu, fuel = fu + 1 := ⟨fuel - 1, by omega⟩
    have ev : ∀ d, d < 128 → (nxI T p = nI d) = (T[p]? = some d) := fun d hd => nxI_eq hT hd
    have e33 : (nxI T p = (33 : Int32)) = _ := ev 33 (by decide)
    have e40 : (nxI T p = (40 : Int32)) = _ := ev 40 (by decide)
    have e38 : (nxI T p = (38 : Int32)) = _ := ev 38 (by decide)
    have e124 : (nxI T p = (124 : Int32)) = _ := ev 124 (by decide)
    have e41 : (nxI T p = (41 : Int32)) = _ := ev 41 (by decide)
    have hstep : ∀ {q : Nat} {wn2 : Bool} {o2 st2 : List Nat} {S2 : MS} {y : Int32 × MS}, mm_takesE_12 (mm_takesE_12L fu) (nI wn.toNat) S = mm_takesE_12L fu (nI wn2.toNat) S2 → RPp T q f o2 st2 S2 → FRg c g R S S2 → o2.length + st2.length + p ≤ o.length + st.length + q → st2.length ≤ q → p < q → q ≤ T.length → match mEx T F q wn2 st2 o2 with
        | (q, none) => ∃ S', mm_takesE_12L (fu + 1) (nI wn.toNat) S = some (0, S') ∧ PX T q S' ∧ FRg c g R S S'
        | (q, some o') => ∃ S', mm_takesE_12L (fu + 1) (nI wn.toNat) S = some (1, S') ∧ PX T q S' ∧ PO f o' S' ∧ FRg c g R S S' := by
      intro q wn2 o2 st2 S2 y e r fr b1 b2 b3 b4
      have := ih q wn2 o2 st2 S2 fu r (by omega) b2 b4 (by omega) (by omega)
      cases e2 : mEx T F q wn2 st2 o2 with
      | mk q3 z =>
        rw [e2] at this
        cases z with
        | none =>
          obtain ⟨S3, a1, a2, a3⟩ := this
          exact ⟨S3, e.trans a1, a2, fr.tr a3⟩
        | some o3 =>
          obtain ⟨S3, a1, a2, a3, a4⟩ := this
          exact ⟨S3, e.trans a1, a2, a3, fr.tr a4⟩
    cases wn with
    | true =>
      have e0 : mm_takesE_12 (mm_takesE_12L fu) (nI true.toNat) S = (if nxI T p = 33 then mm_takesE_33 (mm_takesE_12L fu) (nI 1) (nxI T p) S else if nxI T p = 40 then mm_takesE_33 (mm_takesE_12L fu) (nI 1) (nxI T p) S else bd (mm_takesTest S) fun r S1 => if r = 0 then some (0, S1) else lt_ 0 fun x1 => mm_takesE_12L fu x1 S1) := by
        unfold mm_takesE_12
        rw [m_nx hT h.1 hp, bd_s]
        rfl
      rw [mEx_t]
      by_cases c1 : T[p]? = some 33 ∨ T[p]? = some 40
      · rw [if_pos c1]
        obtain ⟨x, hx, hx2⟩ : ∃ x, (x = 33 ∨ x = 40) ∧ T[p]? = some x := by
          rcases c1 with z | z
          · exact ⟨33, Or.inl rfl, z⟩
          · exact ⟨40, Or.inr rfl, z⟩
        have hp1 := (List.getElem?_eq_some_iff.mp hx2).1
        have hnx : nxI T p = nI x := (ev x (by omega)) ▸ hx2
        have e1 : mm_takesE_12 (mm_takesE_12L fu) (nI true.toNat) S = mm_takesE_33 (mm_takesE_12L fu) (nI 1) (nI x) S := by
          rw [e0, hnx]
          rcases hx with rfl | rfl
          · rw [if_pos (show nI 33 = (33 : Int32) from rfl)]
          · rw [if_neg (by decide), if_pos (show nI 40 = (40 : Int32) from rfl)]
        by_cases c4 : opk st = 4
        · rw [if_pos c4]
          refine ⟨S, e1.trans ?_, h.1, FRg.rf⟩
          unfold mm_takesE_33
          rw [h.2.2.2.1, c4]
          rfl
        · rw [if_neg c4, getD_c hx2]
          obtain ⟨S1, a1, a2, a3⟩ := m_33 (c := c) (g := g) (R := R) (x1 := nI 1) (k12 := mm_takesE_12L fu) h hx (by omega) c4
          exact hstep (wn2 := true) (y := (0, S)) (e1.trans a1) a2 a3 (by simp; omega) (by simp; omega) (by omega) (by omega)
      · rw [if_neg c1]
        have e1 : mm_takesE_12 (mm_takesE_12L fu) (nI true.toNat) S = bd (mm_takesTest S) fun r S1 => if r = 0 then some (0, S1) else lt_ 0 fun x1 => mm_takesE_12L fu x1 S1 := by
          rw [e0, if_neg (e33 ▸ fun z => c1 (Or.inl z)), if_neg (e40 ▸ fun z => c1 (Or.inr z))]
        have ht := m_tT (c := c) (R := R) hT h hp hb (by omega) hg
        cases er : rdT T p with
        | mk q z =>
          rw [er] at ht
          cases z with
          | none =>
            obtain ⟨S1, a1, a2, a3⟩ := ht
            refine ⟨S1, e1.trans ?_, a2, a3⟩
            rw [a1, bd_s]
            rfl
          | some t =>
            obtain ⟨S1, a1, a2, a3⟩ := ht
            obtain ⟨b1, b2, -⟩ := rdT_s er
            have hl := whl_len (st := st) (o := o ++ [t])
            rw [List.length_append] at hl
            simp only [List.length_cons, List.length_nil] at hl
            have hl3 := whl_le (st := st) (o := o ++ [t])
            exact hstep (wn2 := false) (y := (0, S)) (e1.trans (by rw [a1, bd_s]; rfl)) a2 a3 (by omega) (by omega) (by omega) b2
    | false =>
      have e0 : mm_takesE_12 (mm_takesE_12L fu) (nI false.toNat) S = (if nxI T p = 38 then mm_takesE_112 (mm_takesE_12L fu) (nxI T p) S else if nxI T p = 124 then mm_takesE_112 (mm_takesE_12L fu) (nxI T p) S else bd (mm_settle S 124) fun _ S1 => if S1.1 22 = 0 then some (1, S1) else if nxI T p = 41 then lt_ (mP S1 22 (S1.1 22 - 1)) fun S2 => lt_ (mP S2 23 (S2.1 23 - 1)) fun S3 => lt_ (mP S3 11 (S3.1 11 + 1)) fun S4 => bd (mm_whole S4) fun _ S5 => mm_takesE_12L fu (nI 0) S5 else some (0, S1)) := by
        unfold mm_takesE_12
        rw [m_nx hT h.1 hp, bd_s]
        rfl
      rw [mEx_f]
      by_cases c1 : T[p]? = some 38 ∨ T[p]? = some 124
      · rw [if_pos c1]
        obtain ⟨x, hx, hx2⟩ : ∃ x, (x = 38 ∨ x = 124) ∧ T[p]? = some x := by
          rcases c1 with z | z
          · exact ⟨38, Or.inl rfl, z⟩
          · exact ⟨124, Or.inr rfl, z⟩
        have hp1 := (List.getElem?_eq_some_iff.mp hx2).1
        have hnx : nxI T p = nI x := (ev x (by omega)) ▸ hx2
        have e1 : mm_takesE_12 (mm_takesE_12L fu) (nI false.toNat) S = mm_takesE_112 (mm_takesE_12L fu) (nI x) S := by
          rw [e0, hnx]
          rcases hx with rfl | rfl
          · rw [if_pos (show nI 38 = (38 : Int32) from rfl)]
          · rw [if_neg (by decide), if_pos (show nI 124 = (124 : Int32) from rfl)]
        rw [getD_c hx2]
        obtain ⟨S1, a1, a2, a3⟩ := m_112 (c := c) (R := R) (k12 := mm_takesE_12L fu) h hx (by omega) (by omega) hg
        have hl := stl_len (s := x) (st := st) (o := o)
        have hl2 := stl_le (s := x) (st := st) (o := o)
        exact hstep (wn2 := true) (y := (0, S)) (e1.trans a1) a2 a3 (by simp; omega) (by simp; omega) (by omega) (by omega)
      · rw [if_neg c1]
        obtain ⟨S1, s1, h1, f1⟩ := m_stl (c := c) (R := R) (s := 124) (Or.inr rfl) hg st o S 4000 h (by omega) (by omega) (by omega)
        have s1' : mm_settle S 124 = some (0, S1) := s1
        have e1 : mm_takesE_12 (mm_takesE_12L fu) (nI false.toNat) S = (if S1.1 22 = 0 then some (1, S1) else if nxI T p = 41 then lt_ (mP S1 22 (S1.1 22 - 1)) fun S2 => lt_ (mP S2 23 (S2.1 23 - 1)) fun S3 => lt_ (mP S3 11 (S3.1 11 + 1)) fun S4 => bd (mm_whole S4) fun _ S5 => mm_takesE_12L fu (nI 0) S5 else some (0, S1)) := by
          rw [e0, if_neg (e38 ▸ fun z => c1 (Or.inl z)), if_neg (e124 ▸ fun z => c1 (Or.inr z)), s1', bd_s]
        have hl := stl_len (s := 124) (st := st) (o := o)
        cases es : (stl 124 st o).1 with
        | nil =>
          rw [es] at h1
          refine ⟨S1, e1.trans ?_, h1.1, h1.2.1, f1⟩
          rw [h1.2.2.1]
          rfl
        | cons x st' =>
          rw [es] at h1 hl
          rw [List.length_cons] at hl
          have j22 : S1.1 22 = nI (st'.length + 1) := h1.2.2.1
          have n22 : ¬ S1.1 22 = 0 := by rw [j22, q0, ne_n (by omega) (by decide)]; omega
          show match (if T[p]? = some 41 then mEx T F (p + 1) false (whl st' (stl 124 st o).2).1 (whl st' (stl 124 st o).2).2 else (p, none) : RS) with
            | (q, none) => _
            | (q, some o') => _
          by_cases c2 : T[p]? = some 41
          · have hp1 := (List.getElem?_eq_some_iff.mp c2).1
            rw [if_pos c2]
            have hx : opk (x :: st') = opk st' + 1 := by
              have htop := stl_top es
              rcases h1.2.2.2.2.2.1 with rfl | rfl | rfl | rfl
              · exact opk_33
              · exact absurd rfl htop.1
              · exact opk_40
              · exact absurd rfl htop.2
            have j23 : S1.1 23 = nI (opk st' + 1) := by rw [h1.2.2.2.1, hx]
            have h2 : RPp T (p + 1) f (stl 124 st o).2 st' (mP (mP (mP S1 22 (nI st'.length)) 23 (nI (opk st'))) 11 (nI (p + 1))) := ⟨h1.1.fr rfl rfl rfl, h1.2.1.fr rfl rfl, rfl, rfl, SKx.fr (S := S1) (S' := mP (mP (mP S1 22 (nI st'.length)) 23 (nI (opk st'))) 11 (nI (p + 1))) rfl h1.2.2.2.2.2.2⟩
            have hl4 := stl_le (s := 124) (st := st) (o := o)
            rw [es, List.length_cons] at hl4
            obtain ⟨S2, s2, h3, f3⟩ := m_whl (c := c) (R := R) hg st' (stl 124 st o).2 _ 4000 h2 (by omega) (by omega) (by omega)
            have s2' : mm_whole (mP (mP (mP S1 22 (nI st'.length)) 23 (nI (opk st'))) 11 (nI (p + 1))) = some (0, S2) := s2
            have hl2 := whl_len (st := st') (o := (stl 124 st o).2)
            have ho := opk_le (st := st')
            have hl3 := whl_le (st := st') (o := (stl 124 st o).2)
            refine hstep (wn2 := false) (y := (0, S)) (e1.trans ?_) h3 (f1.tr (((FRg.mP (by decide)).tr ((FRg.mP (by decide)).tr (FRg.mP (by decide)))).tr f3)) (by omega) (by omega) (by omega) (by omega)
            rw [if_neg n22, if_pos (e41 ▸ c2), j22, q1, nIs (by omega), lt_t, mP_n (by decide), j23, nIs (by omega), lt_t, mP_n (by decide), mP_n (by decide), h1.1.2.2, nI_add, lt_t, s2', bd_s]
            rfl
          · rw [if_neg c2]
            refine ⟨S1, e1.trans ?_, h1.1, f1⟩
            rw [if_neg n22, if_neg (e41 ▸ c2)]
end PMRP
