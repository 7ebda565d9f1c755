section PMH2
variable {A : AA} {v : VV} {S : MS}
def PL (S : MS) : List Bool → Prop
  | [] => True
  | b :: st => S.2.1 28 st.length = nI b.toNat ∧ PL S st
theorem PL_up {S : MS} {j : Nat} {x : Int32} : ∀ {st : List Bool}, PL S st → st.length ≤ j → PL (mR S 28 j x) st
  | [], _, _ => trivial
  | b :: st, h, hj => ⟨by rw [mR_s, if_neg (by simp at hj; omega)]; exact h.1, PL_up h.2 (by simp at hj; omega)⟩
theorem nar_b (b : Bool) : vp_nar .boolean (nI b.toNat) = nI b.toNat := by cases b <;> rfl
theorem nar_0 : vp_nar .boolean (nI 0) = nI 0 := rfl
theorem nar_1 : vp_nar .boolean (nI 1) = nI 1 := rfl
theorem m_hl {w e c : Nat} (hw : w < aN A) (he : e < 4) (hc : c < 60) : ∀ (ts : List Nat) (st : List Bool) (S : MS) (f fuel : Nat), MV A v S → PL S st → hok ts st.length = true → st.length ≤ 20 → ts.length < fuel → S.2.1 18 c = nI (f + ts.length) → (∀ i t, ts[i]? = some t → S.2.1 19 (f + i) = nI (eM t)) → f + ts.length ≤ 1000 →
    ∃ S', mm_holds_11L fuel (nI c) (nI w) (nI e) (nI st.length) (nI f) S = some (nI ((evl A v w e ts st).headD false).toNat, S') ∧ Fm [] ev1 S S' := by
  intro ts
  induction ts with
  | nil =>
    intro st S f fuel h hp hk hl hf h18 h19 hb
    obtain ⟨fu, rfl⟩ : ∃ fu, fuel = fu + 1 := ⟨fuel - 1, by simp at hf; omega⟩
    have hn : st.length = 1 := of_decide_eq_true hk
    match st, hn, hp with
    | [b], _, hp =>
      have h0 : S.2.1 28 0 = nI b.toNat := hp.1
      refine ⟨S, ?_, Fm.rf⟩
      show mm_holds_11 _ _ _ _ _ _ _ = _
      unfold mm_holds_11
      have h18' : S.2.1 18 c = nI f := h18
      have hb' : f ≤ 1000 := hb
      simp (discharger := omega) only [h18', q0, q1, q2, q3, q4, q5, q6, q7, q8, q9, q10, q11, q14, q20, q32, q33, q38, q40, q41, q48, q57, q59, q60, q61, q62, q98, q99, q100, q101, q104, q107, q115, q117, q124, q1000, q1023, q1024, bd_s, ck_t, lt_t, nI_add, pk_mul, nI_clamp, ne_n, lt_n, le_n, vin_n, decide_true, decide_false, if_true, if_false, List.length_nil, Nat.add_zero, Nat.le_refl, hc, h0, z01_b, show (0 : Nat) < 100 by decide]
      rfl
  | cons t ts ih =>
    intro st S f fuel h hp hk hl hf h18 h19 hb
    obtain ⟨fu, rfl⟩ : ∃ fu, fuel = fu + 1 := ⟨fuel - 1, by simp at hf; omega⟩
    have ht := h19 0 t rfl
    have hlen : (t :: ts).length = ts.length + 1 := rfl
    rw [hlen] at hf h18 hb
    have hstep : ∀ (st' : List Bool) (j : Nat) (x : Int32), PL (mR S 28 j x) st' → hok ts st'.length = true → st'.length ≤ 20 → ∃ S', mm_holds_11L fu (nI c) (nI w) (nI e) (nI st'.length) (nI (f + 1)) (mR S 28 j x) = some (nI ((evl A v w e ts st').headD false).toNat, S') ∧ Fm [] ev1 S S' := by
      intro st' j x p1 p2 p3
      have fr : Fm [] ev1 S (mR S 28 j x) := Fm.mR (by decide)
      obtain ⟨S', e1, e2⟩ := ih st' (mR S 28 j x) (f + 1) fu (h.f1 fr) p1 p2 p3 (by omega) (by rw [mR_n (by decide), h18]; congr 1; omega) (fun i t' q => by rw [mR_n (by decide), show f + 1 + i = f + (i + 1) by omega]; exact h19 (i + 1) t' q) (by omega)
      exact ⟨S', e1, fr.tr e2⟩
    show ∃ S', mm_holds_11 _ _ _ _ _ _ _ = _ ∧ _
    unfold mm_holds_11
    have ht' : S.2.1 19 f = nI (eM t) := ht
    simp (discharger := omega) only [h18, ht', q0, q1, q2, q3, q4, q5, q6, q7, q8, q9, q10, q11, q14, q20, q32, q33, q38, q40, q41, q48, q57, q59, q60, q61, q62, q98, q99, q100, q101, q104, q107, q115, q117, q124, q1000, q1023, q1024, bd_s, ck_t, lt_t, nI_add, pk_mul, nI_clamp, ne_n, lt_n, le_n, vin_n, decide_true, decide_false, if_true, if_false, hc, show f < 1000 by omega, show ¬ (f + (ts.length + 1) ≤ f) by omega]
    unfold hok at hk
    by_cases t1 : t = 210
    · subst t1
      rw [if_pos rfl, Bool.and_eq_true] at hk
      have hn := of_decide_eq_true hk.1
      match st, hn, hp with
      | b :: st', _, hp =>
        have hl' : (b :: st').length = st'.length + 1 := rfl
        rw [hl'] at hl hk
        obtain ⟨S', e1, e2⟩ := hstep ((!b) :: st') st'.length (nI (!b).toNat) ⟨by rw [mR_s, if_pos rfl], PL_up hp.2 (Nat.le_refl _)⟩ hk.2 hl
        refine ⟨S', ?_, e2⟩
        have hev : evl A v w e (210 :: ts) (b :: st') = evl A v w e ts ((!b) :: st') := rfl
        rw [hev, ← e1, hl']
        simp (discharger := omega) only [show eM 210 = 33 from rfl, bd_s, ck_t, lt_t, nI_add, pk_mul, nI_clamp, ne_n, lt_n, le_n, vin_n, decide_true, decide_false, if_true, if_false, pk_sub (show 1 ≤ st'.length + 1 by omega), Nat.add_sub_cancel, show st'.length < 100 by omega, hp.1, b2_0]
        cases b
        all_goals simp (discharger := omega) only [mm_holds_63, mm_holds_178, bd_s, ck_t, lt_t, nI_add, pk_mul, nI_clamp, ne_n, lt_n, le_n, vin_n, decide_true, decide_false, if_true, if_false, q0, q1, q2, q3, q4, q5, q6, q7, q8, q9, q10, q11, q14, q20, q32, q33, q38, q40, q41, q48, q57, q59, q60, q61, q62, q98, q99, q100, q101, q104, q107, q115, q117, q124, q1000, q1023, q1024, eq_self, reduceCtorEq, Bool.not_true, Bool.not_false, Bool.toNat_true, Bool.toNat_false, Bool.and_true, Bool.and_false, Bool.or_true, Bool.or_false, Bool.true_and, Bool.false_and, Bool.true_or, Bool.false_or, List.length_cons, if_true, if_false, nar_0, nar_1, show st'.length < 100 by omega]
    · by_cases t2 : t = 220 ∨ t = 230
      · rw [if_neg t1, if_pos t2, Bool.and_eq_true] at hk
        have hn := of_decide_eq_true hk.1
        match st, hn, hp with
        | b :: a :: st', _, hp =>
          have hl' : (b :: a :: st').length = st'.length + 2 := rfl
          rw [hl'] at hl hk
          have hp1 : S.2.1 28 (st'.length + 1) = nI b.toNat := hp.1
          have hp2 : S.2.1 28 st'.length = nI a.toNat := hp.2.1
          rcases t2 with rfl | rfl
          · obtain ⟨S', e1, e2⟩ := hstep ((a && b) :: st') st'.length (nI (a && b).toNat) ⟨by rw [mR_s, if_pos rfl], PL_up hp.2.2 (Nat.le_refl _)⟩ hk.2 (by simp; omega)
            refine ⟨S', ?_, e2⟩
            have hev : evl A v w e (220 :: ts) (b :: a :: st') = evl A v w e ts ((a && b) :: st') := rfl
            rw [hev, ← e1, hl']
            simp (discharger := omega) only [show eM 220 = 38 from rfl, mm_holds_81, q0, q1, q2, q3, q4, q5, q6, q7, q8, q9, q10, q11, q14, q20, q32, q33, q38, q40, q41, q48, q57, q59, q60, q61, q62, q98, q99, q100, q101, q104, q107, q115, q117, q124, q1000, q1023, q1024, bd_s, ck_t, lt_t, nI_add, pk_mul, nI_clamp, ne_n, lt_n, le_n, vin_n, decide_true, decide_false, if_true, if_false, show nI (st'.length + 2) + -nI 1 = nI (st'.length + 1) from pk_m1 _, show ¬ (38 = 33) by decide, pk_sub (show 1 ≤ st'.length + 1 by omega), Nat.add_sub_cancel, show st'.length < 100 by omega, show st'.length + 1 < 100 by omega, hp1, hp2, b2_0]
            cases a <;> cases b
            all_goals simp (discharger := omega) only [mm_holds_125, mm_holds_151, mm_holds_156, mm_holds_178, bd_s, ck_t, lt_t, nI_add, pk_mul, nI_clamp, ne_n, lt_n, le_n, vin_n, decide_true, decide_false, if_true, if_false, q0, q1, q2, q3, q4, q5, q6, q7, q8, q9, q10, q11, q14, q20, q32, q33, q38, q40, q41, q48, q57, q59, q60, q61, q62, q98, q99, q100, q101, q104, q107, q115, q117, q124, q1000, q1023, q1024, eq_self, reduceCtorEq, Bool.not_true, Bool.not_false, Bool.toNat_true, Bool.toNat_false, Bool.and_true, Bool.and_false, Bool.or_true, Bool.or_false, Bool.true_and, Bool.false_and, Bool.true_or, Bool.false_or, List.length_cons, if_true, if_false, nar_0, nar_1, show st'.length < 100 by omega]
          · obtain ⟨S', e1, e2⟩ := hstep ((a || b) :: st') st'.length (nI (a || b).toNat) ⟨by rw [mR_s, if_pos rfl], PL_up hp.2.2 (Nat.le_refl _)⟩ hk.2 (by simp; omega)
            refine ⟨S', ?_, e2⟩
            have hev : evl A v w e (230 :: ts) (b :: a :: st') = evl A v w e ts ((a || b) :: st') := rfl
            rw [hev, ← e1, hl']
            simp (discharger := omega) only [show eM 230 = 124 from rfl, mm_holds_81, q0, q1, q2, q3, q4, q5, q6, q7, q8, q9, q10, q11, q14, q20, q32, q33, q38, q40, q41, q48, q57, q59, q60, q61, q62, q98, q99, q100, q101, q104, q107, q115, q117, q124, q1000, q1023, q1024, bd_s, ck_t, lt_t, nI_add, pk_mul, nI_clamp, ne_n, lt_n, le_n, vin_n, decide_true, decide_false, if_true, if_false, show nI (st'.length + 2) + -nI 1 = nI (st'.length + 1) from pk_m1 _, show ¬ (124 = 33) by decide, show ¬ (124 = 38) by decide, pk_sub (show 1 ≤ st'.length + 1 by omega), Nat.add_sub_cancel, show st'.length < 100 by omega, show st'.length + 1 < 100 by omega, hp1, hp2, b2_0]
            cases a <;> cases b
            all_goals simp (discharger := omega) only [mm_holds_125, mm_holds_151, mm_holds_156, mm_holds_178, bd_s, ck_t, lt_t, nI_add, pk_mul, nI_clamp, ne_n, lt_n, le_n, vin_n, decide_true, decide_false, if_true, if_false, q0, q1, q2, q3, q4, q5, q6, q7, q8, q9, q10, q11, q14, q20, q32, q33, q38, q40, q41, q48, q57, q59, q60, q61, q62, q98, q99, q100, q101, q104, q107, q115, q117, q124, q1000, q1023, q1024, eq_self, reduceCtorEq, Bool.not_true, Bool.not_false, Bool.toNat_true, Bool.toNat_false, Bool.and_true, Bool.and_false, Bool.or_true, Bool.or_false, Bool.true_and, Bool.false_and, Bool.true_or, Bool.false_or, List.length_cons, if_true, if_false, nar_0, nar_1, show st'.length < 100 by omega]
      · rw [if_neg t1, if_neg t2, Bool.and_eq_true, Bool.and_eq_true] at hk
        have ho := hk.1.1
        have hn := of_decide_eq_true hk.1.2
        obtain ⟨S', e1, e2⟩ := hstep (tst A v w e t :: st) st.length (nI (tst A v w e t).toNat) ⟨by rw [mR_s, if_pos rfl], PL_up hp (Nat.le_refl _)⟩ hk.2 (by simp; omega)
        refine ⟨S', ?_, e2⟩
        have hev : evl A v w e (t :: ts) st = evl A v w e ts (tst A v w e t :: st) := by
          show evl A v w e ts (stp A v w e t st) = _
          unfold stp
          rw [if_neg t1, if_neg (fun q => t2 (Or.inl q)), if_neg (fun q => t2 (Or.inr q))]
        have hem := eM_t ho
        have hlt : 98000 ≤ eM t := by
          rw [hem]
          have : 98 ≤ ltr (t / 10) := by unfold ltr; (repeat' split) <;> omega
          omega
        have hlt2 : eM t < 200000 := by
          rw [hem]
          have h1 : ltr (t / 10) ≤ 117 := by unfold ltr; (repeat' split) <;> omega
          have h2 : sgn (t / 10) ≤ 62 := by unfold sgn; (repeat' split) <;> omega
          omega
        rw [hev, ← e1]
        simp (discharger := omega) only [bd_s, ck_t, lt_t, nI_add, pk_mul, nI_clamp, ne_n, lt_n, le_n, vin_n, decide_true, decide_false, if_true, if_false, show ¬ (eM t = 33) by omega, show ¬ (eM t = 38) by omega, show ¬ (eM t = 124) by omega, m_tst h hw he ho, show st.length < 100 by omega, nar_b, mm_holds_178, List.length_cons, q0, q1, q2, q3, q4, q5, q6, q7, q8, q9, q10, q11, q14, q20, q32, q33, q38, q40, q41, q48, q57, q59, q60, q61, q62, q98, q99, q100, q101, q104, q107, q115, q117, q124, q1000, q1023, q1024]
end PMH2
