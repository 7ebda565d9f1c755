-- the class: a rule is read
section PCR4
variable {t0 : TS} {P P' P'' : PS} {r b s g p q c : Nat} {T o : List Nat} {X Y : Nat → Prop} {z0 : Nat}
theorem RFr.sam (f : RFr r s P P') (hz : CZ t0 P) : SAM t0 z0 (fun a => a = r ∨ a = s) (fun _ => False) P P' := by
  have hZ : pZ P' = pZ P := f.2.2.2.2.2.1
  refine ⟨fun a _ x => f.2.2.2.2.2.2.1 a (fun z => x (Or.inl z)) (fun z => x (Or.inr z)), fun a _ _ => by rw [f.1], fun a _ => by rw [f.2.1], fun a _ => by rw [f.2.2.1], fun a c z => (f.k2 a c).trans z, by rw [hZ]; exact Nat.le_refl _, ?_⟩
  unfold CZ at *
  rw [f.2.2.2.2.1, hZ]
  exact hz
theorem RB.six (h : RB P r g p) {d : Nat} : RB (pIu P r 6 (nI (g ||| 2 ^ d))) r (g ||| 2 ^ d) p := by
  obtain ⟨h1, h2, h3⟩ := h
  exact ⟨by rw [pIu_eq]; exact h1, by rw [pIu_eq]; exact h2, by rw [pIu_eq]; rfl⟩
theorem lwd_v : lwd 4 = [117, 116, 32] ∧ lwd 5 = [110, 32] ∧ lwd 6 = [101, 101, 100, 32] ∧ lwd 7 = [97, 121, 32] ∧ lwd 8 = [32] := by decide
theorem rdW_c {d : Nat} {L : List Nat} (h : T[p]? = some d) : rdW T (d :: L) p = rdW T L (p + 1) := by
  unfold rdW
  rw [if_pos h]
  cases L <;> rfl
theorem rdH_x (h : T[p]?.bind (ixS 0) = none) (hT : tOK T) : rdH T p = (p, none) := by
  have key : ∀ c, T[p]? = some c → c ≠ 111 ∧ c ≠ 105 ∧ c ≠ 110 ∧ c ≠ 109 := fun c hc => by
    rw [hc] at h
    have h' : ixS 0 c = none := h
    rw [ixS0 c (tc hT c hc)] at h'
    refine ⟨fun z => ?_, fun z => ?_, fun z => ?_, fun z => ?_⟩ <;> subst z <;> cases h'
  unfold rdH hdN
  rw [if_neg (fun z => (key _ z).2.1 rfl), if_neg (fun z => (key _ z).2.2.2 rfl), if_neg (fun z => (key _ z).1 rfl)]
  have : rdW T [110, 101, 101, 100, 32] p = (p, false) := by
    unfold rdW
    rw [if_neg (fun z => (key _ z).2.2.1 rfl)]
  rw [this]
theorem ixS0_s {v : Nat} (h : T[p]?.bind (ixS 0) = some v) (hT : tOK T) : (v = 0 ∧ T[p]? = some 111) ∨ (v = 1 ∧ T[p]? = some 105) ∨ (v = 2 ∧ T[p]? = some 110) ∨ (v = 3 ∧ T[p]? = some 109) := by
  obtain ⟨c, hc, h', -⟩ := bind_s h
  rw [ixS0 c (tc hT c hc)] at h'
  by_cases c1 : c = 111
  · rw [if_pos c1] at h'; exact Or.inl ⟨(Option.some.inj h').symm, by rw [hc, c1]⟩
  · rw [if_neg c1] at h'
    by_cases c2 : c = 105
    · rw [if_pos c2] at h'; exact Or.inr (Or.inl ⟨(Option.some.inj h').symm, by rw [hc, c2]⟩)
    · rw [if_neg c2] at h'
      by_cases c3 : c = 110
      · rw [if_pos c3] at h'; exact Or.inr (Or.inr (Or.inl ⟨(Option.some.inj h').symm, by rw [hc, c3]⟩))
      · rw [if_neg c3] at h'
        by_cases c4 : c = 109
        · rw [if_pos c4] at h'; exact Or.inr (Or.inr (Or.inr ⟨(Option.some.inj h').symm, by rw [hc, c4]⟩))
        · rw [if_neg c4] at h'; cases h'
theorem c_rK (h : RDR P r b s T) (hz : CZ t0 P) (hq : RB P r g p) (hp : p ≤ T.length) : ∃ P', hm_X3_readClause t0 P r = some (some (pZ P), P') ∧ SAM t0 (pZ P) (fun a => a = r ∨ a = s) (fun _ => False) P P' ∧ pI P' r 2 = pI P r 2 ∧ kk P' (pZ P) 2 = true ∧ kk P' (pZ P + 1) 12 = true ∧ pZ P' = pZ P + 2 ∧ NCl P P' t0 r s g T (rdK T p) := by
  have good : ∀ (P3 : PS) (v d q g3 : Nat), RFr r s P P3 → RB P3 r g3 q → q ≤ T.length → 3 ≤ q → rdH T p = (q, some (v, d)) → g3 = g ||| (if v = 2 then 2 ^ d else 0) → ∃ P', hm_X3_readClause_37 t0 r (nI v) (nI d) P3 = some (some (pZ P), P') ∧ SAM t0 (pZ P) (fun a => a = r ∨ a = s) (fun _ => False) P P' ∧ pI P' r 2 = pI P r 2 ∧ kk P' (pZ P) 2 = true ∧ kk P' (pZ P + 1) 12 = true ∧ pZ P' = pZ P + 2 ∧ NCl P P' t0 r s g T (rdK T p) := by
    intro P3 v d q g3 f3 hq3 hqT hq33 hH hg
    have hZ : pZ P3 = pZ P := f3.2.2.2.2.2.1
    have s3 := f3.sam (z0 := pZ P) hz
    obtain ⟨P', e, sm, i2, k1, k2, z2, hx⟩ := c_rk37 (t0 := t0) (h.fr f3) s3.cz hq3 hqT hq33 (v := v) (d := d)
    rw [hZ] at e sm k1 k2 z2 hx
    refine ⟨P', e, s3.tr sm, by rw [i2, f3.2.2.2.2.2.2.2 2 (by decide)], k1, k2, z2, ?_⟩
    unfold rdK
    rw [hH]
    show NCl P P' t0 r s g T (match rdC T (rdO T 4) q [] with
      | (q', none) => (q', none)
      | (q', some o) => (q', some (v, d, o)))
    cases hr : rdC T (rdO T 4) q [] with
    | mk q1 x =>
      rw [hr] at hx
      cases x with
      | none => exact hx
      | some o1 =>
        rw [hg] at hx
        exact hx
  have bad : ∀ (P3 : PS) (v d q c : Nat), RFr r s P P3 → RF P3 r q c → q ≤ T.length → rdH T p = (q, none) → ∃ P', hm_X3_readClause_37 t0 r (nI v) (nI d) P3 = some (some (pZ P), P') ∧ SAM t0 (pZ P) (fun a => a = r ∨ a = s) (fun _ => False) P P' ∧ pI P' r 2 = pI P r 2 ∧ kk P' (pZ P) 2 = true ∧ kk P' (pZ P + 1) 12 = true ∧ pZ P' = pZ P + 2 ∧ NCl P P' t0 r s g T (rdK T p) := by
    intro P3 v d q c f3 hq3 hqT hH
    have hZ : pZ P3 = pZ P := f3.2.2.2.2.2.1
    have s3 := f3.sam (z0 := pZ P) hz
    obtain ⟨P', e, sm, i2, k1, k2, z2, hx1, hx2⟩ := c_rk37f (t0 := t0) (h.fr f3) s3.cz hq3 (v := v) (d := d)
    rw [hZ] at e sm k1 k2 z2
    refine ⟨P', e, s3.tr sm, by rw [i2, f3.2.2.2.2.2.2.2 2 (by decide)], k1, k2, z2, ?_⟩
    unfold rdK
    rw [hH]
    exact ⟨hqT, hx1, hx2⟩
  have hpk := c_pick h hq.1 hq.2.1 hp (i := 0) (by decide)
  obtain ⟨w4, w5, w6, w7, w8⟩ := lwd_v
  unfold hm_X3_readClause hm_X3_readSort hm_X3_readSort_69
  cases hv : T[p]?.bind (ixS 0) with
  | none =>
    rw [hv] at hpk
    obtain ⟨cc, hb⟩ := hq.bad
    have h1 : RDR (pIu P r 4 1) r b s T := h.at (by decide)
    have f1 : RFr r s P (pIu P r 4 1) := RFr.I (by decide)
    obtain ⟨P2, e2, f2, hb2⟩ := c_exf (t0 := t0) h1 hb (i := 4) (by decide)
    have := bad P2 0 0 p cc (f1.tr f2) hb2 hp (rdH_x hv h.tk)
    simp only [hpk, ck_t, nn_s, bd_s, lt_t, h.1, if_true, e2, h1.1]
    rw [if_neg (show ¬ (0 : Int32) = 2 by decide)]
    exact this
  | some v =>
    rw [hv] at hpk
    have h1 : RDR (pIu P r 3 (nI (p + 1))) r b s T := h.at (by decide)
    have f1 : RFr r s P (pIu P r 3 (nI (p + 1))) := RFr.I (by decide)
    have hq1 : RB (pIu P r 3 (nI (p + 1))) r g (p + 1) := hq.at
    have go : ∀ (w : Nat) (L : List Nat), w ≠ 2 → rdH T p = hdW T p w L → rdW T L p = rdW T (lwd (if w = 0 then 4 else if w = 1 then 5 else 7)) (p + 1) → 3 ≤ L.length → p + 1 ≤ T.length → ∃ P2 P', hm_X3_expectAll t0 (pIu P r 3 (nI (p + 1))) r (if w = 0 then 4 else if w = 1 then 5 else 7) = some (0, P2) ∧ RDR P2 r b s T ∧ hm_X3_readClause_37 t0 r (nI w) 0 P2 = some (some (pZ P), P') ∧ SAM t0 (pZ P) (fun a => a = r ∨ a = s) (fun _ => False) P P' ∧ pI P' r 2 = pI P r 2 ∧ kk P' (pZ P) 2 = true ∧ kk P' (pZ P + 1) 12 = true ∧ pZ P' = pZ P + 2 ∧ NCl P P' t0 r s g T (rdK T p) := by
      intro w L hw2 hH hWd hL3 hpl
      obtain ⟨P2, e2, f2, hx2⟩ := c_exB (t0 := t0) h1 hq1 hpl (i := if w = 0 then 4 else if w = 1 then 5 else 7) (by (repeat' split) <;> decide)
      rw [← hWd] at hx2
      unfold hdW at hH
      cases hr : rdW T L p with
      | mk q1 x =>
        rw [hr] at hx2 hH
        obtain ⟨a1, a2⟩ := rdW_le hr hp
        cases x with
        | true =>
          have a3 := a2 rfl
          obtain ⟨P', e3, rest⟩ := good P2 w 0 q1 g (f1.tr f2) hx2 a1 (by omega) hH (by rw [if_neg hw2, Nat.or_zero])
          exact ⟨P2, P', e2, h1.fr f2, e3, rest⟩
        | false =>
          obtain ⟨cc, hb⟩ := hx2
          obtain ⟨P', e3, rest⟩ := bad P2 w 0 q1 cc (f1.tr f2) hb a1 hH
          exact ⟨P2, P', e2, h1.fr f2, e3, rest⟩
    rcases ixS0_s hv h.tk with ⟨rfl, ht⟩ | ⟨rfl, ht⟩ | ⟨rfl, ht⟩ | ⟨rfl, ht⟩
    · have hpl := (List.getElem?_eq_some_iff.mp ht).1
      obtain ⟨P2, P', e2, h2, e3, rest⟩ := go 0 [111, 117, 116, 32] (by decide) (by
        unfold rdH
        rw [if_neg (by rw [ht]; decide), if_neg (by rw [ht]; decide), if_pos ht]) (by rw [rdW_c ht]; exact congrArg (fun L => rdW T L (p + 1)) w4.symm) (by decide) (by omega)
      refine ⟨P', ?_, rest⟩
      rw [hpk, bd_s, h.1, ck_t, if_pos (by decide)]
      have e2' : hm_X3_expectAll t0 (pIu P r 3 (nI (p + 1))) r 4 = some (0, P2) := e2
      rw [e2', bd_s, h1.1, ck_t, bd_s, ck_t, lt_t, if_neg (show ¬ nI 0 = 2 by decide)]
      exact e3
    · have hpl := (List.getElem?_eq_some_iff.mp ht).1
      obtain ⟨P2, P', e2, h2, e3, rest⟩ := go 1 [105, 110, 32] (by decide) (by
        unfold rdH
        rw [if_pos ht]) (by rw [rdW_c ht]; exact congrArg (fun L => rdW T L (p + 1)) w5.symm) (by decide) (by omega)
      refine ⟨P', ?_, rest⟩
      rw [hpk, bd_s, h.1, ck_t, if_neg (by decide), if_pos (by decide)]
      have e2' : hm_X3_expectAll t0 (pIu P r 3 (nI (p + 1))) r 5 = some (0, P2) := e2
      rw [e2', bd_s, h1.1, ck_t, bd_s, ck_t, lt_t, if_neg (show ¬ nI 1 = 2 by decide)]
      exact e3
    · have hpl := (List.getElem?_eq_some_iff.mp ht).1
      have hH : rdH T p = match rdW T (lwd 6) (p + 1) with
          | (q, false) => (q, none)
          | (q, true) => match T[q]?.bind dgi with
            | none => (q, none)
            | some d => if T[q + 1]? = some 32 then (q + 2, some (2, d)) else (q + 1, none) := by
        unfold rdH hdN
        rw [if_neg (by rw [ht]; decide), if_neg (by rw [ht]; decide), if_neg (by rw [ht]; decide), rdW_c ht, w6]
        rcases rdW T [101, 101, 100, 32] (p + 1) with ⟨q, _ | _⟩ <;> rfl
      obtain ⟨P2, e2, f2, hx2⟩ := c_exB (t0 := t0) h1 hq1 (by omega) (i := 6) (by decide)
      have h2 := h1.fr f2
      rw [hpk, bd_s, h.1, ck_t, if_neg (by decide), if_neg (by decide), if_pos (by decide), e2, bd_s, h1.1, ck_t, bd_s, ck_t, lt_t, if_pos (show nI 2 = 2 by decide)]
      cases hr : rdW T (lwd 6) (p + 1) with
      | mk q1 x =>
        rw [hr] at hx2 hH
        obtain ⟨a1, a2⟩ := rdW_le hr (by omega)
        cases x with
        | false =>
          obtain ⟨cc, hb⟩ := hx2
          have h3 : RDR (pIu P2 r 4 1) r b s T := h2.at (by decide)
          have f3 : RFr r s P2 (pIu P2 r 4 1) := RFr.I (by decide)
          have h4 : RDR (pIu (pIu P2 r 4 1) r 6 (pI (pIu P2 r 4 1) r 6 ||| ((1 : Int32) <<< ((0 : Int32) &&& 31)))) r b s T := h3.at (by decide)
          obtain ⟨P5, e5, f5, hb5⟩ := c_exf (t0 := t0) h4 hb.bad.six (i := 8) (by decide)
          obtain ⟨P', e6, rest⟩ := bad P5 2 0 q1 cc (f1.tr (f2.tr (f3.tr ((RFr.I (by decide)).tr f5)))) hb5 a1 hH
          refine ⟨P', ?_, rest⟩
          rw [c_pickf h2 hb (by decide), bd_s, h2.1, ck_t, h3.1, ck_t, lt_t, e5, bd_s]
          exact e6
        | true =>
          have a3 : q1 = p + 1 + 4 := by rw [a2 rfl, w6]; rfl
          have hpk3 := c_pick h2 hx2.1 hx2.2.1 a1 (i := 3) (by decide)
          rw [bind_cong h.tk ixS3] at hpk3
          cases hd : T[q1]?.bind dgi with
          | none =>
            rw [hd] at hpk3
            simp only [hd] at hH
            obtain ⟨cc, hb⟩ := hx2.bad
            have h3 : RDR (pIu P2 r 4 1) r b s T := h2.at (by decide)
            have f3 : RFr r s P2 (pIu P2 r 4 1) := RFr.I (by decide)
            have h4 : RDR (pIu (pIu P2 r 4 1) r 6 (pI (pIu P2 r 4 1) r 6 ||| ((1 : Int32) <<< ((0 : Int32) &&& 31)))) r b s T := h3.at (by decide)
            obtain ⟨P5, e5, f5, hb5⟩ := c_exf (t0 := t0) h4 hb.six (i := 8) (by decide)
            obtain ⟨P', e6, rest⟩ := bad P5 2 0 q1 cc (f1.tr (f2.tr (f3.tr ((RFr.I (by decide)).tr f5)))) hb5 a1 hH
            refine ⟨P', ?_, rest⟩
            rw [hpk3, bd_s, h2.1, ck_t, h3.1, ck_t, lt_t, e5, bd_s]
            exact e6
          | some d =>
            rw [hd] at hpk3
            simp only [hd] at hH
            obtain ⟨c2, -, hc2, hpl2⟩ := bind_s hd
            have hd10 := (dgi_lt hc2).1
            have e9 : (1 : Int32) <<< (nI d &&& 31) = nI (2 ^ d) := shl_n (by omega)
            have h3 : RDR (pIu P2 r 3 (nI (q1 + 1))) r b s T := h2.at (by decide)
            have f3 : RFr r s P2 (pIu P2 r 3 (nI (q1 + 1))) := RFr.I (by decide)
            have hq3 : RB (pIu P2 r 3 (nI (q1 + 1))) r g (q1 + 1) := RB.at hx2
            have h4 : RDR (pIu (pIu P2 r 3 (nI (q1 + 1))) r 6 (nI (g ||| 2 ^ d))) r b s T := h3.at (by decide)
            have f4 : RFr r s (pIu P2 r 3 (nI (q1 + 1))) (pIu (pIu P2 r 3 (nI (q1 + 1))) r 6 (nI (g ||| 2 ^ d))) := RFr.I (by decide)
            obtain ⟨P5, e5, f5, hx5⟩ := c_exB (t0 := t0) h4 hq3.six (by omega) (i := 8) (by decide)
            have hw8 : rdW T (lwd 8) (q1 + 1) = if T[q1 + 1]? = some 32 then (q1 + 2, true) else (q1 + 1, false) := by
              rw [w8]
              show (if T[q1 + 1]? = some 32 then rdW T [] (q1 + 1 + 1) else _) = _
              rfl
            rw [hw8] at hx5
            have tail : hm_X3_readClause_37 t0 r (nI 2) (nI d) P5 = hm_X3_readClause_37 t0 r (nI 2) (nI d) P5 := rfl
            have fin : ∀ P', hm_X3_readClause_37 t0 r (nI 2) (nI d) P5 = some (some (pZ P), P') → bd (hm_X3_pick P2 r 3) (fun r_224 P_223 => ck (kk P2 r 4) (ck (kk P_223 r 4) (lt_ (pIu P_223 r 6 ((pI P_223 r 6) ||| ((1 : Int32) <<< (r_224 &&& 31)))) (fun P_228 => bd (hm_X3_expectAll t0 P_228 r 8) (fun _ P_229 => hm_X3_readClause_37 t0 r (nI 2) r_224 P_229))))) = some (some (pZ P), P') := by
              intro P' e6
              rw [hpk3, bd_s, h2.1, ck_t, h3.1, ck_t, lt_t, hq3.2.2, e9, or_n, e5, bd_s]
              exact e6
            have f25 := f1.tr (f2.tr (f3.tr (f4.tr f5)))
            by_cases z : T[q1 + 1]? = some 32
            · rw [if_pos z] at hx5 hH
              have hpl3 := (List.getElem?_eq_some_iff.mp z).1
              obtain ⟨P', e6, rest⟩ := good P5 2 d (q1 + 2) (g ||| 2 ^ d) f25 hx5 (by omega) (by omega) hH (by rw [if_pos rfl])
              exact ⟨P', fin P' e6, rest⟩
            · rw [if_neg z] at hx5 hH
              obtain ⟨cc, hb⟩ := hx5
              obtain ⟨P', e6, rest⟩ := bad P5 2 d (q1 + 1) cc f25 hb (by omega) hH
              exact ⟨P', fin P' e6, rest⟩
    · have hpl := (List.getElem?_eq_some_iff.mp ht).1
      obtain ⟨P2, P', e2, h2, e3, rest⟩ := go 3 [109, 97, 121, 32] (by decide) (by
        unfold rdH
        rw [if_neg (by rw [ht]; decide), if_pos ht]) (by rw [rdW_c ht]; exact congrArg (fun L => rdW T L (p + 1)) w7.symm) (by decide) (by omega)
      refine ⟨P', ?_, rest⟩
      rw [hpk, bd_s, h.1, ck_t, if_neg (by decide), if_neg (by decide), if_neg (by decide)]
      have e2' : hm_X3_expectAll t0 (pIu P r 3 (nI (p + 1))) r 7 = some (0, P2) := e2
      rw [e2', bd_s, h1.1, ck_t, bd_s, ck_t, lt_t, if_neg (show ¬ nI 3 = 2 by decide)]
      exact e3
end PCR4
