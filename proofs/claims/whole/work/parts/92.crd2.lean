-- the class: tests, conditions
section PCR2
variable {t0 : TS} {P P' P'' : PS} {r b s g p q c : Nat} {T o : List Nat}
theorem RDR.rs (h : RDR P r b s T) : r ≠ s := h.2.2.2.2.2.2.2.2.2.2.1
theorem RDR.tk (h : RDR P r b s T) : tOK T := h.2.2.2.2.2.2.2.2.2.2.2.2
theorem RDR.at (h : RDR P r b s T) {k : Nat} {v : Int32} (hk : 3 ≤ k) : RDR (pIu P r k v) r b s T := h.fr (RFr.I hk)
theorem RF.six (h : RF P r p c) {v : Int32} : RF (pIu P r 6 v) r p c := by
  obtain ⟨h1, h2, h3⟩ := h
  exact ⟨by rw [pIu_eq]; exact h1, by rw [pIu_eq]; exact h2, by rw [pIu_eq]; exact h3⟩
theorem bind_cong {f f' : Nat → Option Nat} (hT : tOK T) (h : ∀ c, c < 256 → f c = f' c) : T[p]?.bind f = T[p]?.bind f' := by
  cases q : T[p]? with
  | none => rfl
  | some c => exact h c (tc hT c q)
theorem ixS1 : ∀ c, c < 256 → ixS 1 c = lti c := by decide +kernel
theorem ixS2 : ∀ L, L < 2 → ∀ c, c < 256 → ixS 2 c = sgi L c := by decide +kernel
theorem ixS10 : ∀ c, c < 256 → ixS 10 c = if c = 61 then some 0 else none := by decide +kernel
theorem ixS3 : ∀ c, c < 256 → ixS 3 c = dgi c := by decide +kernel
theorem c_putG (h : RDR P r b s T) (h1 : pI P r 3 = nI p) (h2 : pI P r 4 = 0) (h3 : pI P r 5 = nI o.length) {t : Nat} (h4 : pI P r 6 = nI (g ||| fsm (o ++ [t]))) (h5 : ∀ i u, o[i]? = some u → pI P s i = nI u) (ho : o.length < 100) {x y : Nat} (hx : 10 * x + y = t) {x' y' : Int32} (hx' : x' = nI x) (hy' : y' = nI y) : ∃ P', hm_X3_put P r x' y' = some (0, P') ∧ RFr r s P P' ∧ RQ P' r s g p (o ++ [t]) := by
  subst hx' hy'
  have hrs := h.rs
  refine ⟨_, c_putR h h3 ho, (RFr.S hrs).tr (RFr.I (by decide)), ?_⟩
  have et : (10 : Int32) * nI x + nI y = nI t := by rw [q10, pk_mul, nI_add, hx]
  rw [et]
  refine ⟨?_, ?_, ?_, ?_, fun i u hi => ?_⟩
  · rw [pIu_eq, upd, if_neg (by decide), pIu_ne hrs]; exact h1
  · rw [pIu_eq, upd, if_neg (by decide), pIu_ne hrs]; exact h2
  · rw [pIu_eq, upd, if_pos rfl, List.length_append]; rfl
  · rw [pIu_eq, upd, if_neg (by decide), pIu_ne hrs]; exact h4
  · rw [pIu_ne (Ne.symm hrs), pIu_eq, upd]
    by_cases c : i = o.length
    · subst c
      rw [if_pos rfl]
      rw [List.getElem?_append_right (Nat.le_refl _), Nat.sub_self] at hi
      exact congrArg nI (Option.some.inj hi)
    · have hl := (List.getElem?_eq_some_iff.mp hi).1
      rw [List.length_append, List.length_singleton] at hl
      rw [if_neg (by omega)]
      rw [List.getElem?_append_left (by omega)] at hi
      exact h5 i u hi
theorem c_rt63f (h : RDR P r b s T) (hf : RF P r p c) (hc : c < 100) {x y : Int32} : ∃ P', hm_X3_readTest_64 r x y P = some (0, P') ∧ RFr r s P P' ∧ RF P' r p (c + 1) := by
  obtain ⟨P', e, f, hf'⟩ := c_putf h hf hc (x := x) (y := y)
  refine ⟨P', ?_, f, hf'⟩
  unfold hm_X3_readTest_64
  rw [e, bd_s, h.1, ck_t]
theorem c_rt30f (h : RDR P r b s T) (hf : RF P r p c) (hc : c < 100) {x y : Int32} : ∃ P', hm_X3_readTest_31 r x y P = some (0, P') ∧ RFr r s P P' ∧ RF P' r p (c + 1) := by
  have h1 : RDR (pIu P r 4 1) r b s T := h.at (by decide)
  have f1 : RFr r s P (pIu P r 4 1) := RFr.I (by decide)
  unfold hm_X3_readTest_31
  rw [lt_t, c_pickf h hf (by decide), bd_s, h.1, ck_t]
  by_cases q : (3 : Int32) * x + y = 19
  · have h2 : RDR (pIu (pIu P r 4 1) r 6 (pI (pIu P r 4 1) r 6 ||| ((1 : Int32) <<< ((0 : Int32) &&& 31)))) r b s T := h1.at (by decide)
    obtain ⟨P', e, f, hf'⟩ := c_rt63f h2 hf.bad.six hc (x := (3 : Int32) * x + y) (y := 0)
    refine ⟨P', ?_, f1.tr ((RFr.I (by decide)).tr f), hf'⟩
    rw [if_pos q, h1.1, ck_t, lt_t]
    exact e
  · obtain ⟨P', e, f, hf'⟩ := c_rt63f h1 hf.bad hc (x := (3 : Int32) * x + y) (y := 0)
    refine ⟨P', ?_, f1.tr f, hf'⟩
    rw [if_neg q]
    exact e
theorem c_rt30 (h : RDR P r b s T) (hq : RQ P r s g p o) (hp : p ≤ T.length) (ho : o.length < 99) {L S : Nat} (hL : L < 7) (hS : S < 3) : ∃ P', hm_X3_readTest_31 r (nI L) (nI S) P = some (0, P') ∧ RFr r s P P' ∧ match T[p]?.bind dgi with
    | some d => RQ P' r s g (p + 1) (o ++ [10 * (3 * L + S) + d])
    | none => RF P' r p (o.length + 1) := by
  have hpk := c_pick h hq.1 hq.2.1 hp (i := 3) (by decide)
  rw [bind_cong h.tk ixS3] at hpk
  cases hd : T[p]?.bind dgi with
  | none =>
    rw [hd] at hpk
    have h1 : RDR (pIu P r 4 1) r b s T := h.at (by decide)
    have f1 : RFr r s P (pIu P r 4 1) := RFr.I (by decide)
    unfold hm_X3_readTest_31
    rw [lt_t, hpk, bd_s, h.1, ck_t]
    by_cases q : (3 : Int32) * nI L + nI S = 19
    · have h2 : RDR (pIu (pIu P r 4 1) r 6 (pI (pIu P r 4 1) r 6 ||| ((1 : Int32) <<< ((0 : Int32) &&& 31)))) r b s T := h1.at (by decide)
      obtain ⟨P', e, f, hf'⟩ := c_rt63f h2 hq.bad.six (by omega) (x := (3 : Int32) * nI L + nI S) (y := 0)
      refine ⟨P', ?_, f1.tr ((RFr.I (by decide)).tr f), hf'⟩
      rw [if_pos q, h1.1, ck_t, lt_t]
      exact e
    · obtain ⟨P', e, f, hf'⟩ := c_rt63f h1 hq.bad (by omega) (x := (3 : Int32) * nI L + nI S) (y := 0)
      refine ⟨P', ?_, f1.tr f, hf'⟩
      rw [if_neg q]
      exact e
  | some d =>
    rw [hd] at hpk
    obtain ⟨c, -, hc, hpl⟩ := bind_s hd
    have hd10 := (dgi_lt hc).1
    have h1 : RDR (pIu P r 3 (nI (p + 1))) r b s T := h.at (by decide)
    have f1 : RFr r s P (pIu P r 3 (nI (p + 1))) := RFr.I (by decide)
    have hq1 := hq.at (q := p + 1) h.rs
    have e3 : (3 : Int32) * nI L + nI S = nI (3 * L + S) := by rw [show (3 : Int32) = nI 3 from rfl, pk_mul, nI_add]
    have e19 : ((3 : Int32) * nI L + nI S = 19) = (3 * L + S = 19) := by rw [e3, show (19 : Int32) = nI 19 from rfl, ne_n (by omega) (by decide)]
    have e9 : (1 : Int32) <<< (nI d &&& 31) = nI (2 ^ d) := shl_n (by omega)
    unfold hm_X3_readTest_31
    rw [lt_t, hpk, bd_s, h.1, ck_t]
    by_cases q : 3 * L + S = 19
    · have h2 : RDR (pIu (pIu P r 3 (nI (p + 1))) r 6 (nI ((g ||| fsm o) ||| 2 ^ d))) r b s T := h1.at (by decide)
      have f2 : RFr r s (pIu P r 3 (nI (p + 1))) (pIu (pIu P r 3 (nI (p + 1))) r 6 (nI ((g ||| fsm o) ||| 2 ^ d))) := RFr.I (by decide)
      obtain ⟨i1, i2, i3, i4, i5⟩ := hq1
      obtain ⟨P', e, f, hq'⟩ := c_putG (g := g) (p := p + 1) (o := o) (t := 10 * (3 * L + S) + d) h2 (by rw [pIu_eq]; exact i1) (by rw [pIu_eq]; exact i2) (by rw [pIu_eq]; exact i3) (by
        rw [pIu_eq, upd, if_pos rfl, fsm_app, if_pos (by omega), show 10 * (3 * L + S) + d - 190 = d by omega, Nat.or_assoc]) (fun i u hi => by rw [pIu_ne (Ne.symm h.rs)]; exact i5 i u hi) (by omega) (x := 3 * L + S) (y := d) rfl e3 rfl
      refine ⟨P', ?_, f1.tr (f2.tr f), hq'⟩
      rw [if_pos (e19 ▸ q), h1.1, ck_t, lt_t, e9, i4, or_n]
      unfold hm_X3_readTest_64
      rw [e, bd_s, h2.1, ck_t]
    · obtain ⟨P', e, f, hq'⟩ := c_put h1 hq1 (by omega) (x := 3 * L + S) (y := d) (t := 10 * (3 * L + S) + d) rfl (by omega) e3 (y' := nI d) rfl
      refine ⟨P', ?_, f1.tr f, hq'⟩
      rw [if_neg (e19 ▸ q)]
      unfold hm_X3_readTest_64
      rw [e, bd_s, h1.1, ck_t]
-- what a reading from a place gives
def RXX (P : PS) (r s g : Nat) (T : List Nat) (p n : Nat) : RS → Prop
  | (q, some o) => RQ P r s g q o
  | (q, none) => p ≤ q ∧ q ≤ T.length ∧ ∃ c, c + p ≤ n + q + 1 ∧ RF P r q c
theorem rdA_1 (h : T[p]?.bind lti = none) : rdA T p o = (p, none) := by
  unfold rdA rdT
  rw [h]
theorem rdA_2 {L : Nat} (h : T[p]?.bind lti = some L) (h2 : T[p + 1]?.bind (sgi L) = none) : rdA T p o = (p + 1, none) := by
  unfold rdA rdT
  rw [h]
  simp only
  rw [h2]
theorem rdA_3 {L S : Nat} (h : T[p]?.bind lti = some L) (h2 : T[p + 1]?.bind (sgi L) = some S) : rdA T p o = match T[p + 2]?.bind dgi with
    | none => (p + 2, none)
    | some d => (p + 3, some (o ++ [10 * (3 * L + S) + d])) := by
  unfold rdA rdT
  rw [h]
  simp only
  rw [h2]
  simp only
  cases T[p + 2]?.bind dgi <;> rfl
theorem c_rT (h : RDR P r b s T) (hq : RQ P r s g p o) (hp : p ≤ T.length) (ho : o.length < 99) : ∃ P', hm_X3_readTest P r = some (0, P') ∧ RFr r s P P' ∧ RXX P' r s g T p o.length (rdA T p o) := by
  have hpk := c_pick h hq.1 hq.2.1 hp (i := 1) (by decide)
  rw [bind_cong h.tk ixS1] at hpk
  unfold hm_X3_readTest
  cases hL : T[p]?.bind lti with
  | none =>
    rw [hL] at hpk
    have h1 : RDR (pIu P r 4 1) r b s T := h.at (by decide)
    have f1 : RFr r s P (pIu P r 4 1) := RFr.I (by decide)
    have h2 : RDR (pIu (pIu P r 4 1) r 4 1) r b s T := h1.at (by decide)
    obtain ⟨P', e, f, hf'⟩ := c_rt30f h2 hq.bad.bad (by omega) (x := 0) (y := 0)
    refine ⟨P', ?_, f1.tr ((RFr.I (by decide)).tr f), by rw [rdA_1 hL]; exact ⟨Nat.le_refl _, hp, o.length + 1, by omega, hf'⟩⟩
    rw [hpk, bd_s, h.1, ck_t, lt_t, if_neg (by decide), c_pickf h1 hq.bad (by decide), bd_s, h1.1, ck_t]
    exact e
  | some L =>
    rw [hL] at hpk
    obtain ⟨c1, -, hc1, hpl⟩ := bind_s hL
    have hL7 := (lti_lt hc1).1
    have h1 : RDR (pIu P r 3 (nI (p + 1))) r b s T := h.at (by decide)
    have f1 : RFr r s P (pIu P r 3 (nI (p + 1))) := RFr.I (by decide)
    have hq1 := hq.at (q := p + 1) h.rs
    have eL : ((1 : Int32) < nI L) = (1 < L) := by rw [q1, lt_n (by decide) (by omega)]
    -- behind the sign
    have fin : ∀ (P2 : PS) (S : Nat), RDR P2 r b s T → RFr r s P P2 → RQ P2 r s g (p + 2) o → T[p + 1]?.bind (sgi L) = some S → ∃ P', hm_X3_readTest_31 r (nI L) (nI S) P2 = some (0, P') ∧ RFr r s P P' ∧ RXX P' r s g T p o.length (rdA T p o) := by
      intro P2 S h2 f2 hq2 hS
      obtain ⟨c2, -, hc2, hpl2⟩ := bind_s hS
      obtain ⟨P', e, f, hx⟩ := c_rt30 h2 hq2 (by omega) ho hL7 (sgi_lt hc2).1
      refine ⟨P', e, f2.tr f, ?_⟩
      rw [rdA_3 hL hS]
      cases hd : T[p + 2]?.bind dgi with
      | none =>
        rw [hd] at hx
        exact ⟨by omega, by omega, o.length + 1, by omega, hx⟩
      | some d =>
        rw [hd] at hx
        exact hx
    have bad : ∀ (P2 : PS) (y : Int32), RDR P2 r b s T → RFr r s P P2 → RF P2 r (p + 1) o.length → T[p + 1]?.bind (sgi L) = none → ∃ P', hm_X3_readTest_31 r (nI L) y P2 = some (0, P') ∧ RFr r s P P' ∧ RXX P' r s g T p o.length (rdA T p o) := by
      intro P2 y h2 f2 hf2 hS
      rw [rdA_2 hL hS]
      obtain ⟨P', e, f, hf'⟩ := c_rt30f h2 hf2 (by omega) (x := nI L) (y := y)
      exact ⟨P', e, f2.tr f, by omega, by omega, o.length + 1, by omega, hf'⟩
    rw [hpk, bd_s, h.1, ck_t, lt_t]
    by_cases c : 1 < L
    · rw [if_pos (eL ▸ c)]
      have hpk2 := c_pick h1 hq1.1 hq1.2.1 (by omega) (i := 10) (by decide)
      rw [bind_cong h.tk ixS10] at hpk2
      have hs : T[p + 1]?.bind (sgi L) = T[p + 1]?.bind fun x => if x = 61 then some 1 else none := by
        cases T[p + 1]? with
        | none => rfl
        | some x =>
          show sgi L x = if x = 61 then some 1 else none
          unfold sgi
          by_cases z : x = 61
          · rw [if_pos z, if_pos z]
          · rw [if_neg z, if_pos c, if_neg z]
      have hE : T[p + 1]? = some 61 ∨ ∀ y, T[p + 1]?.bind (fun x => if x = 61 then some y else (none : Option Nat)) = none := by
        cases hT : T[p + 1]? with
        | none => exact Or.inr fun _ => rfl
        | some x =>
          by_cases z : x = 61
          · exact Or.inl (by rw [z])
          · exact Or.inr fun y => if_neg z
      rcases hE with hE | hE
      · have e1 : ∀ y, T[p + 1]?.bind (fun x => if x = 61 then some y else (none : Option Nat)) = some y := fun y => by
          rw [hE]
          rfl
        rw [e1 0] at hpk2
        rw [hpk2, bd_s, h1.1, ck_t]
        exact fin _ 1 (h1.at (by decide)) (f1.tr (RFr.I (by decide))) (hq1.at h.rs) (hs.trans (e1 1))
      · rw [hE 0] at hpk2
        rw [hpk2, bd_s, h1.1, ck_t]
        exact bad _ 1 (h1.at (by decide)) (f1.tr (RFr.I (by decide))) hq1.bad (hs.trans (hE 1))
    · rw [if_neg (eL ▸ c)]
      have hpk2 := c_pick h1 hq1.1 hq1.2.1 (by omega) (i := 2) (by decide)
      rw [bind_cong h.tk (ixS2 L (by omega))] at hpk2
      cases hS : T[p + 1]?.bind (sgi L) with
      | none =>
        rw [hS] at hpk2
        rw [hpk2, bd_s, h1.1, ck_t]
        exact bad _ 0 (h1.at (by decide)) (f1.tr (RFr.I (by decide))) hq1.bad hS
      | some S =>
        rw [hS] at hpk2
        rw [hpk2, bd_s, h1.1, ck_t]
        exact fin _ S (h1.at (by decide)) (f1.tr (RFr.I (by decide))) (hq1.at h.rs) hS
theorem c_rTf (h : RDR P r b s T) (hf : RF P r p c) (hc : c < 100) : ∃ P', hm_X3_readTest P r = some (0, P') ∧ RFr r s P P' ∧ RF P' r p (c + 1) := by
  have h1 : RDR (pIu P r 4 1) r b s T := h.at (by decide)
  have f1 : RFr r s P (pIu P r 4 1) := RFr.I (by decide)
  have h2 : RDR (pIu (pIu P r 4 1) r 4 1) r b s T := h1.at (by decide)
  obtain ⟨P', e, f, hf'⟩ := c_rt30f h2 hf.bad.bad hc (x := 0) (y := 0)
  refine ⟨P', ?_, f1.tr ((RFr.I (by decide)).tr f), hf'⟩
  unfold hm_X3_readTest
  rw [c_pickf h hf (by decide), bd_s, h.1, ck_t, lt_t, if_neg (by decide), c_pickf h1 hf.bad (by decide), bd_s, h1.1, ck_t]
  exact e
-- conditions
def POq (r b s g : Nat) (T : List Nat) (f : PS → Nat → Int32 → Option (Int32 × PS)) (dep : Nat) (ro : Nat → List Nat → RS) : Prop := (∀ P p o, RDR P r b s T → RQ P r s g p o → p ≤ T.length → o.length + 3 ≤ p → ∃ P', f P r (nI dep) = some (0, P') ∧ RFr r s P P' ∧ RXX P' r s g T p o.length (ro p o)) ∧ ∀ P q c, RDR P r b s T → RF P r q c → c < 100 → ∃ P', f P r (nI dep) = some (0, P') ∧ RFr r s P P' ∧ RF P' r q (c + 1)
variable {sO sC : PS → Nat → Int32 → Option (Int32 × PS)} {ro : Nat → List Nat → RS} {dep j : Nat}
theorem c_r85f (h : RDR P r b s T) (hf : RF P r q c) (w : Bool) (hc : c < 100) : ∃ P', hm_X3_readCondition_85 t0 sO sC r (nI w.toNat) P = some (0, P') ∧ RFr r s P P' ∧ RF P' r q (c + w.toNat) := by
  unfold hm_X3_readCondition_85
  cases w with
  | false =>
    rw [if_pos (show nI false.toNat = 0 from rfl)]
    exact ⟨P, rfl, RFr.rf, hf⟩
  | true =>
    rw [if_neg (show ¬ nI true.toNat = 0 by decide)]
    obtain ⟨P', e, f, hf'⟩ := c_putf h hf hc (x := 23) (y := 0)
    refine ⟨P', ?_, f, hf'⟩
    rw [e, bd_s, h.1, ck_t]
theorem c_r12f (h : RDR P r b s T) (hf : RF P r q c) (w : Bool) (hc : c < 100) {i fuel : Nat} (hi : i < 100) (hfu : 2 ≤ fuel) {x1 : Int32} : ∃ P', hm_X3_readCondition_12L t0 sO sC fuel r x1 (nI w.toNat) 1 (nI i) P = some (0, P') ∧ RFr r s P P' ∧ RF P' r q (c + w.toNat) := by
  obtain ⟨fu, rfl⟩ : ∃ fu, fuel = fu + 2 := ⟨fuel - 2, by omega⟩
  obtain ⟨P', e, f, hf'⟩ := c_r85f (t0 := t0) (sO := sO) (sC := sC) h hf w hc
  refine ⟨P', ?_, f, hf'⟩
  have hle : ¬ (100 : Int32) ≤ nI i := by rw [show (100 : Int32) = nI 100 from rfl, le_n (by decide) (by omega)]; omega
  show hm_X3_readCondition_12 _ _ _ _ _ _ _ _ _ _ = _
  unfold hm_X3_readCondition_12 hm_X3_readCondition_79
  rw [if_neg hle, if_neg (by decide), c_accf h hf (x := 38) (y := 38) (by decide) rfl, bd_s, h.1, ck_t, if_pos rfl, c_accf h hf (x := 124) (y := 124) (by decide) rfl, bd_s, h.1, ck_t, if_pos rfl, lt_t, lt_t]
  show hm_X3_readCondition_12 _ _ _ _ _ _ _ _ _ _ = _
  unfold hm_X3_readCondition_12
  by_cases z : (100 : Int32) ≤ nI i + 1
  · rw [if_pos z]
    exact e
  · rw [if_neg z, if_pos rfl]
    exact e
theorem c_r12 (hG : RG T ro j) (hO : POq r b s g T sO dep ro) : ∀ (f i fuel p : Nat) (w : Bool) (o : List Nat) (P : PS), RDR P r b s T → RQ P r s g p o → p ≤ T.length → T.length < f + p → i + 1 ≤ p → 110 < fuel + i → (orO w o).length + 3 ≤ p → ∃ P', hm_X3_readCondition_12L t0 sO sC fuel r (nI dep) (nI w.toNat) 1 (nI i) P = some (0, P') ∧ RFr r s P P' ∧ RXX P' r s g T p (orO w o).length (rdL T ro f p w o) := by
  intro f
  induction f with
  | zero => intro i fuel p w o P h hq hp hf; omega
  | succ f ih =>
    intro i fuel p w o P h hq hp hf hi hfu hlen
    have hT := h.tk.1
    obtain ⟨fu, rfl⟩ : ∃ fu, fuel = fu + 2 := ⟨fuel - 2, by omega⟩
    have hle : ¬ (100 : Int32) ≤ nI i := by rw [show (100 : Int32) = nI 100 from rfl, le_n (by decide) (by omega)]; omega
    have e1 : nI i + (1 : Int32) = nI (i + 1) := by rw [q1, nI_add]
    have hol := orO_len w o
    have hw1 := Bool.toNat_le w
    have ea := c_acc h hq.1 hq.2.1 hp (x := 38) (by decide) (y := 38) rfl
    have eb := c_acc h hq.1 hq.2.1 hp (x := 124) (by decide) (y := 124) rfl
    have h1 : RDR (pIu P r 3 (nI (p + 1))) r b s T := h.at (by decide)
    have f1 : RFr r s P (pIu P r 3 (nI (p + 1))) := RFr.I (by decide)
    have hq1 := hq.at (q := p + 1) h.rs
    show ∃ P', hm_X3_readCondition_12 _ _ _ _ _ _ _ _ _ _ = _ ∧ _
    unfold hm_X3_readCondition_12 hm_X3_readCondition_79 hm_X3_readCondition_67 rdL
    rw [if_neg hle, if_neg (by decide), ea]
    by_cases c1 : T[p]? = some 38
    · have hpl := (List.getElem?_eq_some_iff.mp c1).1
      rw [if_pos c1, if_pos c1, bd_s, h.1, ck_t, if_neg (by decide)]
      obtain ⟨P2, e2, f2, hx2⟩ := hO.1 _ (p + 1) o h1 hq1 (by omega) (by omega)
      have h2 := h1.fr f2
      rw [e2, bd_s, h1.1, ck_t]
      cases hr : ro (p + 1) o with
      | mk q1 x =>
        rw [hr] at hx2
        cases x with
        | none =>
          obtain ⟨a1, a2, c, a3, a4⟩ := hx2
          obtain ⟨P3, e3, f3, hf3⟩ := c_putf h2 a4 (by omega) (x := 22) (y := 0)
          have h3 := h2.fr f3
          obtain ⟨P4, e4, f4, hf4⟩ := c_r12f (t0 := t0) (sO := sO) (sC := sC) (x1 := nI dep) h3 hf3 w (by omega) (i := i + 1) (fuel := fu + 1) (by omega) (by omega)
          refine ⟨P4, ?_, f1.tr (f2.tr (f3.tr f4)), by omega, a2, _, ?_, hf4⟩
          · rw [e3, bd_s, h2.1, ck_t, lt_t, e1]
            exact e4
          · omega
        | some o1 =>
          obtain ⟨a1, a2, a3, -⟩ := hG _ _ _ _ hr
          obtain ⟨P3, e3, f3, hq3⟩ := c_put h2 hx2 (by omega) (x := 22) (y := 0) (t := 220) rfl (by omega) (x' := 22) (y' := 0) rfl rfl
          have h3 := h2.fr f3
          have hol2 := orO_len w (o1 ++ [220])
          rw [List.length_append, List.length_singleton] at hol2
          obtain ⟨P4, e4, f4, hx4⟩ := ih (i + 1) (fu + 1) q1 w (o1 ++ [220]) P3 h3 hq3 a2 (by omega) (by omega) (by omega) (by omega)
          refine ⟨P4, ?_, f1.tr (f2.tr (f3.tr f4)), ?_⟩
          · rw [e3, bd_s, h2.1, ck_t, lt_t, e1]
            exact e4
          · show RXX P4 r s g T p _ (rdL T ro f q1 w (o1 ++ [220]))
            cases hz : rdL T ro f q1 w (o1 ++ [220]) with
            | mk q2 y =>
              rw [hz] at hx4
              cases y with
              | some o2 => exact hx4
              | none =>
                obtain ⟨b1, b2, c, b3, b4⟩ := hx4
                exact ⟨by omega, b2, c, by omega, b4⟩
    · rw [if_neg c1, if_neg c1, bd_s, h.1, ck_t, if_pos rfl, eb]
      by_cases c2 : T[p]? = some 124
      · have hpl := (List.getElem?_eq_some_iff.mp c2).1
        rw [if_pos c2, if_pos c2, bd_s, ck_t, if_neg (by decide)]
        -- behind the or
        have go : ∀ P1 : PS, RDR P1 r b s T → RFr r s P P1 → RQ P1 r s g (p + 1) (orO w o) → ∃ P', bd (sO P1 r (nI dep)) (fun _ P_203 => ck (kk P1 r 4) (lt_ (nI i + 1) fun x4 => hm_X3_readCondition_12L t0 sO sC (fu + 1) r (nI dep) 1 1 x4 P_203)) = some (0, P') ∧ RFr r s P P' ∧ RXX P' r s g T p (orO w o).length (match ro (p + 1) (orO w o) with
            | (q, none) => (q, none)
            | (q, some o') => rdL T ro f q true o') := by
          intro P1 g1 k1 hk1
          obtain ⟨P2, e2, f2, hx2⟩ := hO.1 _ (p + 1) (orO w o) g1 hk1 (by omega) (by omega)
          have h2 := g1.fr f2
          rw [e2, bd_s, g1.1, ck_t, lt_t, e1]
          cases hr : ro (p + 1) (orO w o) with
          | mk q1 x =>
            rw [hr] at hx2
            cases x with
            | none =>
              obtain ⟨a1, a2, c, a3, a4⟩ := hx2
              obtain ⟨P4, e4, f4, hf4⟩ := c_r12f (t0 := t0) (sO := sO) (sC := sC) (x1 := nI dep) h2 a4 true (by omega) (i := i + 1) (fuel := fu + 1) (by omega) (by omega)
              have ht : true.toNat = 1 := rfl
              exact ⟨P4, e4, k1.tr (f2.tr f4), by omega, a2, _, by omega, hf4⟩
            | some o1 =>
              obtain ⟨a1, a2, a3, -⟩ := hG _ _ _ _ hr
              have hol2 := orO_len true o1
              have ht : true.toNat = 1 := rfl
              obtain ⟨P4, e4, f4, hx4⟩ := ih (i + 1) (fu + 1) q1 true o1 P2 h2 hx2 a2 (by omega) (by omega) (by omega) (by omega)
              refine ⟨P4, e4, k1.tr (f2.tr f4), ?_⟩
              show RXX P4 r s g T p _ (rdL T ro f q1 true o1)
              cases hz : rdL T ro f q1 true o1 with
              | mk q2 y =>
                rw [hz] at hx4
                cases y with
                | some o2 => exact hx4
                | none =>
                  obtain ⟨b1, b2, c, b3, b4⟩ := hx4
                  exact ⟨by omega, b2, c, by omega, b4⟩
        cases w with
        | false =>
          rw [if_pos (show nI false.toNat = 0 from rfl), lt_t]
          exact go _ h1 f1 hq1
        | true =>
          rw [if_neg (show ¬ nI true.toNat = 0 by decide)]
          have ht : true.toNat = 1 := rfl
          obtain ⟨P3, e3, f3, hq3⟩ := c_put h1 hq1 (by omega) (x := 23) (y := 0) (t := 230) rfl (by omega) (x' := 23) (y' := 0) rfl rfl
          rw [e3, bd_s, h1.1, ck_t, lt_t]
          exact go _ (h1.fr f3) (f1.tr f3) hq3
      · rw [if_neg c2, if_neg c2, bd_s, h.1, ck_t, if_pos rfl, lt_t, lt_t, e1]
        have fin : ∃ P', hm_X3_readCondition_85 t0 sO sC r (nI w.toNat) P = some (0, P') ∧ RFr r s P P' ∧ RQ P' r s g p (orO w o) := by
          unfold hm_X3_readCondition_85
          cases w with
          | false =>
            rw [if_pos (show nI false.toNat = 0 from rfl)]
            exact ⟨P, rfl, RFr.rf, hq⟩
          | true =>
            rw [if_neg (show ¬ nI true.toNat = 0 by decide)]
            have ht : true.toNat = 1 := rfl
            obtain ⟨P3, e3, f3, hq3⟩ := c_put h hq (by omega) (x := 23) (y := 0) (t := 230) rfl (by omega) (x' := 23) (y' := 0) rfl rfl
            refine ⟨P3, ?_, f3, hq3⟩
            rw [e3, bd_s, h.1, ck_t]
        obtain ⟨P', e, f, hq'⟩ := fin
        refine ⟨P', ?_, f, hq'⟩
        show hm_X3_readCondition_12 _ _ _ _ _ _ _ _ _ _ = _
        unfold hm_X3_readCondition_12
        by_cases z : (100 : Int32) ≤ nI (i + 1)
        · rw [if_pos z]
          exact e
        · rw [if_neg z, if_pos rfl]
          exact e
theorem c_rC (hG : RG T ro j) (hO : POq r b s g T sO dep ro) : POq r b s g T (hmb_X3_readCondition t0 sO sC) dep (rdC T ro) := by
  refine ⟨fun P p o h hq hp ho => ?_, fun P q c h hf hc => ?_⟩
  · have hT := h.tk.1
    obtain ⟨P1, e1, f1, hx1⟩ := hO.1 P p o h hq hp ho
    have h1 := h.fr f1
    unfold hmb_X3_readCondition rdC
    rw [lt_t, e1, bd_s, h.1, ck_t, lt_t, lt_t]
    cases hr : ro p o with
    | mk q1 x =>
      rw [hr] at hx1
      cases x with
      | none =>
        obtain ⟨a1, a2, c, a3, a4⟩ := hx1
        obtain ⟨P4, e4, f4, hf4⟩ := c_r12f (t0 := t0) (sO := sO) (sC := sC) (x1 := nI dep) h1 a4 false (by omega) (i := 0) (fuel := 4000) (by omega) (by omega)
        exact ⟨P4, e4, f1.tr f4, a1, a2, _, a3, hf4⟩
      | some o1 =>
        obtain ⟨a1, a2, a3, -⟩ := hG _ _ _ _ hr
        obtain ⟨P4, e4, f4, hx4⟩ := c_r12 (t0 := t0) (sC := sC) hG hO 101 0 4000 q1 false o1 P1 h1 hx1 a2 (by omega) (by omega) (by omega) (by show o1.length + 3 ≤ q1; omega)
        refine ⟨P4, e4, f1.tr f4, ?_⟩
        show RXX P4 r s g T p _ (rdL T ro 101 q1 false o1)
        have ho1 : (orO false o1).length = o1.length := rfl
        cases hz : rdL T ro 101 q1 false o1 with
        | mk q2 y =>
          rw [hz] at hx4
          cases y with
          | some o2 => exact hx4
          | none =>
            obtain ⟨b1, b2, c, b3, b4⟩ := hx4
            exact ⟨by omega, b2, c, by omega, b4⟩
  · obtain ⟨P1, e1, f1, hf1⟩ := hO.2 P q c h hf hc
    have h1 := h.fr f1
    have hc1 : c + 1 < 100 ∨ c + 1 = 100 := by omega
    unfold hmb_X3_readCondition
    rw [lt_t, e1, bd_s, h.1, ck_t, lt_t, lt_t]
    have key : ∃ P', hm_X3_readCondition_12L t0 sO sC 4000 r (nI dep) (nI false.toNat) 1 (nI 0) P1 = some (0, P') ∧ RFr r s P1 P' ∧ RF P' r q (c + 1 + false.toNat) := by
      have hle : ¬ (100 : Int32) ≤ nI 0 := by decide
      refine ⟨P1, ?_, RFr.rf, hf1⟩
      show hm_X3_readCondition_12 _ _ _ _ _ _ _ _ _ _ = _
      unfold hm_X3_readCondition_12 hm_X3_readCondition_79
      rw [if_neg hle, if_neg (by decide), c_accf h1 hf1 (x := 38) (y := 38) (by decide) rfl, bd_s, h1.1, ck_t, if_pos rfl, c_accf h1 hf1 (x := 124) (y := 124) (by decide) rfl, bd_s, h1.1, ck_t, if_pos rfl, lt_t, lt_t]
      show hm_X3_readCondition_12 _ _ _ _ _ _ _ _ _ _ = _
      unfold hm_X3_readCondition_12 hm_X3_readCondition_85
      rw [if_neg (show ¬ (100 : Int32) ≤ nI 0 + 1 by decide), if_pos rfl, if_pos (show nI false.toNat = 0 from rfl)]
    obtain ⟨P4, e4, f4, hf4⟩ := key
    exact ⟨P4, e4, f1.tr f4, hf4⟩
theorem c_rO : ∀ (j fuel : Nat), 2 * j + 1 ≤ fuel → j ≤ 4 → POq r b s g T (hm_X3_rd t0 fuel true) (4 - j) (rdO T j) := by
  intro j
  induction j with
  | zero =>
    intro fuel hf hj
    obtain ⟨fu, rfl⟩ : ∃ fu, fuel = fu + 1 := ⟨fuel - 1, by omega⟩
    have e : ∀ P, hm_X3_rd t0 (fu + 1) true P r (nI (4 - 0)) = bd (hm_X3_readTest P r) (fun _ P_101 => ck (kk P r 4) (some ((0 : Int32), P_101))) := fun P => by
      show hmb_X3_readOne _ _ _ _ _ _ = _
      unfold hmb_X3_readOne hm_X3_readOne_31 hm_X3_readOne_61
      rw [if_pos (by decide), if_pos (by decide)]
    refine ⟨fun P p o h hq hp ho => ?_, fun P q c h hf hc => ?_⟩
    · have hT := h.tk.1
      obtain ⟨P1, e1, f1, hx1⟩ := c_rT h hq hp (by omega)
      refine ⟨P1, ?_, f1, hx1⟩
      rw [e, e1, bd_s, h.1, ck_t]
    · obtain ⟨P1, e1, f1, hf1⟩ := c_rTf h hf hc
      refine ⟨P1, ?_, f1, hf1⟩
      rw [e, e1, bd_s, h.1, ck_t]
  | succ j ih =>
    intro fuel hf hj
    obtain ⟨fu, rfl⟩ : ∃ fu, fuel = fu + 3 := ⟨fuel - 3, by omega⟩
    have hO2 := ih (fu + 2) (by omega) (by omega)
    have hO1 := ih (fu + 1) (by omega) (by omega)
    have hC : POq r b s g T (hm_X3_rd t0 (fu + 2) false) (4 - j) (rdC T (rdO T j)) := c_rC (sC := hm_X3_rd t0 (fu + 1) false) (rdO_g j) hO1
    have hd : ¬ (4 : Int32) ≤ nI (4 - (j + 1)) := by rw [q4, le_n (by decide) (by omega)]; omega
    have ed : nI (4 - (j + 1)) + (1 : Int32) = nI (4 - j) := by rw [q1, nI_add]; congr 1; omega
    refine ⟨fun P p o h hq hp ho => ?_, fun P q c h hf hc => ?_⟩
    · have hT := h.tk.1
      have ea := c_acc h hq.1 hq.2.1 hp (x := 33) (by decide) (y := 33) rfl
      have eb := c_acc h hq.1 hq.2.1 hp (x := 40) (by decide) (y := 40) rfl
      have h1 : RDR (pIu P r 3 (nI (p + 1))) r b s T := h.at (by decide)
      have f1 : RFr r s P (pIu P r 3 (nI (p + 1))) := RFr.I (by decide)
      have hq1 := hq.at (q := p + 1) h.rs
      show ∃ P', hmb_X3_readOne _ _ _ _ _ _ = _ ∧ _
      unfold hmb_X3_readOne hm_X3_readOne_31 hm_X3_readOne_61 rdO
      rw [if_neg hd, ea]
      by_cases c1 : T[p]? = some 33
      · have hpl := (List.getElem?_eq_some_iff.mp c1).1
        rw [if_pos c1, if_pos c1, bd_s, h.1, ck_t, if_neg (by decide), ed]
        obtain ⟨P2, e2, f2, hx2⟩ := hO2.1 _ (p + 1) o h1 hq1 (by omega) (by omega)
        have h2 := h1.fr f2
        rw [e2, bd_s, h1.1, ck_t]
        cases hr : rdO T j (p + 1) o with
        | mk q1 x =>
          rw [hr] at hx2
          cases x with
          | none =>
            obtain ⟨a1, a2, c, a3, a4⟩ := hx2
            obtain ⟨P3, e3, f3, hf3⟩ := c_putf h2 a4 (by omega) (x := 21) (y := 0)
            refine ⟨P3, ?_, f1.tr (f2.tr f3), by omega, a2, _, by omega, hf3⟩
            rw [e3, bd_s, h2.1, ck_t]
          | some o1 =>
            obtain ⟨a1, a2, a3, -⟩ := rdO_g j _ _ _ _ hr
            obtain ⟨P3, e3, f3, hq3⟩ := c_put h2 hx2 (by omega) (x := 21) (y := 0) (t := 210) rfl (by omega) (x' := 21) (y' := 0) rfl rfl
            refine ⟨P3, ?_, f1.tr (f2.tr f3), hq3⟩
            rw [e3, bd_s, h2.1, ck_t]
      · rw [if_neg c1, if_neg c1, bd_s, h.1, ck_t, if_pos rfl, if_neg hd, eb]
        by_cases c2 : T[p]? = some 40
        · have hpl := (List.getElem?_eq_some_iff.mp c2).1
          rw [if_pos c2, if_pos c2, bd_s, ck_t, if_neg (by decide), ed]
          obtain ⟨P2, e2, f2, hx2⟩ := hC.1 _ (p + 1) o h1 hq1 (by omega) (by omega)
          have h2 := h1.fr f2
          rw [e2, bd_s, h1.1, ck_t]
          cases hr : rdC T (rdO T j) (p + 1) o with
          | mk q1 x =>
            rw [hr] at hx2
            cases x with
            | none =>
              obtain ⟨a1, a2, c, a3, a4⟩ := hx2
              obtain ⟨P3, e3, f3, hf3⟩ := c_exf (t0 := t0) h2 a4 (i := 9) (by decide)
              refine ⟨P3, ?_, f1.tr (f2.tr f3), by omega, a2, c, by omega, hf3⟩
              rw [e3, bd_s, h2.1, ck_t]
            | some o1 =>
              obtain ⟨a1, a2, a3, -⟩ := rdC_g (rdO_g j) hr
              obtain ⟨P3, e3, f3, hx3⟩ := c_ex (t0 := t0) h2 hx2 a2 (i := 9) (by decide)
              refine ⟨P3, ?_, f1.tr (f2.tr f3), ?_⟩
              · rw [e3, bd_s, h2.1, ck_t]
              · have hw : rdW T (lwd 9) q1 = if T[q1]? = some 41 then (q1 + 1, true) else (q1, false) := by
                  show (if T[q1]? = some 41 then rdW T [] (q1 + 1) else _) = _
                  rfl
                rw [hw] at hx3
                show RXX P3 r s g T p o.length (if T[q1]? = some 41 then (q1 + 1, some o1) else (q1, none))
                by_cases z : T[q1]? = some 41
                · rw [if_pos z] at hx3 ⊢
                  exact hx3
                · rw [if_neg z] at hx3 ⊢
                  exact ⟨by omega, a2, o1.length, by omega, hx3⟩
        · rw [if_neg c2, if_neg c2, bd_s, h.1, ck_t, if_pos rfl]
          obtain ⟨P1, e1, f1, hx1⟩ := c_rT h hq hp (by omega)
          refine ⟨P1, ?_, f1, hx1⟩
          rw [e1, bd_s, ck_t]
    · obtain ⟨P1, e1, f1, hf1⟩ := c_rTf h hf hc
      refine ⟨P1, ?_, f1, hf1⟩
      show hmb_X3_readOne _ _ _ _ _ _ = _
      unfold hmb_X3_readOne hm_X3_readOne_31 hm_X3_readOne_61
      rw [if_neg hd, c_accf h hf (x := 33) (y := 33) (by decide) rfl, bd_s, h.1, ck_t, if_pos rfl, if_neg hd, c_accf h hf (x := 40) (y := 40) (by decide) rfl, bd_s, h.1, ck_t, if_pos rfl, e1, bd_s, ck_t]
theorem c_rdc : POq r b s g T (hm_X3_rd t0 16 false) 0 (rdC T (rdO T 4)) := c_rC (sC := hm_X3_rd t0 15 false) (rdO_g 4) (c_rO 4 15 (by decide) (by decide))
end PCR2
