-- the class: a rule
section PCR6
variable {t0 : TS} {ad : DD} {A : AA} {P P' P'' P0 P1 : PS} {r b s g p q c z n l nu : Nat} {T o : List Nat} {X Y : Nat → Prop} {z0 : Nat}
theorem fc_lo {k : Nat} : z0 + 2 ≤ fcC z0 k := by unfold fcC; split <;> omega
theorem RUI.six {acc : List (Nat × Nat × List Nat)} {v : Int32} (h : RUI t0 P z0 nu l acc) : RUI t0 (pIu P z0 6 v) z0 nu l acc := by
  obtain ⟨u1, u2, u3, u4, u5, u6, u7, u8, u9, u10⟩ := h
  have e : ∀ k, k ≠ 6 → pI (pIu P z0 6 v) z0 k = pI P z0 k := fun k hk => by rw [pIu_eq, upd, if_neg hk]
  have e2 : ∀ a, a ≠ z0 → pI (pIu P z0 6 v) a = pI P a := fun a ha => pIu_ne ha
  obtain ⟨⟨l1, l2, l3, l4, l5⟩, l6⟩ := u8
  refine ⟨u1, by rw [e 0 (by decide)]; exact u2, by rw [e 1 (by decide)]; exact u3, by rw [e 3 (by decide)]; exact u4, by rw [e 4 (by decide)]; exact u5, by rw [e 5 (by decide)]; exact u6, u7, ⟨⟨l1, l2, by rw [e2 _ (by omega)]; exact l3, l4, l5⟩, l6⟩, u9, fun k cl hk => ?_⟩
  obtain ⟨c1, c2, c3, c4, c5, c6, c7⟩ := u10 k cl hk
  have := fc_lo (z0 := z0) (k := k)
  exact ⟨c1, c2, by rw [e2 _ (by omega)]; exact c3, by rw [e2 _ (by omega)]; exact c4, c5, c6, fun i t hi => by rw [e2 _ (by omega)]; exact c7 i t hi⟩
theorem RUI.rfr {acc : List (Nat × Nat × List Nat)} (h : RUI t0 P z0 nu l acc) (f : RFr r s P P') (hr : r < z0) (hs : s < z0) : RUI t0 P' z0 nu l acc := by
  obtain ⟨u1, u2, u3, u4, u5, u6, u7, u8, u9, u10⟩ := h
  have e2 : ∀ a, z0 ≤ a → pI P' a = pI P a := fun a ha => f.2.2.2.2.2.2.1 a (by omega) (by omega)
  have eR := f.1
  have eN := f.2.2.1
  obtain ⟨⟨l1, l2, l3, l4, l5⟩, l6⟩ := u8
  have e0 := e2 z0 (Nat.le_refl _)
  refine ⟨(f.k2 _ _).trans u1, by rw [e0]; exact u2, by rw [e0]; exact u3, by rw [e0]; exact u4, by rw [e0]; exact u5, by rw [e0]; exact u6, by rw [eR]; exact u7, ⟨⟨(f.k2 _ _).trans l1, by rw [eR]; exact l2, by rw [e2 _ (by omega)]; exact l3, l4, ?_⟩, by rw [eR]; exact l6⟩, f.2.2.2.2.2.1.trans u9, fun k cl hk => ?_⟩
  · rcases l5 with w | w
    · exact Or.inl ⟨(f.k2 _ _).trans w.1, by rw [eN]; exact w.2⟩
    · exact Or.inr w
  · obtain ⟨c1, c2, c3, c4, c5, c6, c7⟩ := u10 k cl hk
    have := fc_lo (z0 := z0) (k := k)
    exact ⟨(f.k2 _ _).trans c1, (f.k2 _ _).trans c2, by rw [e2 _ (by omega)]; exact c3, by rw [e2 _ (by omega)]; exact c4, by rw [eR]; exact c5, by rw [eN]; exact c6, fun i t hi => by rw [e2 _ (by omega)]; exact c7 i t hi⟩
theorem SAM.six (h : SAM t0 z0 X Y P P') {k : Nat} {v : Int32} : SAM t0 z0 X Y P (pIu P' z0 k v) := h.aI (fun q => absurd q (Nat.lt_irrefl _))
theorem RDR.six (h : RDR P r b s T) (hr : r < z0) (hb : b < z0) {k : Nat} {v : Int32} : RDR (pIu P z0 k v) r b s T := by
  obtain ⟨d1, d2, d3, d4, d5, d6, d7, d8, d9, d10, d11, d12, d13⟩ := h
  exact ⟨d1, d2, d3, d4, d5, d6, d7, by rw [pIu_ne (by omega)]; exact d8, fun i c hc => by rw [pIu_ne (by omega)]; exact d9 i c hc, d10, d11, d12, d13⟩
theorem c_31z {fuel : Nat} {x5 : Int32} (h : RDR P r b s T) (kz : kk P z0 5 = true) : hm_X3_readRule_31L t0 (fuel + 1) r z0 0 x5 P = hm_X3_readRule_82 t0 r z0 P := by
  show hm_X3_readRule_31 _ _ _ _ _ _ _ = _
  unfold hm_X3_readRule_31
  by_cases c : (6 : Int32) ≤ x5
  · rw [if_pos c]
  · rw [if_neg c, if_pos rfl]
theorem c_82 (h : RDR P r b s T) (kz : kk P z0 5 = true) (hr : r < z0) : hm_X3_readRule_82 t0 r z0 P = if pI P r 4 = 0 ∧ pI P r 2 ≤ pI P r 3 then some (some z0, pIu P z0 6 (pI P r 6)) else some (none, pIu P z0 6 (pI P r 6)) := by
  have hne : r ≠ z0 := by omega
  unfold hm_X3_readRule_82 hm_X3_readRule_108
  rw [h.1, ck_t, kz, ck_t]
  simp only [lt_t]
  rw [pIu_ne hne]
  by_cases c1 : pI P r 4 = 0
  · rw [if_pos c1]
    by_cases c2 : pI P r 2 ≤ pI P r 3
    · rw [if_pos c2, if_pos ⟨c1, c2⟩]
    · rw [if_neg c2, if_neg (fun w => c2 w.2)]
  · rw [if_neg c1, if_neg (fun w => c1 w.1)]
theorem c_rlp (hrz : r < z0) (hbz : b < z0) (hsz : s < z0) (htz : t0.1 < z0) : ∀ (m n fuel p : Nat) (acc : List (Nat × Nat × List Nat)) (P : PS), n + m = 6 → 0 < m → acc.length = n → RUI t0 P z0 nu l acc → RDR P r b s T → CZ t0 P → RB P r (msk (fasB acc) 10) p → p ≤ T.length → m + 1 < fuel → ∃ P' ro, hm_X3_readRule_31L t0 fuel r z0 1 (nI n) P = some (ro, P') ∧ SAM t0 z0 (fun a => a = r ∨ a = s) (fun _ => False) P P' ∧ RDR P' r b s T ∧ match rdR T m p acc with
    | (_, some cs) => ro = some z0 ∧ RUI t0 P' z0 nu l cs ∧ pI P' z0 6 = nI (msk (fasB cs) 10)
    | (q, none) => ro = none ∧ pI P' r 3 = nI q := by
  intro m
  induction m with
  | zero => intro n fuel p acc P h1 h2; omega
  | succ m ih =>
    intro n fuel p acc P hnm hm0 hlen hU h hz hq hp hf
    obtain ⟨fu, rfl⟩ : ∃ fu, fuel = fu + 2 := ⟨fuel - 2, by omega⟩
    have hT := h.tk.1
    have hne : r ≠ z0 := by omega
    have hle : ¬ (6 : Int32) ≤ nI n := by rw [show (6 : Int32) = nI 6 from rfl, le_n (by decide) (by omega)]; omega
    have e1 : nI n + (1 : Int32) = nI (n + 1) := by rw [q1, nI_add]
    obtain ⟨P1, P2, er, k1, ea, kz1, s2, h2, kz2, hx⟩ := c_step hU h hz hrz hbz hsz htz hq hp (by omega)
    -- what stands after the clause
    have cont : ∀ R, (if (6 : Int32) ≤ nI (n + 1) then hm_X3_readRule_31L t0 (fu + 1) r z0 0 (nI (n + 1)) P2 else bd (hm_X3_accept P2 r (59 : Int32)) (fun r_516 P_515 => ck (kk P2 r 4) (if r_516 = (0 : Int32) then hm_X3_readRule_31L t0 (fu + 1) r z0 0 (nI (n + 1)) P_515 else hm_X3_readRule_31L t0 (fu + 1) r z0 1 (nI (n + 1)) P_515))) = R → hm_X3_readRule_31L t0 (fu + 2) r z0 1 (nI n) P = R := by
      intro R hR
      rw [← hR]
      show hm_X3_readRule_31 _ _ _ _ _ _ _ = _
      unfold hm_X3_readRule_31 hm_X3_readRule_73 hm_X3_readRule_74
      rw [if_neg hle, if_neg (by decide), er, bd_s, h.1, ck_t, nn_s, ea, bd_s, kz1, ck_t, e1]
      rfl
    have h6 : ((6 : Int32) ≤ nI (n + 1)) = (m = 0) := by
      rw [show (6 : Int32) = nI 6 from rfl, le_n (by decide) (by omega)]
      apply propext
      omega
    -- an end here
    have stop : ∀ Q : PS, RDR Q r b s T → kk Q z0 5 = true → hm_X3_readRule_31L t0 (fu + 1) r z0 0 (nI (n + 1)) Q = if pI Q r 4 = 0 ∧ pI Q r 2 ≤ pI Q r 3 then some (some z0, pIu Q z0 6 (pI Q r 6)) else some (none, pIu Q z0 6 (pI Q r 6)) := fun Q hQ kQ => by
      rw [c_31z hQ kQ, c_82 hQ kQ hrz]
    unfold rdR
    cases hr : rdK T p with
    | mk qq x =>
      rw [hr] at hx
      cases x with
      | none =>
        obtain ⟨x1, x2, x3⟩ := hx
        have hst := stop P2 h2 kz2
        rw [if_neg (fun w => by rw [x3] at w; exact absurd w.1 (by decide))] at hst
        obtain ⟨cc, hcc⟩ := nI_any (pI P2 r 5)
        have hf2 : RF P2 r qq cc := ⟨x2, x3, hcc⟩
        refine ⟨pIu P2 z0 6 (pI P2 r 6), none, cont _ ?_, s2.six, h2.six hrz hbz, rfl, by rw [pIu_ne hne]; exact x2⟩
        by_cases c : m = 0
        · rw [if_pos (h6 ▸ c)]
          exact hst
        · rw [if_neg (h6 ▸ c), c_accf h2 hf2 (x := 59) (y := 59) (by decide) rfl, bd_s, h2.1, ck_t, if_pos rfl]
          exact hst
      | some cl =>
        obtain ⟨x1, x2⟩ := hx
        obtain ⟨y1, y2, hcl, y4⟩ := rdK_s hT hr hp
        rw [← fas_app hcl.2.1] at x1
        have ea2 := c_acc h2 x1.1 x1.2.1 y2 (x := 59) (by decide) (y := 59) rfl
        have hst := stop P2 h2 kz2
        have h2T : pI P2 r 2 = nI T.length := h2.2.2.2.2.2.2.2.1
        have hlt : (nI T.length ≤ nI qq) = (T.length ≤ qq) := le_n (by omega) (by omega)
        simp only
        by_cases ce : qq = T.length
        · rw [if_pos ce]
          rw [if_pos ⟨x1.2.1, by rw [h2T, x1.1, hlt]; omega⟩] at hst
          refine ⟨pIu P2 z0 6 (pI P2 r 6), some z0, cont _ ?_, s2.six, h2.six hrz hbz, rfl, x2.six, ?_⟩
          · by_cases c : m = 0
            · rw [if_pos (h6 ▸ c)]
              exact hst
            · have hnx : ¬ T[qq]? = some 59 := by
                rw [List.getElem?_eq_none (by omega)]
                intro w; cases w
              rw [if_neg (h6 ▸ c), ea2, if_neg hnx, bd_s, h2.1, ck_t, if_pos rfl]
              exact hst
          · rw [pIu_eq, upd, if_pos rfl]
            exact x1.2.2
        · rw [if_neg ce]
          rw [if_neg (fun w => by rw [h2T, x1.1, hlt] at w; omega)] at hst
          by_cases c : m = 0
          · rw [if_pos c]
            refine ⟨pIu P2 z0 6 (pI P2 r 6), none, cont _ ?_, s2.six, h2.six hrz hbz, rfl, by rw [pIu_ne hne]; exact x1.1⟩
            rw [if_pos (h6 ▸ c)]
            exact hst
          · rw [if_neg c]
            by_cases c59 : T[qq]? = some 59
            · rw [if_pos c59]
              have hpl := (List.getElem?_eq_some_iff.mp c59).1
              have f3 : RFr r s P2 (pIu P2 r 3 (nI (qq + 1))) := RFr.I (by decide)
              have s3 := f3.sam (z0 := z0) s2.cz
              obtain ⟨P', ro, e4, s4, h4, hx4⟩ := ih (n + 1) (fu + 1) (qq + 1) (acc ++ [cl]) (pIu P2 r 3 (nI (qq + 1))) (by omega) (by omega) (by rw [List.length_append, List.length_singleton, hlen]) (x2.rfr f3 hrz hsz) (h2.fr f3) s3.cz x1.at (by omega) (by omega)
              refine ⟨P', ro, cont _ ?_, s2.tr (s3.tr s4), h4, hx4⟩
              rw [if_neg (h6 ▸ c), ea2, if_pos c59, bd_s, h2.1, ck_t, if_neg (by decide)]
              exact e4
            · rw [if_neg c59]
              refine ⟨pIu P2 z0 6 (pI P2 r 6), none, cont _ ?_, s2.six, h2.six hrz hbz, rfl, by rw [pIu_ne hne]; exact x1.1⟩
              rw [if_neg (h6 ▸ c), ea2, if_neg c59, bd_s, h2.1, ck_t, if_pos rfl]
              exact hst
theorem c_rRu (h : RDR P r b s T) (hz : CZ t0 P) : ∃ P' ro, hm_X3_readRule t0 P r (nI nu) (nI l) = some (ro, P') ∧ SAM t0 (pZ P) (fun a => a = r ∨ a = s) (fun _ => False) P P' ∧ RDR P' r b s T ∧ match rdR T 6 0 [] with
    | (_, some cs) => ro = some (pZ P) ∧ RUI t0 P' (pZ P) nu l cs ∧ pI P' (pZ P) 6 = nI (msk (fasB cs) 10)
    | (q, none) => ro = none ∧ pI P' r 3 = nI q := by
  have hrl := (kk_lt hz h.1).1
  have hbl := (kk_lt hz h.2.1).1
  have hsl := (kk_lt hz h.2.2.1).1
  have htl := hz.2.1
  have f3 : RFr r s P (pIu (pIu (pIu P r 3 0) r 4 0) r 6 0) := (RFr.I (by decide)).tr ((RFr.I (by decide)).tr (RFr.I (by decide)))
  have h3 := h.fr f3
  have s3 := f3.sam (z0 := pZ P) hz
  have r3 : pI (pIu (pIu (pIu P r 3 0) r 4 0) r 6 0) r 3 = 0 ∧ pI (pIu (pIu (pIu P r 3 0) r 4 0) r 6 0) r 4 = 0 ∧ pI (pIu (pIu (pIu P r 3 0) r 4 0) r 6 0) r 6 = 0 := by
    refine ⟨?_, ?_, ?_⟩ <;> simp [pIu_eq, upd]
  have k3 : kk (pIu P r 3 0) r 4 = true := h.1
  have k4 : kk (pIu (pIu P r 3 0) r 4 0) r 4 = true := h.1
  have z3 : pZ (pIu (pIu (pIu P r 3 0) r 4 0) r 6 0) = pZ P := f3.2.2.2.2.2.1
  unfold hm_X3_readRule
  rw [h.1, ck_t]
  simp only [lt_t]
  generalize pIu (pIu (pIu P r 3 0) r 4 0) r 6 0 = P3 at *
  have s4 : SAM t0 (pZ P) (fun a => a = r ∨ a = s) (fun _ => False) P (pNew P3 5 0) := s3.aN (by rw [z3]; exact Nat.le_refl _)
  have kN : kk (pNew P3 5 0) (pZ P3) 5 = true := pNew_kz
  have iN : pI (pNew P3 5 0) (pZ P3) = fun _ => 0 := pNew_Iz
  have zN : pZ (pNew P3 5 0) = pZ P3 + 1 := pNew_Z
  have rN : pI (pNew P3 5 0) r = pI P3 r := pNew_I (by omega)
  rw [z3] at kN iN zN ⊢
  generalize pNew P3 5 0 = N at *
  obtain ⟨P5, e5, s5, i0, i1, i3, r2, lw, z5⟩ := c_rinit (a1 := nI nu) (a2 := nI l) s4.cz kN (fun k hk => by rw [iN])
  have s5' : SAM t0 (pZ P) (fun a => a = r ∨ a = s) (fun _ => False) N P5 := ⟨fun a x _ => s5.1 a x id, s5.2⟩
  have s45 := s4.tr s5'
  have hr5 : pI P5 r = pI P3 r := (s5.1 r hrl id).trans rN
  have h5 : RDR P5 r b s T := by
    obtain ⟨d1, d2, d3, d4, d5, d6, d7, d8, d9, d10, d11, d12, d13⟩ := h
    exact ⟨s45.kp d1, s45.kp d2, s45.kp d3, by rw [s45.2.1 r hrl id]; exact d4, by rw [s45.2.1 r hrl id]; exact d5, by rw [s45.2.2.2.1 b hbl]; exact d6, by rw [s45.2.2.2.1 s hsl]; exact d7, by rw [hr5]; exact h3.2.2.2.2.2.2.2.1, fun i c hc => by rw [s45.1 b hbl (fun w => w.elim (fun y => d10 y.symm) d12)]; exact d9 i c hc, d10, d11, d12, d13⟩
  rw [zN] at r2 lw z5
  have hU : RUI t0 P5 (pZ P) nu l [] := ⟨s5.kp kN, i0, i1, i3 3 (by decide), i3 4 (by decide), i3 5 (by decide), r2, ⟨lw, fun k hk => absurd hk (Nat.not_lt_zero _)⟩, by rw [z5]; rfl, fun k cl hk => by cases hk⟩
  have hq5 : RB P5 r (msk (fasB []) 10) 0 := by
    have : msk (fasB []) 10 = 0 := by decide
    rw [this]
    exact ⟨by rw [hr5]; exact r3.1, by rw [hr5]; exact r3.2.1, by rw [hr5]; exact r3.2.2⟩
  obtain ⟨P', ro, e6, s6, h6, hx⟩ := c_rlp hrl hbl hsl htl 6 0 8 0 [] P5 (by decide) (by decide) rfl hU h5 s45.cz hq5 (Nat.zero_le _) (by decide)
  refine ⟨P', ro, ?_, s45.tr s6, h6, hx⟩
  rw [e5, bd_s]
  exact e6
end PCR6
