section PMQP
variable {S S' : MS} {T : List Nat} {c g R : Nat}
theorem whl_len : ∀ {st o : List Nat}, (whl st o).1.length + (whl st o).2.length = st.length + o.length
  | [], o => rfl
  | x :: st, o => by
    unfold whl
    split
    · rw [whl_len, List.length_append]; simp; omega
    · rfl
theorem stl_len {s : Nat} : ∀ {st o : List Nat}, (stl s st o).1.length + (stl s st o).2.length = st.length + o.length
  | [], o => rfl
  | x :: st, o => by
    unfold stl
    split
    · rw [stl_len, List.length_append]; simp; omega
    · rfl
theorem whl_le : ∀ {st o : List Nat}, (whl st o).1.length ≤ st.length
  | [], o => Nat.le_refl _
  | x :: st, o => by
    unfold whl
    split
    · have := whl_le (st := st) (o := o ++ [210]); simp; omega
    · exact Nat.le_refl _
theorem stl_le {s : Nat} : ∀ {st o : List Nat}, (stl s st o).1.length ≤ st.length
  | [], o => Nat.le_refl _
  | x :: st, o => by
    unfold stl
    split
    · have := stl_le (s := s) (st := st) (o := o ++ [tok x]); simp; omega
    · exact Nat.le_refl _
theorem iN {α : Type} {a b : α} : (if nI (Option.isSome (none : Option Nat)).toNat = nI 0 then a else b) = a := if_pos rfl
theorem iS {α : Type} {a b : α} {d : Nat} : (if nI (Option.isSome (some d)).toNat = nI 0 then a else b) = b := if_neg (by show ¬ nI 1 = nI 0; decide)
theorem tkv : ∀ L, L < 7 → ∀ s, s < 3 → (1 < L → s = 1) → ∀ d, d < 10 → eM (10 * (3 * L + s) + d) = 1000 * ltr (3 * L + 1) + 10 * (60 + s) + d := by decide +kernel
theorem m_98 (hT : tOK T) {p f L s x : Nat} {o st : List Nat} (hL : L < 7) (hx : ltr (3 * L + 1) = x) (hs : s < 3) (hs2 : 1 < L → s = 1) (h : RPp T p f o st S) (hp : p < T.length) (hb : f + o.length + st.length ≤ 900 + p) (hst : st.length ≤ 100) (hg : g ≤ f) : match T[p + 1]?.bind dgi with
    | none => ∃ S', mm_takesTest_98 (nI x) (nI (60 + s)) S = some (0, S') ∧ PX T (p + 1) S' ∧ FRg c g R S S'
    | some d => ∃ S', mm_takesTest_98 (nI x) (nI (60 + s)) S = some (1, S') ∧ RPp T (p + 2) f (whl st (o ++ [10 * (3 * L + s) + d])).2 (whl st (o ++ [10 * (3 * L + s) + d])).1 S' ∧ FRg c g R S S' := by
  have h1 := h.at (q := p + 1)
  have f1 : FRg c g R S (mP S 11 (nI (p + 1))) := FRg.mP (by decide)
  have hT1 := hT.1
  unfold mm_takesTest_98
  rw [h.1.2.2, q1, nI_add, lt_t, m_nx hT h1.1 (by omega), bd_s, lt_t, show (48 : Int32) = nI 48 from rfl, show (0 : Int32) = nI 0 from rfl, show (9 : Int32) = nI 9 from rfl, m_in' _ 9 _ (by decide), bd_s, nxI_dg hT]
  cases e : T[p + 1]?.bind dgi with
  | none =>
    rw [iN]
    exact ⟨_, rfl, h1.1, f1⟩
  | some d =>
    obtain ⟨y, k1, k2, k3⟩ := bind_s e
    obtain ⟨hd, hy⟩ := dgi_lt k2
    have hdv : nxI T (p + 1) - nI 48 = nI d := (ix_s (by decide) ((nxI_dg hT).trans e)).2
    rw [iS, mP_s, nI_add, lt_t, hdv]
    have h2 : RPp T (p + 1 + 1) f o st (mP (mP S 11 (nI (p + 1))) 11 (nI (p + 1 + 1))) := h1.at
    obtain ⟨S1, e1, h3, f3⟩ := m_put (t := 10 * (3 * L + s) + d) (c := c) (g := g) (R := R) h2 (by omega) hg
    have ev : (1000 : Int32) * nI x + (10 : Int32) * nI (60 + s) + nI d = nI (eM (10 * (3 * L + s) + d)) := by
      rw [tkv L hL s hs hs2 d hd, hx, q1000, q10, pk_mul, pk_mul, nI_add, nI_add]
    obtain ⟨S2, e2, h4, f4⟩ := m_whl (c := c) (g := g) (R := R) hg st (o ++ [10 * (3 * L + s) + d]) S1 4000 h3 (by simp; omega) (by omega) (by omega)
    have e2' : mm_whole S1 = some (0, S2) := e2
    rw [ev, e1, bd_s, e2', bd_s]
    exact ⟨S2, rfl, h4, f1.tr ((FRg.mP (by decide)).tr (f3.tr f4))⟩
theorem m_59 (hT : tOK T) {p f L x : Nat} {o st : List Nat} {x2 : Int32} (hL : L < 7) (hx : ltr (3 * L + 1) = x) (h2 : (x2 = 0) = (1 < L)) (h : RPp T p f o st S) (hp : p < T.length) (hb : f + o.length + st.length ≤ 900 + p) (hst : st.length ≤ 100) (hg : g ≤ f) : match T[p + 1]?.bind (sgi L) with
    | none => ∃ S', mm_takesTest_59 (nI x) x2 S = some (0, S') ∧ PX T (p + 1) S' ∧ FRg c g R S S'
    | some s => match T[p + 2]?.bind dgi with
      | none => ∃ S', mm_takesTest_59 (nI x) x2 S = some (0, S') ∧ PX T (p + 2) S' ∧ FRg c g R S S'
      | some d => ∃ S', mm_takesTest_59 (nI x) x2 S = some (1, S') ∧ RPp T (p + 3) f (whl st (o ++ [10 * (3 * L + s) + d])).2 (whl st (o ++ [10 * (3 * L + s) + d])).1 S' ∧ FRg c g R S S' := by
  have h1 := h.at (q := p + 1)
  have f1 : FRg c g R S (mP S 11 (nI (p + 1))) := FRg.mP (by decide)
  have hT1 := hT.1
  have go : ∀ s, s < 3 → (1 < L → s = 1) → T[p + 1]? = some (60 + s) → match T[p + 2]?.bind dgi with
      | none => ∃ S', mm_takesTest_98 (nI x) (nI (60 + s)) (mP S 11 (nI (p + 1))) = some (0, S') ∧ PX T (p + 2) S' ∧ FRg c g R S S'
      | some d => ∃ S', mm_takesTest_98 (nI x) (nI (60 + s)) (mP S 11 (nI (p + 1))) = some (1, S') ∧ RPp T (p + 3) f (whl st (o ++ [10 * (3 * L + s) + d])).2 (whl st (o ++ [10 * (3 * L + s) + d])).1 S' ∧ FRg c g R S S' := by
    intro s hs hs2 ht
    have hp1 := (List.getElem?_eq_some_iff.mp ht).1
    have := m_98 (c := c) (R := R) hT hL hx hs hs2 h1 hp1 (by omega) hst hg
    cases e : T[p + 2]?.bind dgi with
    | none =>
      rw [show p + 1 + 1 = p + 2 from rfl, e] at this
      obtain ⟨S2, a, b, d⟩ := this
      exact ⟨S2, a, b, f1.tr d⟩
    | some d =>
      rw [show p + 1 + 1 = p + 2 from rfl, e] at this
      obtain ⟨S2, a, b, d⟩ := this
      exact ⟨S2, a, b, f1.tr d⟩
  have e61 : (nxI T (p + 1) = (61 : Int32)) = (T[p + 1]? = some 61) := nxI_eq hT (d := 61) (by decide)
  have e60 : (nxI T (p + 1) = (60 : Int32)) = (T[p + 1]? = some 60) := nxI_eq hT (d := 60) (by decide)
  have e62 : (nxI T (p + 1) = (62 : Int32)) = (T[p + 1]? = some 62) := nxI_eq hT (d := 62) (by decide)
  unfold mm_takesTest_59 mm_takesTest_96
  rw [h.1.2.2, q1, nI_add, lt_t, m_nx hT h1.1 (by omega), bd_s]
  have hfail : ∀ q, q = p + 1 → ∃ S', (some (0, mP S 11 (nI (p + 1))) : Option (Int32 × MS)) = some (0, S') ∧ PX T q S' ∧ FRg c g R S S' := fun q hq => by rw [hq]; exact ⟨_, rfl, h1.1, f1⟩
  by_cases c1 : T[p + 1]? = some 61
  · have hs : T[p + 1]?.bind (sgi L) = some 1 := by rw [c1]; rfl
    have hn : nxI T (p + 1) = (61 : Int32) := e61 ▸ c1
    rw [hs, if_pos hn, hn]
    exact go 1 (by decide) (fun _ => rfl) c1
  · have c1' : ¬ nxI T (p + 1) = (61 : Int32) := e61 ▸ c1
    rw [if_neg c1']
    by_cases c2 : 1 < L
    · have hs : T[p + 1]?.bind (sgi L) = none := by
        cases q : T[p + 1]? with
        | none => rfl
        | some y =>
          show sgi L y = none
          unfold sgi
          rw [if_neg (fun z => c1 (by rw [q, z])), if_pos c2]
      rw [hs, if_pos (h2 ▸ c2)]
      exact hfail _ rfl
    · rw [if_neg (h2 ▸ c2)]
      by_cases c3 : T[p + 1]? = some 60
      · have hs : T[p + 1]?.bind (sgi L) = some 0 := by
          rw [c3]
          show sgi L 60 = _
          unfold sgi
          rw [if_neg (by decide), if_neg c2, if_pos rfl]
        have hn : nxI T (p + 1) = (60 : Int32) := e60 ▸ c3
        rw [hs, if_pos hn, hn]
        exact go 0 (by decide) (fun z => absurd z c2) c3
      · rw [if_neg (e60 ▸ c3)]
        by_cases c4 : T[p + 1]? = some 62
        · have hs : T[p + 1]?.bind (sgi L) = some 2 := by
            rw [c4]
            show sgi L 62 = _
            unfold sgi
            rw [if_neg (by decide), if_neg c2, if_neg (by decide), if_pos rfl]
          have hn : nxI T (p + 1) = (62 : Int32) := e62 ▸ c4
          rw [hs, if_pos hn, hn]
          exact go 2 (by decide) (fun z => absurd z c2) c4
        · have hs : T[p + 1]?.bind (sgi L) = none := by
            cases q : T[p + 1]? with
            | none => rfl
            | some y =>
              show sgi L y = none
              unfold sgi
              rw [if_neg (fun z => c1 (by rw [q, z])), if_neg c2, if_neg (fun z => c3 (by rw [q, z])), if_neg (fun z => c4 (by rw [q, z]))]
          rw [hs, if_neg (e62 ▸ c4)]
          exact hfail _ rfl
theorem m_tT (hT : tOK T) {p f : Nat} {o st : List Nat} (h : RPp T p f o st S) (hp : p ≤ T.length) (hb : f + o.length + st.length ≤ 900 + p) (hst : st.length ≤ 100) (hg : g ≤ f) : match rdT T p with
    | (q, none) => ∃ S', mm_takesTest S = some (0, S') ∧ PX T q S' ∧ FRg c g R S S'
    | (q, some t) => ∃ S', mm_takesTest S = some (1, S') ∧ RPp T q f (whl st (o ++ [t])).2 (whl st (o ++ [t])).1 S' ∧ FRg c g R S S' := by
  have ev : ∀ d, d < 128 → (nxI T p = nI d) = (T[p]? = some d) := fun d hd => nxI_eq hT hd
  have e107 : (nxI T p = (107 : Int32)) = _ := ev 107 (by decide)
  have e104 : (nxI T p = (104 : Int32)) = _ := ev 104 (by decide)
  have e117 : (nxI T p = (117 : Int32)) = _ := ev 117 (by decide)
  have e98 : (nxI T p = (98 : Int32)) = _ := ev 98 (by decide)
  have e99 : (nxI T p = (99 : Int32)) = _ := ev 99 (by decide)
  have e101 : (nxI T p = (101 : Int32)) = _ := ev 101 (by decide)
  have e115 : (nxI T p = (115 : Int32)) = _ := ev 115 (by decide)
  have go : ∀ (x L : Nat) (x2 : Int32), T[p]? = some x → lti x = some L → (x2 = 0) = (1 < L) → match rdT T p with
      | (q, none) => ∃ S', mm_takesTest_59 (nxI T p) x2 S = some (0, S') ∧ PX T q S' ∧ FRg c g R S S'
      | (q, some t) => ∃ S', mm_takesTest_59 (nxI T p) x2 S = some (1, S') ∧ RPp T q f (whl st (o ++ [t])).2 (whl st (o ++ [t])).1 S' ∧ FRg c g R S S' := by
    intro x L x2 hx hl h2
    obtain ⟨a1, a2, a3⟩ := lti_lt hl
    have hp1 := (List.getElem?_eq_some_iff.mp hx).1
    have := m_59 (c := c) (R := R) hT a1 a3 h2 h hp1 hb hst hg
    have hn : nxI T p = nI x := (ev x a2) ▸ hx
    rw [hn]
    unfold rdT
    have e1 : T[p]?.bind lti = some L := by rw [hx]; exact hl
    rw [e1]
    simp only
    cases e2 : T[p + 1]?.bind (sgi L) with
    | none => rw [e2] at this; exact this
    | some s =>
      rw [e2] at this
      simp only at this ⊢
      cases e3 : T[p + 2]?.bind dgi with
      | none => rw [e3] at this; exact this
      | some d => rw [e3] at this; exact this
  have z01' : ((1 : Int32) = 0) = (1 < 0) := by decide
  have z01'' : ((1 : Int32) = 0) = (1 < 1) := by decide
  have z0 : ∀ L, 1 < L → ((0 : Int32) = 0) = (1 < L) := fun L hL => propext ⟨fun _ => hL, fun _ => rfl⟩
  unfold mm_takesTest mm_takesTest_17 mm_takesTest_22
  rw [m_nx hT h.1 hp, bd_s]
  by_cases c1 : T[p]? = some 107
  · rw [if_pos (e107 ▸ c1), if_neg (show ¬ (1 : Int32) = 0 by decide)]
    exact go 107 0 1 c1 rfl z01'
  · rw [if_neg (e107 ▸ c1)]
    by_cases c2 : T[p]? = some 104
    · rw [if_pos (e104 ▸ c2), if_neg (show ¬ (1 : Int32) = 0 by decide)]
      exact go 104 1 1 c2 rfl z01''
    · rw [if_neg (e104 ▸ c2), if_pos (show (0 : Int32) = 0 from rfl)]
      by_cases c3 : T[p]? = some 117
      · rw [if_pos (e117 ▸ c3)]
        exact go 117 2 0 c3 rfl (z0 2 (by decide))
      · rw [if_neg (e117 ▸ c3)]
        by_cases c4 : T[p]? = some 98
        · rw [if_pos (e98 ▸ c4)]
          exact go 98 3 0 c4 rfl (z0 3 (by decide))
        · rw [if_neg (e98 ▸ c4)]
          by_cases c5 : T[p]? = some 99
          · rw [if_pos (e99 ▸ c5)]
            exact go 99 4 0 c5 rfl (z0 4 (by decide))
          · rw [if_neg (e99 ▸ c5)]
            by_cases c6 : T[p]? = some 101
            · rw [if_pos (e101 ▸ c6)]
              exact go 101 5 0 c6 rfl (z0 5 (by decide))
            · rw [if_neg (e101 ▸ c6)]
              by_cases c7 : T[p]? = some 115
              · rw [if_pos (e115 ▸ c7)]
                exact go 115 6 0 c7 rfl (z0 6 (by decide))
              · rw [if_neg (e115 ▸ c7)]
                have hr : rdT T p = (p, none) := by
                  unfold rdT
                  have : T[p]?.bind lti = none := by
                    cases q : T[p]? with
                    | none => rfl
                    | some y =>
                      show lti y = none
                      rw [q] at c1 c2 c3 c4 c5 c6 c7
                      unfold lti
                      rw [if_neg (fun z => c1 (by rw [z])), if_neg (fun z => c2 (by rw [z])), if_neg (fun z => c3 (by rw [z])), if_neg (fun z => c4 (by rw [z])), if_neg (fun z => c5 (by rw [z])), if_neg (fun z => c6 (by rw [z])), if_neg (fun z => c7 (by rw [z]))]
                  rw [this]
                rw [hr]
                exact ⟨S, rfl, h.1, FRg.rf⟩
theorem m_psh {p f x : Nat} {o st : List Nat} (h : RPp T p f o st S) (hx : x = 33 ∨ x = 38 ∨ x = 40 ∨ x = 124) {m : Int32} (h23 : m = nI (opk (x :: st))) : RPp T (p + 1) f o (x :: st) (mP (mP (mR (mP S 23 m) 21 st.length (nI x)) 22 (nI (st.length + 1))) 11 (nI (p + 1))) := by
  refine ⟨h.1.fr rfl rfl rfl, h.2.1.fr rfl rfl, rfl, h23, ?_, hx, ?_⟩
  · rw [mP_r, mP_r, mR_s, if_pos rfl]
  · exact SKx.fr (S := mR (mP S 23 m) 21 st.length (nI x)) (S' := mP (mP (mR (mP S 23 m) 21 st.length (nI x)) 22 (nI (st.length + 1))) 11 (nI (p + 1))) rfl (SKx.up (SKx.fr (S := S) (S' := mP S 23 m) rfl h.2.2.2.2) (Nat.le_refl _))
theorem mP_same {k : Nat} {x : Int32} (h : S.1 k = x) : mP S k x = S := by
  show (upd S.1 k x, S.2) = S
  have : upd S.1 k x = S.1 := by
    funext j
    show (if j = k then x else S.1 j) = _
    split
    · rename_i q; rw [q, h]
    · rfl
  rw [this]
theorem m_33 {p f x : Nat} {o st : List Nat} {x1 : Int32} {k12 : Int32 → MS → Option (Int32 × MS)} (h : RPp T p f o st S) (hx : x = 33 ∨ x = 40) (hs : st.length ≤ 100) (h4 : ¬ opk st = 4) : ∃ S', mm_takesE_33 k12 x1 (nI x) S = k12 x1 S' ∧ RPp T (p + 1) f o (x :: st) S' ∧ FRg c g R S S' := by
  have ho := opk_le (st := st)
  have ex : opk (x :: st) = opk st + 1 := by rcases hx with rfl | rfl; exact opk_33; exact opk_40
  have e4 : ¬ nI (opk st) = 4 := by rw [q4, ne_n (by omega) (by decide)]; exact h4
  refine ⟨_, ?_, m_psh h (by omega) (congrArg nI ex.symm), (FRg.mP (by decide)).tr (FRg.m21.tr ((FRg.mP (by decide)).tr (FRg.mP (by decide))))⟩
  unfold mm_takesE_33
  rw [h.2.2.2.1, if_neg e4, q1, nI_add, lt_t, mP_n (by decide), h.2.2.1, vin_n (by omega), decide_eq_true (show st.length < 101 by omega), ck_t, nI_clamp (by omega), lt_t, mR_i, mP_n (by decide), h.2.2.1, nI_add, lt_t, mP_n (by decide), mR_i, mP_n (by decide), h.1.2.2, nI_add, lt_t]
theorem m_112 {p f x : Nat} {o st : List Nat} {k12 : Int32 → MS → Option (Int32 × MS)} (h : RPp T p f o st S) (hx : x = 38 ∨ x = 124) (hs : st.length ≤ 99) (hb : f + o.length + st.length ≤ 1000) (hg : g ≤ f) : ∃ S', mm_takesE_112 k12 (nI x) S = k12 1 S' ∧ RPp T (p + 1) f (stl x st o).2 (x :: (stl x st o).1) S' ∧ FRg c g R S S' := by
  obtain ⟨S1, e1, h1, f1⟩ := m_stl (c := c) (R := R) hx hg st o S 4000 h hb (by omega) (by omega)
  have hl := stl_len (s := x) (st := st) (o := o)
  have e1' : mm_settle S (nI x) = some (0, S1) := e1
  have hlen : (stl x st o).1.length ≤ 100 := by
    have : ∀ (st o : List Nat), (stl x st o).1.length ≤ st.length := by
      intro st
      induction st with
      | nil => intro o; exact Nat.le_refl _
      | cons y st ih =>
        intro o
        unfold stl
        split
        · have := ih (o ++ [tok y]); simp; omega
        · exact Nat.le_refl _
    have := this st o
    omega
  have h2 := m_psh (x := x) (m := nI (opk (stl x st o).1)) h1 (by omega) (congrArg nI (opk_o (by omega) (by omega)).symm)
  rw [mP_same (S := S1) h1.2.2.2.1] at h2
  refine ⟨_, ?_, h2, f1.tr (FRg.m21.tr ((FRg.mP (by decide)).tr (FRg.mP (by decide))))⟩
  unfold mm_takesE_112
  rw [e1', bd_s, h1.2.2.1, vin_n (by omega), decide_eq_true (show (stl x st o).1.length < 101 by omega), ck_t, nI_clamp (by omega), lt_t, mR_i, h1.2.2.1, q1, nI_add, lt_t, lt_t, mP_n (by decide), mR_i, h1.1.2.2, nI_add, lt_t]
end PMQP
