section PMRU
variable {S S' : MS} {T : List Nat} {c g R : Nat}
def rdW (T : List Nat) : List Nat → Nat → Nat × Bool
  | [], p => (p, true)
  | d :: L, p => if T[p]? = some d then rdW T L (p + 1) else (p, false)
def hdW (T : List Nat) (p s : Nat) (L : List Nat) : Nat × Option (Nat × Nat) := match rdW T L p with
  | (q, true) => (q, some (s, 0))
  | (q, false) => (q, none)
def hdN (T : List Nat) (p : Nat) : Nat × Option (Nat × Nat) := match rdW T [110, 101, 101, 100, 32] p with
  | (q, false) => (q, none)
  | (q, true) => match T[q]?.bind dgi with
    | none => (q, none)
    | some d => if T[q + 1]? = some 32 then (q + 2, some (2, d)) else (q + 1, none)
def rdH (T : List Nat) (p : Nat) : Nat × Option (Nat × Nat) :=
  if T[p]? = some 105 then hdW T p 1 [105, 110, 32] else if T[p]? = some 109 then hdW T p 3 [109, 97, 121, 32] else if T[p]? = some 111 then hdW T p 0 [111, 117, 116, 32] else hdN T p
def rdK (T : List Nat) (p : Nat) : Nat × Option (Nat × Nat × List Nat) := match rdH T p with
  | (q, none) => (q, none)
  | (q, some sd) => match rdC T (rdO T 4) q [] with
    | (q', none) => (q', none)
    | (q', some o) => (q', some (sd.1, sd.2, o))
def rdR (T : List Nat) : Nat → Nat → List (Nat × Nat × List Nat) → Nat × Option (List (Nat × Nat × List Nat))
  | 0, p, _ => (p, none)
  | m + 1, p, acc => match rdK T p with
    | (q, none) => (q, none)
    | (q, some k) => if q = T.length then (q, some (acc ++ [k])) else if m = 0 then (q, none) else if T[q]? = some 59 then rdR T m (q + 1) (acc ++ [k]) else (q, none)
theorem rdW_le : ∀ {L : List Nat} {p q : Nat} {b : Bool}, rdW T L p = (q, b) → p ≤ T.length → q ≤ T.length ∧ (b = true → q = p + L.length)
  | [], p, q, b, h, hp => by
    have : p = q := congrArg Prod.fst h
    subst this
    exact ⟨hp, fun _ => rfl⟩
  | d :: L, p, q, b, h, hp => by
    unfold rdW at h
    by_cases e : T[p]? = some d
    · have hp1 := (List.getElem?_eq_some_iff.mp e).1
      rw [if_pos e] at h
      obtain ⟨a1, a2⟩ := rdW_le h (by omega)
      exact ⟨a1, fun z => by rw [a2 z, List.length_cons]; omega⟩
    · rw [if_neg e] at h
      have h1 : p = q := congrArg Prod.fst h
      have h2 : false = b := congrArg Prod.snd h
      subst h1 h2
      exact ⟨hp, fun z => nomatch z⟩
theorem rdH_s {p q s d : Nat} (h : rdH T p = (q, some (s, d))) (hp : p ≤ T.length) : p + 3 ≤ q ∧ q ≤ T.length ∧ s < 4 ∧ d < 10 := by
  have hw : ∀ s' L, 3 ≤ L.length → s' < 4 → hdW T p s' L = (q, some (s, d)) → p + 3 ≤ q ∧ q ≤ T.length ∧ s < 4 ∧ d < 10 := by
    intro s' L hL hs h
    unfold hdW at h
    cases e : rdW T L p with
    | mk q1 b =>
      rw [e] at h
      cases b with
      | false => cases h
      | true =>
        obtain ⟨a1, a2⟩ := rdW_le e hp
        have h1 : q1 = q := congrArg Prod.fst h
        have h2 : (s', 0) = (s, d) := Option.some.inj (congrArg Prod.snd h)
        cases h2
        subst h1
        have := a2 rfl
        exact ⟨by omega, a1, hs, by decide⟩
  unfold rdH at h
  split at h
  · exact hw 1 _ (by decide) (by decide) h
  · split at h
    · exact hw 3 _ (by decide) (by decide) h
    · split at h
      · exact hw 0 _ (by decide) (by decide) h
      · unfold hdN at h
        cases e : rdW T [110, 101, 101, 100, 32] p with
        | mk q1 b =>
          rw [e] at h
          cases b with
          | false => cases h
          | true =>
            obtain ⟨a1, a2⟩ := rdW_le e hp
            have a3 : q1 = p + 5 := a2 rfl
            simp only at h
            cases e2 : T[q1]?.bind dgi with
            | none => rw [e2] at h; cases h
            | some d1 =>
              rw [e2] at h
              simp only at h
              obtain ⟨y, -, k2, -⟩ := bind_s e2
              have hd := (dgi_lt k2).1
              by_cases e3 : T[q1 + 1]? = some 32
              · have hp1 := (List.getElem?_eq_some_iff.mp e3).1
                rw [if_pos e3] at h
                have h1 : q1 + 2 = q := congrArg Prod.fst h
                have h2 : (2, d1) = (s, d) := Option.some.inj (congrArg Prod.snd h)
                cases h2
                exact ⟨by omega, by omega, by decide, hd⟩
              · rw [if_neg e3] at h; cases h
theorem rdK_s {p q : Nat} {k : Nat × Nat × List Nat} (hT : T.length ≤ 100) (h : rdK T p = (q, some k)) (hp : p ≤ T.length) : p + 3 ≤ q ∧ q ≤ T.length ∧ clO k ∧ k.2.2.length + p ≤ q := by
  unfold rdK at h
  cases e : rdH T p with
  | mk q1 x =>
    rw [e] at h
    cases x with
    | none => cases h
    | some sd =>
      obtain ⟨s, d⟩ := sd
      obtain ⟨a1, a2, a3, a4⟩ := rdH_s e hp
      simp only at h
      cases e2 : rdC T (rdO T 4) q1 [] with
      | mk q2 y =>
        rw [e2] at h
        cases y with
        | none => cases h
        | some o =>
          obtain ⟨b1, b2, b3, b4, -⟩ := rdC_g (rdO_g 4) e2
          have h1 : q2 = q := congrArg Prod.fst h
          have h2 : (s, d, o) = k := Option.some.inj (congrArg Prod.snd h)
          subst h1 h2
          have b3' : o.length + q1 ≤ 0 + q2 := b3
          exact ⟨by omega, b2, ⟨a3, a4, by show o.length ≤ 100; omega, hkr_hok (b4 0 rfl (by decide))⟩, by show o.length + p ≤ q2; omega⟩
theorem rdR_s (hT : T.length ≤ 100) : ∀ {m p q : Nat} {acc cs : List (Nat × Nat × List Nat)}, rdR T m p acc = (q, some cs) → p ≤ T.length → (∀ k ∈ acc, clO k) → (∀ k ∈ cs, clO k) ∧ acc.length + 1 ≤ cs.length ∧ cs.length ≤ acc.length + m
  | 0, p, q, acc, cs, h, _, _ => by cases h
  | m + 1, p, q, acc, cs, h, hp, ha => by
    unfold rdR at h
    cases e : rdK T p with
    | mk q1 x =>
      rw [e] at h
      cases x with
      | none => cases h
      | some k =>
        obtain ⟨a1, a2, a3, -⟩ := rdK_s hT e hp
        have ha' : ∀ y ∈ acc ++ [k], clO y := by
          intro y hy
          rcases List.mem_append.mp hy with z | z
          · exact ha y z
          · rw [List.mem_singleton.mp z]; exact a3
        simp only at h
        by_cases c1 : q1 = T.length
        · rw [if_pos c1] at h
          have h2 : acc ++ [k] = cs := Option.some.inj (congrArg Prod.snd h)
          subst h2
          exact ⟨ha', by simp, by simp⟩
        · rw [if_neg c1] at h
          by_cases c2 : m = 0
          · rw [if_pos c2] at h; cases h
          · rw [if_neg c2] at h
            by_cases c3 : T[q1]? = some 59
            · have hp1 := (List.getElem?_eq_some_iff.mp c3).1
              rw [if_pos c3] at h
              have := rdR_s hT h (by omega) ha'
              rw [List.length_append] at this
              simp only [List.length_cons, List.length_nil] at this
              exact ⟨this.1, by omega, by omega⟩
            · rw [if_neg c3] at h; cases h
-- the reference's words
def lws (w : Nat) : Nat → List Nat
  | 0 => [32]
  | k + 1 => (96 + w / 2 ^ (5 * k) % 32) :: lws w k
theorem PX.at {p q : Nat} (h : PX T p S) : PX T q (mP S 11 (nI q)) := h.fr rfl rfl rfl
theorem m_twl (hT : tOK T) {w : Nat} (hw : w < 2 ^ 31) : ∀ (k p fuel : Nat) (S : MS), PX T p S → p ≤ T.length → k ≤ 6 → k < fuel → ∃ S', mm_takesWord_4L fuel (nI w) (nI k - nI 1) S = some (nI (rdW T (lws w k) p).2.toNat, S') ∧ PX T (rdW T (lws w k) p).1 S' ∧ FRg c g R S S' ∧ S'.2 = S.2 ∧ S'.1 20 = S.1 20 := by
  intro k
  induction k with
  | zero =>
    intro p fuel S h hp hk hf
    obtain ⟨fu, rfl⟩ : ∃ fu, fuel = fu + 1 := ⟨fuel - 1, by omega⟩
    show ∃ S', mm_takesWord_4 _ _ _ _ = some (nI (if T[p]? = some 32 then (p + 1, true) else (p, false) : Nat × Bool).2.toNat, S') ∧ PX T (if T[p]? = some 32 then (p + 1, true) else (p, false) : Nat × Bool).1 S' ∧ _
    unfold mm_takesWord_4
    have ht := m_tk hT h hp (d := 32) (by decide)
    have ht' : mm_takes S 32 = _ := ht
    rw [if_pos (show nI 0 - nI 1 < 0 by decide), ht']
    by_cases e : T[p]? = some 32
    · rw [if_pos e, if_pos e]
      exact ⟨_, rfl, h.at, FRg.mP (by decide), rfl, rfl⟩
    · rw [if_neg e, if_neg e]
      exact ⟨S, rfl, h, FRg.rf, rfl, rfl⟩
  | succ k ih =>
    intro p fuel S h hp hk hf
    obtain ⟨fu, rfl⟩ : ∃ fu, fuel = fu + 1 := ⟨fuel - 1, by omega⟩
    have e1 : (w / 2 ^ (5 * k)) &&& 31 = w / 2 ^ (5 * k) % 32 := Nat.and_two_pow_sub_one_eq_mod _ 5
    have e2 : (96 : Int32) + ((nI w >>> (((5 : Int32) * nI k) &&& 31)) &&& (31 : Int32)) = nI (96 + w / 2 ^ (5 * k) % 32) := by
      have e3 : (5 : Int32) * nI k = nI (5 * k) := by rw [q5, pk_mul]
      rw [e3, shr_n hw (by omega), show (31 : Int32) = nI 31 from rfl, and_n, e1, show (96 : Int32) = nI 96 from rfl, nI_add]
    have hd : 96 + w / 2 ^ (5 * k) % 32 < 128 := by have := Nat.mod_lt (w / 2 ^ (5 * k)) (show 0 < 32 by decide); omega
    have ht := m_tk hT h hp hd
    show ∃ S', mm_takesWord_4 _ _ _ _ = some (nI (if T[p]? = some (96 + w / 2 ^ (5 * k) % 32) then rdW T (lws w k) (p + 1) else (p, false)).2.toNat, S') ∧ PX T (if T[p]? = some (96 + w / 2 ^ (5 * k) % 32) then rdW T (lws w k) (p + 1) else (p, false)).1 S' ∧ _
    unfold mm_takesWord_4
    rw [nIs (by omega), if_neg (nI_pos (n := k) (by omega)), e2, ht]
    by_cases e : T[p]? = some (96 + w / 2 ^ (5 * k) % 32)
    · have hp1 := (List.getElem?_eq_some_iff.mp e).1
      rw [if_pos e, if_pos e, bd_s, if_neg (show ¬ (1 : Int32) = 0 by decide), lt_t, ← Int32.sub_eq_add_neg]
      obtain ⟨S1, a1, a2, a3, a4, a5⟩ := ih (p + 1) fu _ h.at (by omega) (by omega) (by omega)
      exact ⟨S1, a1, a2, (FRg.mP (by decide)).tr a3, a4, a5⟩
    · rw [if_neg e, if_neg e, bd_s, if_pos (show (0 : Int32) = 0 from rfl)]
      exact ⟨S, rfl, h, FRg.rf, rfl, rfl⟩
end PMRU
