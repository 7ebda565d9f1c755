-- the texts of rules: read by descent, and by a stack
section PPR
variable {T : List Nat}
def lti (c : Nat) : Option Nat := if c = 107 then some 0 else if c = 104 then some 1 else if c = 117 then some 2 else if c = 98 then some 3 else if c = 99 then some 4 else if c = 101 then some 5 else if c = 115 then some 6 else none
def sgi (L c : Nat) : Option Nat := if c = 61 then some 1 else if 1 < L then none else if c = 60 then some 0 else if c = 62 then some 2 else none
def dgi (c : Nat) : Option Nat := if 48 ≤ c ∧ c ≤ 57 then some (c - 48) else none
abbrev RS : Type := Nat × Option (List Nat)
def rdT (T : List Nat) (p : Nat) : Nat × Option Nat := match T[p]?.bind lti with
  | none => (p, none)
  | some L => match T[p + 1]?.bind (sgi L) with
    | none => (p + 1, none)
    | some s => match T[p + 2]?.bind dgi with
      | none => (p + 2, none)
      | some d => (p + 3, some (10 * (3 * L + s) + d))
def rdA (T : List Nat) (p : Nat) (o : List Nat) : RS := match rdT T p with
  | (q, none) => (q, none)
  | (q, some t) => (q, some (o ++ [t]))
def orO (w : Bool) (o : List Nat) : List Nat := if w = true then o ++ [230] else o
def rdL (T : List Nat) (ro : Nat → List Nat → RS) : Nat → Nat → Bool → List Nat → RS
  | 0, p, _, _ => (p, none)
  | f + 1, p, w, o => if T[p]? = some 38 then (match ro (p + 1) o with
      | (q, none) => (q, none)
      | (q, some o') => rdL T ro f q w (o' ++ [220]))
    else if T[p]? = some 124 then (match ro (p + 1) (orO w o) with
      | (q, none) => (q, none)
      | (q, some o') => rdL T ro f q true o')
    else (p, some (orO w o))
def rdC (T : List Nat) (ro : Nat → List Nat → RS) (p : Nat) (o : List Nat) : RS := match ro p o with
  | (q, none) => (q, none)
  | (q, some o') => rdL T ro 101 q false o'
def rdO (T : List Nat) : Nat → Nat → List Nat → RS
  | 0, p, o => rdA T p o
  | j + 1, p, o => if T[p]? = some 33 then (match rdO T j (p + 1) o with
      | (q, none) => (q, none)
      | (q, some o') => (q, some (o' ++ [210])))
    else if T[p]? = some 40 then (match rdC T (rdO T j) (p + 1) o with
      | (q, none) => (q, none)
      | (q, some o') => if T[q]? = some 41 then (q + 1, some o') else (q, none))
    else rdA T p o
def hkr : List Nat → Nat → Option Nat
  | [], n => some n
  | t :: ts, n => if t = 210 then (if 1 ≤ n then hkr ts n else none) else if t = 220 ∨ t = 230 then (if 2 ≤ n then hkr ts (n - 1) else none) else if tkO t = true ∧ n < 20 then hkr ts (n + 1) else none
theorem hkr_hok : ∀ {ts : List Nat} {n : Nat}, hkr ts n = some 1 → hok ts n = true
  | [], n, h => by
    have : n = 1 := Option.some.inj h
    subst this
    rfl
  | t :: ts, n, h => by
    unfold hkr at h
    unfold hok
    by_cases c1 : t = 210
    · rw [if_pos c1] at h ⊢
      by_cases c2 : 1 ≤ n
      · rw [if_pos c2] at h
        rw [decide_eq_true c2, Bool.true_and]
        exact hkr_hok h
      · rw [if_neg c2] at h; cases h
    · rw [if_neg c1] at h ⊢
      by_cases c3 : t = 220 ∨ t = 230
      · rw [if_pos c3] at h ⊢
        by_cases c2 : 2 ≤ n
        · rw [if_pos c2] at h
          rw [decide_eq_true c2, Bool.true_and]
          exact hkr_hok h
        · rw [if_neg c2] at h; cases h
      · rw [if_neg c3] at h ⊢
        by_cases c2 : tkO t = true ∧ n < 20
        · rw [if_pos c2] at h
          rw [c2.1, decide_eq_true c2.2, Bool.true_and, Bool.true_and]
          exact hkr_hok h
        · rw [if_neg c2] at h; cases h
theorem hkr_app : ∀ {a b : List Nat} {n m : Nat}, hkr a n = some m → hkr (a ++ b) n = hkr b m
  | [], b, n, m, h => by
    have : n = m := Option.some.inj h
    subst this
    rfl
  | t :: ts, b, n, m, h => by
    unfold hkr at h
    show (if t = 210 then (if 1 ≤ n then hkr (ts ++ b) n else none) else if t = 220 ∨ t = 230 then (if 2 ≤ n then hkr (ts ++ b) (n - 1) else none) else if tkO t = true ∧ n < 20 then hkr (ts ++ b) (n + 1) else none) = _
    by_cases c1 : t = 210
    · rw [if_pos c1] at h ⊢
      by_cases c2 : 1 ≤ n
      · rw [if_pos c2] at h ⊢; exact hkr_app h
      · rw [if_neg c2] at h; cases h
    · rw [if_neg c1] at h ⊢
      by_cases c3 : t = 220 ∨ t = 230
      · rw [if_pos c3] at h ⊢
        by_cases c2 : 2 ≤ n
        · rw [if_pos c2] at h ⊢; exact hkr_app h
        · rw [if_neg c2] at h; cases h
      · rw [if_neg c3] at h ⊢
        by_cases c2 : tkO t = true ∧ n < 20
        · rw [if_pos c2] at h ⊢; exact hkr_app h
        · rw [if_neg c2] at h; cases h
theorem lti_lt {c L : Nat} (h : lti c = some L) : L < 7 ∧ c < 128 ∧ ltr (3 * L + 1) = c := by
  unfold lti at h
  repeat' split at h
  all_goals first
    | (cases h; done)
    | (obtain rfl := Option.some.inj h; subst_vars; decide)
theorem sgi_lt {L c s : Nat} (h : sgi L c = some s) : s < 3 ∧ (1 < L → s = 1) ∧ c = 60 + s := by
  unfold sgi at h
  repeat' split at h
  all_goals first
    | (cases h; done)
    | (obtain rfl := Option.some.inj h; subst_vars; refine ⟨by decide, fun _ => ?_, rfl⟩; first | rfl | omega)
theorem dgi_lt {c d : Nat} (h : dgi c = some d) : d < 10 ∧ c = 48 + d := by
  unfold dgi at h
  split at h
  · obtain rfl := Option.some.inj h
    omega
  · cases h
theorem bind_s {i : Nat} {f : Nat → Option Nat} {x : Nat} (h : T[i]?.bind f = some x) : ∃ c, T[i]? = some c ∧ f c = some x ∧ i < T.length := by
  cases q : T[i]? with
  | none => rw [q] at h; cases h
  | some c => rw [q] at h; exact ⟨c, rfl, h, (List.getElem?_eq_some_iff.mp q).1⟩
theorem rdT_s {p q t : Nat} (h : rdT T p = (q, some t)) : q = p + 3 ∧ q ≤ T.length ∧ tkO t = true ∧ t < 200 ∧ ∃ L s d, T[p]?.bind lti = some L ∧ T[p + 1]?.bind (sgi L) = some s ∧ T[p + 2]?.bind dgi = some d ∧ t = 10 * (3 * L + s) + d := by
  unfold rdT at h
  cases e1 : T[p]?.bind lti with
  | none => rw [e1] at h; cases h
  | some L =>
    rw [e1] at h
    simp only at h
    cases e2 : T[p + 1]?.bind (sgi L) with
    | none => rw [e2] at h; cases h
    | some s =>
      rw [e2] at h
      simp only at h
      cases e3 : T[p + 2]?.bind dgi with
      | none => rw [e3] at h; cases h
      | some d =>
        rw [e3] at h
        have h1 : p + 3 = q := congrArg Prod.fst h
        have h2 : 10 * (3 * L + s) + d = t := Option.some.inj (congrArg Prod.snd h)
        obtain ⟨c, -, k1, -⟩ := bind_s e1
        obtain ⟨c2, -, k2, -⟩ := bind_s e2
        obtain ⟨c3, -, k3, k4⟩ := bind_s e3
        have a1 := (lti_lt k1).1
        obtain ⟨a2, a3, -⟩ := sgi_lt k2
        have a4 := (dgi_lt k3).1
        refine ⟨h1.symm, by omega, ?_, by omega, L, s, d, rfl, e2, rfl, h2.symm⟩
        subst h2
        have key : ∀ L, L < 7 → ∀ s, s < 3 → (1 < L → s = 1) → ∀ d, d < 10 → tkO (10 * (3 * L + s) + d) = true := by decide
        exact key L a1 s a2 a3 d a4
-- what a reading gives: it goes on, takes no more steps than bytes, leaves one truth more
def RG (T : List Nat) (ro : Nat → List Nat → RS) (j : Nat) : Prop := ∀ p o q o', ro p o = (q, some o') → p < q ∧ q ≤ T.length ∧ o'.length + p ≤ o.length + q ∧ ∀ n, hkr o 0 = some n → n + 2 * j < 20 → hkr o' 0 = some (n + 1)
theorem hkr_not {o : List Nat} {n : Nat} (h : hkr o 0 = some (n + 1)) : hkr (o ++ [210]) 0 = some (n + 1) := by
  rw [hkr_app h]
  show (if 210 = 210 then (if 1 ≤ n + 1 then some (n + 1) else none) else _) = _
  rw [if_pos rfl, if_pos (by omega)]
theorem hkr_bin {o : List Nat} {n t : Nat} (ht : t = 220 ∨ t = 230) (h : hkr o 0 = some (n + 2)) : hkr (o ++ [t]) 0 = some (n + 1) := by
  rw [hkr_app h]
  show (if t = 210 then _ else if t = 220 ∨ t = 230 then (if 2 ≤ n + 2 then some (n + 2 - 1) else none) else _) = _
  rw [if_neg (by omega), if_pos ht, if_pos (by omega)]
  rfl
theorem rdA_g (j : Nat) : RG T (rdA T) j := by
  intro p o q o' h
  unfold rdA at h
  cases e : rdT T p with
  | mk q1 x =>
    rw [e] at h
    cases x with
    | none => cases h
    | some t =>
      obtain ⟨a1, a2, a3, a4, -⟩ := rdT_s e
      have h1 : q1 = q := congrArg Prod.fst h
      have h2 : o ++ [t] = o' := Option.some.inj (congrArg Prod.snd h)
      subst h1 h2
      refine ⟨by omega, a2, by simp; omega, fun n hn hj => ?_⟩
      rw [hkr_app hn]
      have hb : ¬ t = 210 ∧ ¬ (t = 220 ∨ t = 230) := by omega
      show (if t = 210 then _ else if t = 220 ∨ t = 230 then _ else if tkO t = true ∧ n < 20 then some (n + 1) else none) = _
      rw [if_neg hb.1, if_neg hb.2, if_pos ⟨a3, by omega⟩]
theorem orO_len (w : Bool) (o : List Nat) : (orO w o).length = o.length + w.toNat := by
  cases w <;> simp [orO]
theorem rdL_g {ro : Nat → List Nat → RS} {j : Nat} (hr : RG T ro j) : ∀ (f p : Nat) (w : Bool) (o : List Nat) (q : Nat) (o' : List Nat), rdL T ro f p w o = (q, some o') → p ≤ T.length → p ≤ q ∧ q ≤ T.length ∧ o'.length + p ≤ o.length + w.toNat + q ∧ (∀ n, hkr o 0 = some (n + 1 + w.toNat) → n + 2 * (j + 1) < 20 → hkr o' 0 = some (n + 1)) ∧ ¬ T[q]? = some 38 ∧ ¬ T[q]? = some 124 := by
  intro f
  induction f with
  | zero => intro p w o q o' h; cases h
  | succ f ih =>
    intro p w o q o' h hp
    unfold rdL at h
    by_cases c1 : T[p]? = some 38
    · rw [if_pos c1] at h
      cases e : ro (p + 1) o with
      | mk q1 x =>
        rw [e] at h
        cases x with
        | none => cases h
        | some o1 =>
          obtain ⟨a1, a2, a3, a4⟩ := hr _ _ _ _ e
          obtain ⟨b1, b2, b3, b4, b5⟩ := ih q1 w (o1 ++ [220]) q o' h a2
          rw [List.length_append] at b3
          simp only [List.length_cons, List.length_nil] at b3
          refine ⟨by omega, b2, by omega, fun n hn hj => ?_, b5⟩
          have hw := Bool.toNat_le w
          have k1 := a4 _ hn (by omega)
          refine b4 n ?_ hj
          have : n + 1 + w.toNat + 1 = (n + w.toNat) + 2 := by omega
          rw [this] at k1
          rw [hkr_bin (Or.inl rfl) k1]
          congr 1
          omega
    · rw [if_neg c1] at h
      by_cases c2 : T[p]? = some 124
      · rw [if_pos c2] at h
        cases e : ro (p + 1) (orO w o) with
        | mk q1 x =>
          rw [e] at h
          cases x with
          | none => cases h
          | some o1 =>
            obtain ⟨a1, a2, a3, a4⟩ := hr _ _ _ _ e
            obtain ⟨b1, b2, b3, b4, b5⟩ := ih q1 true o1 q o' h a2
            rw [orO_len] at a3
            have ht : true.toNat = 1 := rfl
            refine ⟨by omega, b2, by omega, fun n hn hj => ?_, b5⟩
            have k0 : hkr (orO w o) 0 = some (n + 1) := by
              cases w with
              | false => exact hn
              | true => exact hkr_bin (Or.inr rfl) hn
            exact b4 n (a4 _ k0 (by omega)) hj
      · rw [if_neg c2] at h
        have h1 : p = q := congrArg Prod.fst h
        have h2 : orO w o = o' := Option.some.inj (congrArg Prod.snd h)
        subst h1 h2
        refine ⟨Nat.le_refl _, hp, by rw [orO_len]; exact Nat.le_refl _, fun n hn hj => ?_, c1, c2⟩
        cases w with
        | false => exact hn
        | true => exact hkr_bin (Or.inr rfl) hn
theorem rdC_g {ro : Nat → List Nat → RS} {j : Nat} (hr : RG T ro j) {p q : Nat} {o o' : List Nat} (h : rdC T ro p o = (q, some o')) : p < q ∧ q ≤ T.length ∧ o'.length + p ≤ o.length + q ∧ (∀ n, hkr o 0 = some n → n + 2 * (j + 1) < 20 → hkr o' 0 = some (n + 1)) ∧ ¬ T[q]? = some 38 ∧ ¬ T[q]? = some 124 := by
  unfold rdC at h
  cases e : ro p o with
  | mk q1 x =>
    rw [e] at h
    cases x with
    | none => cases h
    | some o1 =>
      obtain ⟨a1, a2, a3, a4⟩ := hr _ _ _ _ e
      obtain ⟨b1, b2, b3, b4, b5⟩ := rdL_g hr 101 q1 false o1 q o' h a2
      have ht : false.toNat = 0 := rfl
      exact ⟨by omega, b2, by omega, fun n hn hj => b4 n (a4 n hn (by omega)) hj, b5⟩
theorem rdO_g : ∀ j, RG T (rdO T j) j := by
  intro j
  induction j with
  | zero => exact rdA_g 0
  | succ j ih =>
    intro p o q o' h
    unfold rdO at h
    by_cases c1 : T[p]? = some 33
    · rw [if_pos c1] at h
      cases e : rdO T j (p + 1) o with
      | mk q1 x =>
        rw [e] at h
        cases x with
        | none => cases h
        | some o1 =>
          obtain ⟨a1, a2, a3, a4⟩ := ih _ _ _ _ e
          have h1 : q1 = q := congrArg Prod.fst h
          have h2 : o1 ++ [210] = o' := Option.some.inj (congrArg Prod.snd h)
          subst h1 h2
          exact ⟨by omega, a2, by simp; omega, fun n hn hj => hkr_not (a4 n hn (by omega))⟩
    · rw [if_neg c1] at h
      by_cases c2 : T[p]? = some 40
      · rw [if_pos c2] at h
        cases e : rdC T (rdO T j) (p + 1) o with
        | mk q1 x =>
          rw [e] at h
          cases x with
          | none => cases h
          | some o1 =>
            obtain ⟨a1, a2, a3, a4, -⟩ := rdC_g ih e
            simp only at h
            by_cases c3 : T[q1]? = some 41
            · rw [if_pos c3] at h
              have h1 : q1 + 1 = q := congrArg Prod.fst h
              have h2 : o1 = o' := Option.some.inj (congrArg Prod.snd h)
              have := (List.getElem?_eq_some_iff.mp c3).1
              subst h1 h2
              exact ⟨by omega, by omega, by omega, fun n hn hj => a4 n hn (by omega)⟩
            · rw [if_neg c3] at h
              cases h
      · rw [if_neg c2] at h
        exact rdA_g (j + 1) p o q o' h
-- the stack machine
def whl : List Nat → List Nat → List Nat × List Nat
  | [], o => ([], o)
  | x :: st, o => if x = 33 then whl st (o ++ [210]) else (x :: st, o)
def tok (x : Nat) : Nat := if x = 38 then 220 else 230
def stl (s : Nat) : List Nat → List Nat → List Nat × List Nat
  | [], o => ([], o)
  | x :: st, o => if x = 38 ∨ (x = 124 ∧ s ≠ 38) then stl s st (o ++ [tok x]) else (x :: st, o)
def opk (st : List Nat) : Nat := st.countP fun x => x == 33 || x == 40
def mEx (T : List Nat) : Nat → Nat → Bool → List Nat → List Nat → RS
  | 0, p, _, _, _ => (p, none)
  | f + 1, p, true, st, o => if T[p]? = some 33 ∨ T[p]? = some 40 then (if opk st = 4 then (p, none) else mEx T f (p + 1) true (T.getD p 0 :: st) o) else (match rdT T p with
    | (q, none) => (q, none)
    | (q, some t) => mEx T f q false (whl st (o ++ [t])).1 (whl st (o ++ [t])).2)
  | f + 1, p, false, st, o => if T[p]? = some 38 ∨ T[p]? = some 124 then mEx T f (p + 1) true (T.getD p 0 :: (stl (T.getD p 0) st o).1) (stl (T.getD p 0) st o).2 else (match (stl 124 st o).1 with
    | [] => (p, some (stl 124 st o).2)
    | _ :: st' => if T[p]? = some 41 then mEx T f (p + 1) false (whl st' (stl 124 st o).2).1 (whl st' (stl 124 st o).2).2 else (p, none))
theorem mEx_t {f p : Nat} {st o : List Nat} : mEx T (f + 1) p true st o = if T[p]? = some 33 ∨ T[p]? = some 40 then (if opk st = 4 then (p, none) else mEx T f (p + 1) true (T.getD p 0 :: st) o) else (match rdT T p with
    | (q, none) => (q, none)
    | (q, some t) => mEx T f q false (whl st (o ++ [t])).1 (whl st (o ++ [t])).2) := rfl
theorem mEx_f {f p : Nat} {st o : List Nat} : mEx T (f + 1) p false st o = if T[p]? = some 38 ∨ T[p]? = some 124 then mEx T f (p + 1) true (T.getD p 0 :: (stl (T.getD p 0) st o).1) (stl (T.getD p 0) st o).2 else (match (stl 124 st o).1 with
    | [] => (p, some (stl 124 st o).2)
    | _ :: st' => if T[p]? = some 41 then mEx T f (p + 1) false (whl st' (stl 124 st o).2).1 (whl st' (stl 124 st o).2).2 else (p, none)) := rfl
theorem mE_38 {f p : Nat} {st o : List Nat} (hf : 0 < f) : mEx T f p false (38 :: st) o = mEx T f p false st (o ++ [220]) := by
  obtain ⟨f, rfl⟩ : ∃ g, f = g + 1 := ⟨f - 1, by omega⟩
  have e : ∀ s, stl s (38 :: st) o = stl s st (o ++ [220]) := fun s => rfl
  rw [mEx_f, mEx_f, e, e]
def bas (st : List Nat) : Prop := st = [] ∨ ∃ r, st = 40 :: r
theorem stl_b {s : Nat} {st o : List Nat} (h : bas st) : stl s st o = (st, o) := by
  rcases h with rfl | ⟨r, rfl⟩
  · rfl
  · show (if 40 = 38 ∨ (40 = 124 ∧ s ≠ 38) then _ else _) = _
    rw [if_neg (by omega)]
def wl (w : Bool) (st : List Nat) : List Nat := if w = true then 124 :: st else st
theorem stl_w {w : Bool} {st o : List Nat} (h : bas st) : stl 124 (wl w st) o = (st, orO w o) ∧ stl 38 (wl w st) o = (wl w st, o) := by
  cases w with
  | false => exact ⟨stl_b h, stl_b h⟩
  | true =>
    refine ⟨?_, rfl⟩
    show stl 124 st (o ++ [230]) = _
    exact stl_b h
theorem opk_wl {w : Bool} {st : List Nat} : opk (wl w st) = opk st := by cases w <;> rfl
theorem mE_w {f p : Nat} {w : Bool} {st o : List Nat} (h : bas st) (h1 : ¬ T[p]? = some 38) (h2 : ¬ T[p]? = some 124) (hf : 0 < f) : mEx T f p false (wl w st) o = mEx T f p false st (orO w o) := by
  obtain ⟨f, rfl⟩ : ∃ g, f = g + 1 := ⟨f - 1, by omega⟩
  have hn : ¬ (T[p]? = some 38 ∨ T[p]? = some 124) := fun z => z.elim h1 h2
  rw [mEx_f, mEx_f, if_neg hn, if_neg hn, (stl_w h).1, stl_b h]
theorem getD_c {p c : Nat} (h : T[p]? = some c) : T.getD p 0 = c := by
  rw [List.getD_eq_getElem?_getD, h]
  rfl
def OKr (T : List Nat) (ro : Nat → List Nat → RS) (j : Nat) : Prop := ∀ st p o F, opk st + j = 4 → T.length < F + p → p ≤ T.length → match ro p o with
  | (q, none) => mEx T F p true st o = (q, none)
  | (q, some o') => ∃ F', T.length < F' + q ∧ mEx T F p true st o = mEx T F' q false (whl st o').1 (whl st o').2
theorem rdL_m {ro : Nat → List Nat → RS} {j : Nat} (hr : RG T ro j) (ho : OKr T ro j) {st : List Nat} (hb : bas st) (hs : opk st + j = 4) : ∀ (f p : Nat) (w : Bool) (o : List Nat) (F : Nat), T.length < f + p → T.length < F + p → p ≤ T.length → match rdL T ro f p w o with
    | (q, none) => mEx T F p false (wl w st) o = (q, none)
    | (q, some o') => ∃ F', T.length < F' + q ∧ mEx T F p false (wl w st) o = mEx T F' q false st o' := by
  intro f
  induction f with
  | zero => intro p w o F h1 h2 h3; omega
  | succ f ih =>
    intro p w o F h1 h2 h3
    obtain ⟨F, rfl⟩ : ∃ g, F = g + 1 := ⟨F - 1, by omega⟩
    unfold rdL
    by_cases c1 : T[p]? = some 38
    · have hp := (List.getElem?_eq_some_iff.mp c1).1
      rw [if_pos c1]
      have e0 : mEx T (F + 1) p false (wl w st) o = mEx T F (p + 1) true (38 :: wl w st) o := by
        rw [mEx_f, if_pos (Or.inl c1), getD_c c1, (stl_w hb).2]
      have hk := ho (38 :: wl w st) (p + 1) o F (by show opk (wl w st) + j = 4; rw [opk_wl]; exact hs) (by omega) (by omega)
      cases e : ro (p + 1) o with
      | mk q1 x =>
        rw [e] at hk
        cases x with
        | none => exact e0.trans hk
        | some o1 =>
          obtain ⟨a1, a2, a3, a4⟩ := hr _ _ _ _ e
          obtain ⟨F1, g1, g2⟩ := hk
          have e1 : mEx T (F + 1) p false (wl w st) o = mEx T F1 q1 false (wl w st) (o1 ++ [220]) := by
            rw [e0, g2]
            exact mE_38 (by omega)
          have := ih q1 w (o1 ++ [220]) F1 (by omega) g1 a2
          rw [e1]
          exact this
    · rw [if_neg c1]
      by_cases c2 : T[p]? = some 124
      · have hp := (List.getElem?_eq_some_iff.mp c2).1
        rw [if_pos c2]
        have e0 : mEx T (F + 1) p false (wl w st) o = mEx T F (p + 1) true (124 :: st) (orO w o) := by
          rw [mEx_f, if_pos (Or.inr c2), getD_c c2, (stl_w hb).1]
        have hk := ho (124 :: st) (p + 1) (orO w o) F hs (by omega) (by omega)
        cases e : ro (p + 1) (orO w o) with
        | mk q1 x =>
          rw [e] at hk
          cases x with
          | none => exact e0.trans hk
          | some o1 =>
            obtain ⟨a1, a2, a3, a4⟩ := hr _ _ _ _ e
            obtain ⟨F1, g1, g2⟩ := hk
            have := ih q1 true o1 F1 (by omega) g1 a2
            rw [e0, g2]
            exact this
      · rw [if_neg c2]
        exact ⟨F + 1, h2, mE_w hb c1 c2 (by omega)⟩
theorem rdC_m {ro : Nat → List Nat → RS} {j : Nat} (hT : T.length ≤ 100) (hr : RG T ro j) (ho : OKr T ro j) {st : List Nat} (hb : bas st) (hs : opk st + j = 4) {p F : Nat} {o : List Nat} (h2 : T.length < F + p) (h3 : p ≤ T.length) : match rdC T ro p o with
    | (q, none) => mEx T F p true st o = (q, none)
    | (q, some o') => ∃ F', T.length < F' + q ∧ mEx T F p true st o = mEx T F' q false st o' := by
  have hk := ho st p o F hs h2 h3
  unfold rdC
  cases e : ro p o with
  | mk q1 x =>
    rw [e] at hk
    cases x with
    | none => exact hk
    | some o1 =>
      obtain ⟨a1, a2, a3, a4⟩ := hr _ _ _ _ e
      obtain ⟨F1, g1, g2⟩ := hk
      have hw : whl st o1 = (st, o1) := by
        rcases hb with rfl | ⟨r, rfl⟩
        · rfl
        · rfl
      rw [hw] at g2
      have := rdL_m hr ho hb hs 101 q1 false o1 F1 (by omega) g1 a2
      rw [g2]
      exact this
theorem rdA_m {j : Nat} {st : List Nat} {p F : Nat} {o : List Nat} (h1 : ¬ (T[p]? = some 33 ∨ T[p]? = some 40)) (h2 : T.length < F + p) (h3 : p ≤ T.length) : match rdA T p o with
    | (q, none) => mEx T F p true st o = (q, none)
    | (q, some o') => ∃ F', T.length < F' + q ∧ mEx T F p true st o = mEx T F' q false (whl st o').1 (whl st o').2 := by
  obtain ⟨F, rfl⟩ : ∃ g, F = g + 1 := ⟨F - 1, by omega⟩
  unfold rdA
  rw [mEx_t, if_neg h1]
  cases e : rdT T p with
  | mk q x =>
    cases x with
    | none => rfl
    | some t =>
      obtain ⟨a1, -⟩ := rdT_s e
      exact ⟨F, by omega, rfl⟩
theorem rdT_33 {p : Nat} (h : T[p]? = some 33 ∨ T[p]? = some 40) : rdT T p = (p, none) := by
  unfold rdT
  have : T[p]?.bind lti = none := by
    rcases h with h | h <;> rw [h] <;> rfl
  rw [this]
theorem rdO_m (hT : T.length ≤ 100) : ∀ j, OKr T (rdO T j) j := by
  intro j
  induction j with
  | zero =>
    intro st p o F hs h2 h3
    by_cases c : T[p]? = some 33 ∨ T[p]? = some 40
    · obtain ⟨F, rfl⟩ : ∃ g, F = g + 1 := ⟨F - 1, by omega⟩
      have e : rdO T 0 p o = (p, none) := by
        show rdA T p o = _
        unfold rdA
        rw [rdT_33 c]
      rw [e]
      show mEx T (F + 1) p true st o = (p, none)
      rw [mEx_t, if_pos c, if_pos (by omega)]
    · exact rdA_m (j := 0) c h2 h3
  | succ j ih =>
    intro st p o F hs h2 h3
    obtain ⟨F, rfl⟩ : ∃ g, F = g + 1 := ⟨F - 1, by omega⟩
    have h4 : ¬ opk st = 4 := by omega
    unfold rdO
    by_cases c1 : T[p]? = some 33
    · have hp := (List.getElem?_eq_some_iff.mp c1).1
      rw [if_pos c1]
      have e0 : mEx T (F + 1) p true st o = mEx T F (p + 1) true (33 :: st) o := by
        rw [mEx_t, if_pos (Or.inl c1), if_neg h4, getD_c c1]
      have h33 : opk (33 :: st) = opk st + 1 := by simp [opk]
      have hk := ih (33 :: st) (p + 1) o F (by omega) (by omega) (by omega)
      cases e : rdO T j (p + 1) o with
      | mk q1 x =>
        rw [e] at hk
        cases x with
        | none => exact e0.trans hk
        | some o1 =>
          obtain ⟨F1, g1, g2⟩ := hk
          exact ⟨F1, g1, e0.trans g2⟩
    · rw [if_neg c1]
      by_cases c2 : T[p]? = some 40
      · have hp := (List.getElem?_eq_some_iff.mp c2).1
        rw [if_pos c2]
        have e0 : mEx T (F + 1) p true st o = mEx T F (p + 1) true (40 :: st) o := by
          rw [mEx_t, if_pos (Or.inr c2), if_neg h4, getD_c c2]
        have h40 : opk (40 :: st) = opk st + 1 := by simp [opk]
        have hk := rdC_m (st := 40 :: st) (p := p + 1) (F := F) (o := o) hT (rdO_g j) ih (Or.inr ⟨st, rfl⟩) (by omega) (by omega) (by omega)
        cases e : rdC T (rdO T j) (p + 1) o with
        | mk q1 x =>
          rw [e] at hk
          cases x with
          | none => exact e0.trans hk
          | some o1 =>
            obtain ⟨F1, g1, g2⟩ := hk
            obtain ⟨-, b2, -, -, b5, b6⟩ := rdC_g (rdO_g j) e
            obtain ⟨F1, rfl⟩ : ∃ g, F1 = g + 1 := ⟨F1 - 1, by omega⟩
            have e1 : mEx T (F1 + 1) q1 false (40 :: st) o1 = if T[q1]? = some 41 then mEx T F1 (q1 + 1) false (whl st o1).1 (whl st o1).2 else (q1, none) := by
              rw [mEx_f, if_neg (fun z => z.elim b5 b6), stl_b (Or.inr ⟨st, rfl⟩)]
            simp only
            by_cases c3 : T[q1]? = some 41
            · rw [if_pos c3] at e1 ⊢
              exact ⟨F1, by omega, e0.trans (g2.trans e1)⟩
            · rw [if_neg c3] at e1 ⊢
              exact e0.trans (g2.trans e1)
      · rw [if_neg c2]
        exact rdA_m (j := j) (fun z => z.elim c1 c2) h2 h3
theorem rdE_m (hT : T.length ≤ 100) {p F : Nat} {o : List Nat} (h2 : T.length < F + p) (h3 : p ≤ T.length) : mEx T F p true [] o = rdC T (rdO T 4) p o := by
  have hk := rdC_m (st := []) (p := p) (F := F) (o := o) hT (rdO_g 4) (rdO_m hT 4) (Or.inl rfl) rfl h2 h3
  cases e : rdC T (rdO T 4) p o with
  | mk q1 x =>
    rw [e] at hk
    cases x with
    | none => exact hk
    | some o1 =>
      obtain ⟨F1, g1, g2⟩ := hk
      obtain ⟨-, b2, -, -, b5, b6⟩ := rdC_g (rdO_g 4) e
      obtain ⟨F1, rfl⟩ : ∃ g, F1 = g + 1 := ⟨F1 - 1, by omega⟩
      rw [g2, mEx_f, if_neg (fun z => z.elim b5 b6)]
      rfl
end PPR
