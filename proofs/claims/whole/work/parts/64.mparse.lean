section PMP
variable {S S' : MS} {T : List Nat}
def sx (c : Nat) : Int32 := (nI c).toInt8.toInt32
theorem sx_lo : ∀ c, c < 128 → sx c = nI c := by decide +kernel
theorem sx_hi : ∀ c, c < 256 → 128 ≤ c → sx c < 0 := by decide +kernel
theorem sx_eq {c d : Nat} (hc : c < 256) (hd : d < 128) : (sx c = nI d) = (c = d) := by
  rcases Nat.lt_or_ge c 128 with q | q
  · rw [sx_lo c q, ne_n (by omega) (by omega)]
  · have h1 := sx_hi c hc q
    apply propext
    constructor
    · intro z
      rw [z] at h1
      exact absurd h1 (nI_pos (by omega))
    · intro z
      omega
theorem sx_dg : ∀ c, c < 256 → ix 10 (sx c - nI 48) = dgi c := by decide +kernel
theorem sx_in : ∀ c, c < 256 → ((¬ sx c < nI 48 ∧ ¬ nI 57 < sx c) ↔ (dgi c).isSome = true) := by decide +kernel
def nxI (T : List Nat) (p : Nat) : Int32 := match T[p]? with
  | some c => sx c
  | none => -1
def tOK (T : List Nat) : Prop := T.length ≤ 100 ∧ ∀ c ∈ T, c < 256
theorem tOK_c (h : tOK T) {p c : Nat} (q : T[p]? = some c) : c < 256 := h.2 c (List.mem_of_getElem? q)
theorem nxI_eq (h : tOK T) {p d : Nat} (hd : d < 128) : (nxI T p = nI d) = (T[p]? = some d) := by
  unfold nxI
  cases q : T[p]? with
  | none =>
    apply propext
    constructor
    · intro z
      have z' : (-1 : Int32) = nI d := z
      have := nI_pos (n := d) (by omega)
      rw [← z'] at this
      exact absurd (by decide) this
    · intro z; cases z
  | some c =>
    show (sx c = nI d) = _
    rw [sx_eq (tOK_c h q) hd]
    apply propext
    constructor
    · intro z; rw [z]
    · intro z; exact Option.some.inj z
theorem nxI_dg (h : tOK T) {p : Nat} : ix 10 (nxI T p - nI 48) = T[p]?.bind dgi := by
  unfold nxI
  cases q : T[p]? with
  | none => rfl
  | some c => exact sx_dg c (tOK_c h q)
def PX (T : List Nat) (p : Nat) (S : MS) : Prop := S.1 10 = nI T.length ∧ (∀ i c, T[i]? = some c → S.2.1 12 i = sx c) ∧ S.1 11 = nI p
def PO (f : Nat) (o : List Nat) (S : MS) : Prop := S.1 20 = nI (f + o.length) ∧ ∀ i t, o[i]? = some t → S.2.1 19 (f + i) = nI (eM t)
def SKx (S : MS) : List Nat → Prop
  | [] => True
  | x :: st => S.2.1 21 st.length = nI x ∧ (x = 33 ∨ x = 38 ∨ x = 40 ∨ x = 124) ∧ SKx S st
def PK (st : List Nat) (S : MS) : Prop := S.1 22 = nI st.length ∧ S.1 23 = nI (opk st) ∧ SKx S st
def RPp (T : List Nat) (p f : Nat) (o st : List Nat) (S : MS) : Prop := PX T p S ∧ PO f o S ∧ PK st S
theorem PX.fr {p q : Nat} (h : PX T p S) (h10 : S'.1 10 = S.1 10) (h12 : S'.2.1 12 = S.2.1 12) (h11 : S'.1 11 = nI q) : PX T q S' := ⟨h10.trans h.1, fun i c z => by rw [h12]; exact h.2.1 i c z, h11⟩
theorem PO.fr {f : Nat} {o : List Nat} (h : PO f o S) (h20 : S'.1 20 = S.1 20) (h19 : S'.2.1 19 = S.2.1 19) : PO f o S' := ⟨h20.trans h.1, fun i t z => by rw [h19]; exact h.2 i t z⟩
theorem SKx.fr (h21 : S'.2.1 21 = S.2.1 21) : ∀ {st : List Nat}, SKx S st → SKx S' st
  | [], _ => trivial
  | _ :: _, h => ⟨by rw [h21]; exact h.1, h.2.1, SKx.fr h21 h.2.2⟩
theorem SKx.up {j : Nat} {x : Int32} : ∀ {st : List Nat}, SKx S st → st.length ≤ j → SKx (mR S 21 j x) st
  | [], _, _ => trivial
  | _ :: st, h, hj => ⟨by rw [mR_s, if_neg (by simp at hj; omega)]; exact h.1, h.2.1, SKx.up h.2.2 (by simp at hj; omega)⟩
def FRg (c g R : Nat) (S S' : MS) : Prop := (∀ k, k ∉ [11, 20, 22, 23] → S'.1 k = S.1 k) ∧ (∀ k, k ∉ [14, 15, 16, 17, 18, 19, 21] → S'.2.1 k = S.2.1 k) ∧ S'.2.2 = S.2.2 ∧ (∀ k, k ∈ [15, 16, 17, 18] → ∀ i, i < c → S'.2.1 k i = S.2.1 k i) ∧ (∀ i, i < g → S'.2.1 19 i = S.2.1 19 i) ∧ ∀ i, i < R → S'.2.1 14 i = S.2.1 14 i
variable {c g R : Nat}
theorem FRg.rf : FRg c g R S S := ⟨fun _ _ => rfl, fun _ _ => rfl, rfl, fun _ _ _ _ => rfl, fun _ _ => rfl, fun _ _ => rfl⟩
theorem FRg.tr {U : MS} (h : FRg c g R S S') (k : FRg c g R S' U) : FRg c g R S U := ⟨fun i q => (k.1 i q).trans (h.1 i q), fun i q => (k.2.1 i q).trans (h.2.1 i q), k.2.2.1.trans h.2.2.1, fun i q j z => (k.2.2.2.1 i q j z).trans (h.2.2.2.1 i q j z), fun i q => (k.2.2.2.2.1 i q).trans (h.2.2.2.2.1 i q), fun i q => (k.2.2.2.2.2 i q).trans (h.2.2.2.2.2 i q)⟩
theorem FRg.wk {c' g' : Nat} (h : FRg c g R S S') (hc : c' ≤ c) (hg : g' ≤ g) : FRg c' g' R S S' := ⟨h.1, h.2.1, h.2.2.1, fun i q j z => h.2.2.2.1 i q j (by omega), fun i q => h.2.2.2.2.1 i (by omega), h.2.2.2.2.2⟩
theorem FRg.mP {k : Nat} {x : Int32} (h : k ∈ [11, 20, 22, 23]) : FRg c g R S (mP S k x) := by
  refine ⟨fun j q => ?_, fun _ _ => rfl, rfl, fun _ _ _ _ => rfl, fun _ _ => rfl, fun _ _ => rfl⟩
  have : j ≠ k := fun e => q (e ▸ h)
  exact mP_n this
theorem FRg.m21 {j : Nat} {x : Int32} : FRg c g R S (mR S 21 j x) := ⟨fun _ _ => rfl, fun k q => mR_n (fun e => q (by rw [e]; decide)), rfl, fun k q j z => by rw [mR_n (fun e => by rw [e] at q; exact absurd q (by decide))], fun i q => by rw [mR_n (by decide)], fun i q => by rw [mR_n (by decide)]⟩
theorem FRg.m19 {j : Nat} {x : Int32} (hj : g ≤ j) : FRg c g R S (mR S 19 j x) := ⟨fun _ _ => rfl, fun k q => mR_n (fun e => q (by rw [e]; decide)), rfl, fun k q j z => by rw [mR_n (fun e => by rw [e] at q; exact absurd q (by decide))], fun i q => by rw [mR_s, if_neg (by omega)], fun i q => by rw [mR_n (by decide)]⟩
theorem FRg.m14 {j : Nat} {x : Int32} (hj : R ≤ j) : FRg c g R S (mR S 14 j x) := ⟨fun _ _ => rfl, fun k q => mR_n (fun e => q (by rw [e]; decide)), rfl, fun k q j z => by rw [mR_n (fun e => by rw [e] at q; exact absurd q (by decide))], fun i q => by rw [mR_n (by decide)], fun i q => by rw [mR_s, if_neg (by omega)]⟩
theorem FRg.m15 {k j : Nat} {x : Int32} (hk : k ∈ [15, 16, 17, 18]) (hj : c ≤ j) : FRg c g R S (mR S k j x) := by
  have h1 : k ≠ 19 := fun e => by rw [e] at hk; exact absurd hk (by decide)
  have h2 : k ≠ 14 := fun e => by rw [e] at hk; exact absurd hk (by decide)
  have h3 : k ∈ [14, 15, 16, 17, 18, 19, 21] := by
    have : ∀ k, k ∈ [15, 16, 17, 18] → k ∈ [14, 15, 16, 17, 18, 19, 21] := by decide
    exact this k hk
  refine ⟨fun _ _ => rfl, fun l q => mR_n (fun e => q (by rw [e]; exact h3)), rfl, fun l q i z => ?_, fun i q => by rw [mR_n h1.symm], fun i q => by rw [mR_n h2.symm]⟩
  by_cases e : l = k
  · rw [e, mR_s, if_neg (by omega)]
  · rw [mR_n e]
-- next, takes, put
theorem m_nx (hT : tOK T) {p : Nat} (h : PX T p S) (hp : p ≤ T.length) : mm_next S = some (nxI T p, S) := by
  have h1 := hT.1
  unfold mm_next
  rw [h.1, h.2.2, nI_clamp (by omega), vin_n (by omega)]
  by_cases q : T.length ≤ p
  · rw [if_pos (by rw [le_n (by omega) (by omega)]; exact q)]
    have : T[p]? = none := List.getElem?_eq_none q
    unfold nxI
    rw [this]
  · rw [if_neg (by rw [le_n (by omega) (by omega)]; exact q), decide_eq_true (show p < 100 by omega), ck_t]
    have e := List.getElem?_eq_getElem (l := T) (i := p) (by omega)
    rw [h.2.1 p _ e]
    unfold nxI
    rw [e]
theorem m_tk (hT : tOK T) {p d : Nat} (h : PX T p S) (hp : p ≤ T.length) (hd : d < 128) : mm_takes S (nI d) = if T[p]? = some d then some (1, mP S 11 (nI (p + 1))) else some (0, S) := by
  unfold mm_takes
  rw [m_nx hT h hp, bd_s]
  have e := nxI_eq hT (p := p) hd
  by_cases q : T[p]? = some d
  · rw [if_pos q, if_pos (e ▸ q), h.2.2, q1, nI_add]
    rfl
  · rw [if_neg q, if_neg (e ▸ q)]
theorem RPp.at {p q f : Nat} {o st : List Nat} (h : RPp T p f o st S) : RPp T q f o st (mP S 11 (nI q)) := ⟨h.1.fr rfl rfl rfl, h.2.1.fr rfl rfl, h.2.2.1, h.2.2.2.1, SKx.fr (S := S) (S' := mP S 11 (nI q)) rfl h.2.2.2.2⟩
theorem m_put {p f t : Nat} {o st : List Nat} (h : RPp T p f o st S) (hf : f + o.length < 1000) (hg : g ≤ f) : ∃ S', mm_put S (nI (eM t)) = some (0, S') ∧ RPp T p f (o ++ [t]) st S' ∧ FRg c g R S S' := by
  refine ⟨mP (mR S 19 (f + o.length) (nI (eM t))) 20 (nI (f + o.length + 1)), ?_, ⟨h.1.fr rfl rfl (by rw [mP_n (by decide)]; exact h.1.2.2), ⟨?_, ?_⟩, h.2.2.1, h.2.2.2.1, SKx.fr (by rw [mP_r, mR_n (by decide)]) h.2.2.2.2⟩, (FRg.m19 (by omega)).tr (FRg.mP (by decide))⟩
  · unfold mm_put
    rw [h.2.1.1, vin_n (by omega), decide_eq_true hf, ck_t, nI_clamp (by omega), lt_t, mR_i, h.2.1.1, q1, nI_add, lt_t]
  · rw [mP_s, List.length_append]
    rfl
  · intro i x hx
    rw [mP_r, mR_s]
    by_cases q : i = o.length
    · subst q
      rw [List.getElem?_append_right (Nat.le_refl _), Nat.sub_self] at hx
      obtain rfl : t = x := Option.some.inj hx
      rw [if_pos rfl]
    · have hi := (List.getElem?_eq_some_iff.mp hx).1
      rw [List.length_append] at hi
      rw [if_neg (by omega)]
      rw [List.getElem?_append_left (by simp at hi; omega)] at hx
      exact h.2.1.2 i x hx
theorem opk_33 {st : List Nat} : opk (33 :: st) = opk st + 1 := by simp [opk]
theorem opk_40 {st : List Nat} : opk (40 :: st) = opk st + 1 := by simp [opk]
theorem opk_o {x : Nat} {st : List Nat} (h : x ≠ 33) (h2 : x ≠ 40) : opk (x :: st) = opk st := by simp [opk, h, h2]
theorem opk_le {st : List Nat} : opk st ≤ st.length := List.countP_le_length
theorem nIs {n : Nat} (h : n + 1 < 2 ^ 31) : nI (n + 1) - nI 1 = nI n := by rw [pk_sub (by omega)]; rfl
theorem m_whl {p f : Nat} (hg : g ≤ f) : ∀ (st o : List Nat) (S : MS) (fuel : Nat), RPp T p f o st S → f + o.length + st.length ≤ 1000 → st.length ≤ 100 → st.length < fuel → ∃ S', mm_whole_0L fuel S = some (0, S') ∧ RPp T p f (whl st o).2 (whl st o).1 S' ∧ FRg c g R S S' := by
  intro st
  induction st with
  | nil =>
    intro o S fuel h hb hs hf
    obtain ⟨fu, rfl⟩ : ∃ fu, fuel = fu + 1 := ⟨fuel - 1, by omega⟩
    refine ⟨S, ?_, h, FRg.rf⟩
    show mm_whole_0 _ _ = _
    unfold mm_whole_0
    rw [h.2.2.1]
    rfl
  | cons x st ih =>
    intro o S fuel h hb hs hf
    obtain ⟨fu, rfl⟩ : ∃ fu, fuel = fu + 1 := ⟨fuel - 1, by omega⟩
    obtain ⟨k22, k23, k21, kx, kr⟩ := h.2.2
    rw [List.length_cons] at hb hs hf k22
    show ∃ S', mm_whole_0 _ _ = _ ∧ _
    unfold mm_whole_0
    have h0 : ¬ nI (st.length + 1) ≤ 0 := by rw [q0, le_n (by omega) (by decide)]; omega
    rw [k22, if_neg h0, q1, nIs (by omega), vin_n (by omega), decide_eq_true (show st.length < 101 by omega), ck_t, nI_clamp (by omega), k21]
    have e33 : (nI x = 33) = (x = 33) := by rw [q33, ne_n (by omega) (by decide)]
    by_cases q : x = 33
    · subst q
      obtain ⟨S1, e1, h1, f1⟩ := m_put (t := 210) (c := c) (g := g) (R := R) h (by omega) hg
      have e1' : mm_put S 33 = some (0, S1) := e1
      have j22 : S1.1 22 = nI (st.length + 1) := h1.2.2.1
      have j23 : S1.1 23 = nI (opk st + 1) := by rw [h1.2.2.2.1, opk_33]
      rw [if_pos (e33 ▸ rfl), e1', bd_s, j22, nIs (by omega), lt_t, mP_n (by decide), j23, nIs (by have := opk_le (st := st); omega), lt_t]
      have h2 : RPp T p f (o ++ [210]) st (mP (mP S1 22 (nI st.length)) 23 (nI (opk st))) := ⟨h1.1.fr rfl rfl (by rw [mP_n (by decide), mP_n (by decide)]; exact h1.1.2.2), h1.2.1.fr rfl rfl, by rw [mP_n (by decide), mP_s], mP_s, SKx.fr (S' := mP (mP S1 22 (nI st.length)) 23 (nI (opk st))) (S := S1) rfl h1.2.2.2.2.2.2⟩
      obtain ⟨S2, e2, h3, f2⟩ := ih (o ++ [210]) _ fu h2 (by simp; omega) (by omega) (by omega)
      exact ⟨S2, e2, h3, f1.tr (((FRg.mP (by decide)).tr (FRg.mP (by decide))).tr f2)⟩
    · rw [if_neg (e33 ▸ q)]
      refine ⟨S, rfl, ?_, FRg.rf⟩
      have : whl (x :: st) o = (x :: st, o) := by
        show (if x = 33 then _ else _) = _
        rw [if_neg q]
      rw [this]
      exact h
theorem m_stl {p f s : Nat} (hs2 : s = 38 ∨ s = 124) (hg : g ≤ f) : ∀ (st o : List Nat) (S : MS) (fuel : Nat), RPp T p f o st S → f + o.length + st.length ≤ 1000 → st.length ≤ 100 → st.length < fuel → ∃ S', mm_settle_0L fuel (nI s) S = some (0, S') ∧ RPp T p f (stl s st o).2 (stl s st o).1 S' ∧ FRg c g R S S' := by
  intro st
  induction st with
  | nil =>
    intro o S fuel h hb hs hf
    obtain ⟨fu, rfl⟩ : ∃ fu, fuel = fu + 1 := ⟨fuel - 1, by omega⟩
    refine ⟨S, ?_, h, FRg.rf⟩
    show mm_settle_0 _ _ _ = _
    unfold mm_settle_0
    rw [h.2.2.1]
    rfl
  | cons x st ih =>
    intro o S fuel h hb hs hf
    obtain ⟨fu, rfl⟩ : ∃ fu, fuel = fu + 1 := ⟨fuel - 1, by omega⟩
    obtain ⟨k22, k23, k21, kx, kr⟩ := h.2.2
    rw [List.length_cons] at hb hs hf k22
    have h0 : ¬ nI (st.length + 1) ≤ 0 := by rw [q0, le_n (by omega) (by decide)]; omega
    have h45 : (x = 38 ∨ x = 124) → ∃ S', mm_settle_45 (mm_settle_0L fu) (nI s) S = some (0, S') ∧ RPp T p f (stl s st (o ++ [tok x])).2 (stl s st (o ++ [tok x])).1 S' ∧ FRg c g R S S' := by
      intro hx
      have hop : opk (x :: st) = opk st := opk_o (by omega) (by omega)
      have h1 : RPp T p f o st (mP S 22 (nI st.length)) := ⟨h.1.fr rfl rfl (by rw [mP_n (by decide)]; exact h.1.2.2), h.2.1.fr rfl rfl, mP_s, by rw [mP_n (by decide), k23, hop], SKx.fr (S := S) (S' := mP S 22 (nI st.length)) rfl kr⟩
      obtain ⟨S1, e1, h2, f1⟩ := m_put (t := tok x) (c := c) (g := g) (R := R) h1 (by omega) hg
      have etok : nI (eM (tok x)) = nI x := by rcases hx with rfl | rfl <;> rfl
      rw [etok] at e1
      obtain ⟨S2, e2, h3, f2⟩ := ih (o ++ [tok x]) S1 fu h2 (by simp; omega) (by omega) (by omega)
      refine ⟨S2, ?_, h3, (FRg.mP (by decide)).tr (f1.tr f2)⟩
      unfold mm_settle_45
      rw [k22, q1, nIs (by omega), lt_t, mP_s, vin_n (by omega), decide_eq_true (show st.length < 101 by omega), ck_t, nI_clamp (by omega), mP_r, k21, e1, bd_s, e2]
    have e38 : (nI x = 38) = (x = 38) := by rw [q38, ne_n (by omega) (by decide)]
    have e124 : (nI x = 124) = (x = 124) := by rw [q124, ne_n (by omega) (by decide)]
    have es38 : (nI s = 38) = (s = 38) := by rw [q38, ne_n (by omega) (by decide)]
    have hstop : ¬ (x = 38 ∨ (x = 124 ∧ s ≠ 38)) → RPp T p f (stl s (x :: st) o).2 (stl s (x :: st) o).1 S := by
      intro hn
      have : stl s (x :: st) o = (x :: st, o) := by
        show (if x = 38 ∨ (x = 124 ∧ s ≠ 38) then _ else _) = _
        rw [if_neg hn]
      rw [this]
      exact h
    have hgo : (x = 38 ∨ (x = 124 ∧ s ≠ 38)) → stl s (x :: st) o = stl s st (o ++ [tok x]) := by
      intro hn
      show (if x = 38 ∨ (x = 124 ∧ s ≠ 38) then _ else _) = _
      rw [if_pos hn]
    show ∃ S', mm_settle_0 _ _ _ = _ ∧ _
    unfold mm_settle_0
    rw [k22, if_neg h0, q1, nIs (by omega), vin_n (by omega), decide_eq_true (show st.length < 101 by omega), ck_t, ck_t, nI_clamp (by omega), k21]
    by_cases c1 : x = 38
    · rw [if_pos (e38 ▸ c1), hgo (Or.inl c1)]
      exact h45 (Or.inl c1)
    · rw [if_neg (e38 ▸ c1)]
      by_cases c2 : x = 124
      · rw [if_pos (e124 ▸ c2)]
        by_cases c3 : s = 38
        · rw [if_pos (es38 ▸ c3)]
          exact ⟨S, rfl, hstop (by omega), FRg.rf⟩
        · rw [if_neg (es38 ▸ c3), hgo (Or.inr ⟨c2, c3⟩)]
          exact h45 (Or.inr c2)
      · rw [if_neg (e124 ▸ c2)]
        exact ⟨S, rfl, hstop (by omega), FRg.rf⟩
end PMP
