section PMWY
variable {A A' : AA} {S S' : MS}
def wrl (A : AA) (t : Nat) (io : Option Nat) (l w e : Nat) : List Nat → Nat → Bool × Nat
  | [], c => (true, c)
  | r :: L, c => if aL A r = l then (match io with
    | some i => if i + c < aTl A t then (if aTi A t (i + c) = (oI (wyo A (v0 A) w e r)).toInt64 then wrl A t io l w e L (c + 1) else (false, c)) else (false, 100 + c)
    | none => (false, 100 + c)) else wrl A t io l w e L c
def wayF (A : AA) (t : Nat) (io : Option Nat) (l : Nat) : Nat → List Nat → Nat → Nat → Nat
  | 0, _, _, _ => 0
  | _ + 1, [], _, c => c
  | f + 1, w :: rest, e, c => match wrl A t io l w e (List.range (aR A)) c with
    | (false, x) => x
    | (true, c') => if c' = 0 then 0 else wayF A t io l f (if e = 1 then rest else aP A w ++ rest) 0 c'
def sWay (A : AA) (a b c d f : Int32) : Int32 := match ix 6 a, ix (aN A) c, ix 4 d, ix 2 f with
  | some t, some w, some e, some l => if aTs A t = -1 ∨ aTs A t = 0 then nI (wayF A t (ix 60 b) l 61 [w] e 0) else -12
  | _, _, _, _ => -1
def SI (A : AA) : List Nat → Prop
  | [] => True
  | v :: rest => rest.length + 3 * v ≤ 39 ∧ v < aN A ∧ SI A rest
def SR (S : MS) : List Nat → Prop
  | [] => True
  | v :: rest => S.2.1 33 rest.length = nI v ∧ SR S rest
theorem SR_up {S : MS} {j : Nat} {x : Int32} : ∀ {st : List Nat}, SR S st → st.length ≤ j → SR (mR S 33 j x) st
  | [], _, _ => trivial
  | b :: st, h, hj => ⟨by rw [mR_s, if_neg (by simp at hj; omega)]; exact h.1, SR_up h.2 (by simp at hj; omega)⟩
theorem SR_fr {S T : MS} (h : T.2.1 33 = S.2.1 33) : ∀ {st : List Nat}, SR S st → SR T st
  | [], _ => trivial
  | _ :: _, q => ⟨by rw [h]; exact q.1, SR_fr h q.2⟩
theorem SI_len : ∀ {st : List Nat}, SI A st → st.length ≤ 40
  | [], _ => by decide
  | _ :: _, h => by have := h.1; simp; omega
theorem SI_app {w : Nat} {rest : List Nat} (hr : SI A rest) (hw : w < aN A) (hq : rest.length + 3 * w ≤ 39) : ∀ {L : List Nat}, L.length ≤ 4 → (∀ p ∈ L, p < w) → SI A (L ++ rest)
  | [], _, _ => hr
  | p :: L, hl, hp => by
    have h1 := hp p List.mem_cons_self
    refine ⟨?_, by omega, SI_app hr hw hq (by simp at hl; omega) (fun x hx => hp x (List.mem_cons_of_mem _ hx))⟩
    show (L ++ rest).length + 3 * p ≤ 39
    rw [List.length_append]
    simp at hl
    omega
theorem wrl_le {t : Nat} {io : Option Nat} {l w e : Nat} (hl : aTl A t ≤ 60) : ∀ (L : List Nat) (c : Nat), c ≤ 60 → c ≤ (wrl A t io l w e L c).2 ∧ ((wrl A t io l w e L c).1 = true → (wrl A t io l w e L c).2 ≤ 60)
  | [], c, h => ⟨Nat.le_refl _, fun _ => h⟩
  | r :: L, c, h => by
    unfold wrl
    by_cases q : aL A r = l
    · rw [if_pos q]
      cases io with
      | none => exact ⟨by show c ≤ 100 + c; omega, fun z => by cases z⟩
      | some i =>
        show c ≤ (if _ then _ else _ : Bool × Nat).2 ∧ _
        by_cases q2 : i + c < aTl A t
        · simp only [if_pos q2]
          by_cases q3 : aTi A t (i + c) = (oI (wyo A (v0 A) w e r)).toInt64
          · simp only [if_pos q3]
            have := wrl_le (io := some i) (w := w) (e := e) (l := l) hl L (c + 1) (by omega)
            exact ⟨by omega, this.2⟩
          · simp only [if_neg q3]
            exact ⟨Nat.le_refl _, fun z => by cases z⟩
        · simp only [if_neg q2]
          exact ⟨by omega, fun z => by cases z⟩
    · rw [if_neg q]
      exact wrl_le hl L c h
-- no rule of the land: the count stays; one: it grows
theorem wrl_gr {t : Nat} {io : Option Nat} {l w e : Nat} : ∀ (L : List Nat) (c : Nat), (wrl A t io l w e L c).1 = true → (wrl A t io l w e L c).2 = c + L.countP (fun r => aL A r == l)
  | [], c, _ => rfl
  | r :: L, c, h => by
    unfold wrl at h ⊢
    rw [List.countP_cons]
    by_cases q : aL A r = l
    · rw [if_pos q] at h ⊢
      cases io with
      | none => cases h
      | some i =>
        by_cases q2 : i + c < aTl A t
        · simp only [if_pos q2] at h ⊢
          by_cases q3 : aTi A t (i + c) = (oI (wyo A (v0 A) w e r)).toInt64
          · simp only [if_pos q3] at h ⊢
            have := wrl_gr (io := some i) (w := w) (e := e) (l := l) L (c + 1) h
            rw [this]
            simp [q]
            omega
          · simp only [if_neg q3] at h
            cases h
        · simp only [if_neg q2] at h
          cases h
    · rw [if_neg q] at h ⊢
      rw [wrl_gr L c h]
      simp [q]
theorem m_wpush {t l w e c : Nat} {x2 : Int32} {k55 : Int32 → Int32 → Int32 → Int32 → Int32 → Int32 → MS → Option (Int32 × MS)} {rest : List Nat} (hw : w < aN A) (he : e < 4) (hr : SI A rest) (hq : rest.length + 3 * w ≤ 39) : ∀ (k fuel : Nat) (S : MS), MV A (v0 A) S → k ≤ (aP A w).length → SR S ((aP A w).drop k ++ rest) → (e = 1 → k = (aP A w).length) → k < fuel → ∃ S', mm_way_185L k55 fuel (nI t) x2 (nI l) (nI ((aP A w).drop k ++ rest).length) (nI c) (nI e) (nI w) (nI k - nI 1) S = mm_way_224 k55 (nI t) x2 (nI l) (nI (if e = 1 then rest else aP A w ++ rest).length) (nI c) S' ∧ MV A (v0 A) S' ∧ SR S' (if e = 1 then rest else aP A w ++ rest) := by
  intro k
  induction k with
  | zero =>
    intro fuel S h hk hs he1 hf
    obtain ⟨fu, rfl⟩ : ∃ fu, fuel = fu + 1 := ⟨fuel - 1, by omega⟩
    rw [List.drop_zero] at hs ⊢
    have e0 : (if e = 1 then rest else aP A w ++ rest) = aP A w ++ rest := by
      by_cases q : e = 1
      · have hn : aP A w = [] := List.eq_nil_of_length_eq_zero (he1 q).symm
        rw [if_pos q, hn]
        rfl
      · rw [if_neg q]
    rw [e0]
    refine ⟨S, ?_, h, hs⟩
    show mm_way_185 _ _ _ _ _ _ _ _ _ _ _ = _
    unfold mm_way_185
    rw [if_pos (show nI 0 - nI 1 < 0 by decide)]
  | succ k ih =>
    intro fuel S h hk hs he1 hf
    obtain ⟨fu, rfl⟩ : ∃ fu, fuel = fu + 1 := ⟨fuel - 1, by omega⟩
    have hN := wfN h.1
    have hp4 := wfPl h.1 w
    by_cases q : e = 1
    · have hk2 := he1 q
      have hd : (aP A w).drop (k + 1) = [] := List.drop_eq_nil_of_le (by omega)
      rw [hd] at hs ⊢
      rw [if_pos q]
      refine ⟨S, ?_, h, hs⟩
      show mm_way_185 _ _ _ _ _ _ _ _ _ _ _ = _
      unfold mm_way_185
      have h1 : ¬ nI (k + 1) - nI 1 < 0 := by rw [pk_sub (by omega)]; exact nI_pos (by omega)
      rw [if_neg h1, if_pos (by rw [q]; rfl)]
      rfl
    · obtain ⟨p, hp1, hp2⟩ := ge_some (L := aP A w) (i := k) (by omega)
      have g8 := ((h.2.1.1.2 w (by omega)).2.2 k (by omega))
      rw [getD_s hp1] at g8
      have hd : (aP A w).drop k = p :: (aP A w).drop (k + 1) := by
        rw [List.drop_eq_getElem_cons (by omega)]
        congr 1
        exact Option.some.inj ((List.getElem?_eq_getElem (by omega)).symm.trans hp1)
      have hsi : SI A ((aP A w).drop (k + 1) ++ rest) := SI_app hr hw hq (by simp; omega) (fun x hx => wfP h.1 hw x (List.mem_of_mem_drop hx))
      have hl := SI_len hsi
      have f33 : Fm [] ev6 S (mR S 33 ((aP A w).drop (k + 1) ++ rest).length (nI p)) := Fm.mR (by decide)
      obtain ⟨S', e1, v1, r1⟩ := ih fu (mR S 33 ((aP A w).drop (k + 1) ++ rest).length (nI p)) (h.fm f33) (by omega) (by
        have hsr : SR (mR S 33 ((aP A w).drop (k + 1) ++ rest).length (nI p)) (p :: ((aP A w).drop (k + 1) ++ rest)) := ⟨by rw [mR_s, if_pos rfl], SR_up hs (Nat.le_refl _)⟩
        rw [hd]
        exact hsr) (fun z => absurd z q) (by omega)
      refine ⟨S', ?_, v1, r1⟩
      show mm_way_185 _ _ _ _ _ _ _ _ _ _ _ = _
      unfold mm_way_185
      have e2 : nI (k + 1) - nI 1 = nI k := by rw [pk_sub (by omega)]; rfl
      have e3 : nI k + -nI 1 = nI k - nI 1 := (Int32.sub_eq_add_neg _ _).symm
      have hw14 : w < 14 := by omega
      rw [e2]
      rw [if_neg (nI_pos (n := k) (by omega)), if_neg (show ¬ nI e = 1 by rw [q1, ne_n (by omega) (by decide)]; exact q)]
      simp (discharger := omega) only [q4, q1, bd_s, ck_t, lt_t, nI_add, pk_mul, nI_clamp, ne_n, lt_n, le_n, vin_n, decide_true, decide_false, if_true, if_false, show 4 * w + k < 56 by omega, show ((aP A w).drop (k + 1) ++ rest).length < 100 by omega, g8]
      rw [e3]
      rw [hd, List.cons_append, List.length_cons] at e1
      exact e1
theorem m_w75 {t l w e : Nat} {x2 : Int32} {io : Option Nat} (hio : io = ix 60 x2) {k55 : Int32 → Int32 → Int32 → Int32 → Int32 → Int32 → MS → Option (Int32 × MS)} {x6 : Int32} (ht : t < 6) (hw : w < aN A) (he : e < 4) (hl : l < 2) : ∀ (n k fuel c : Nat) (S : MS), MV A (v0 A) S → k + n = aR A → n < fuel → c ≤ 60 → ∃ S', Fm [] ev1 S S' ∧ mm_way_75L k55 fuel (nI t) x2 (nI l) x6 (nI c) (nI e) (nI w) (nI k) S = (match wrl A t io l w e (List.range' k n) c with
    | (false, x) => some (nI x, S')
    | (true, x) => mm_way_185L k55 4000 (nI t) x2 (nI l) x6 (nI x) (nI e) (nI w) (nI (aP A w).length - nI 1) S') := by
  intro n
  induction n with
  | zero =>
    intro k fuel c S h hk hf hc
    obtain ⟨fu, rfl⟩ : ∃ fu, fuel = fu + 1 := ⟨fuel - 1, by omega⟩
    have hR := wfR h.1
    have hN := wfN h.1
    have g := h.2.1.2.1.1
    have g7 := (h.2.1.1.2 w (by omega)).2.1
    refine ⟨S, Fm.rf, ?_⟩
    show mm_way_75 _ _ _ _ _ _ _ _ _ _ _ = _
    unfold mm_way_75
    simp (discharger := omega) only [q1, bd_s, ck_t, lt_t, nI_add, pk_mul, nI_clamp, ne_n, lt_n, le_n, vin_n, decide_true, decide_false, if_true, if_false, g, g7, show aR A ≤ k by omega, show w < 14 by omega]
    rfl
  | succ n ih =>
    intro k fuel c S h hk hf hc
    obtain ⟨fu, rfl⟩ : ∃ fu, fuel = fu + 1 := ⟨fuel - 1, by omega⟩
    have hR := wfR h.1
    have hN := wfN h.1
    have g := h.2.1.2.1.1
    have hk' : k < aR A := by omega
    have g13 := (h.2.1.2.1.2 k hk').1
    have hL := wfL h.1 hk'
    obtain ⟨g36, g37, g38⟩ := h.2.1.2.2.2.2.2.2.2.2.2 t ht
    obtain ⟨-, hl60, hm⟩ := h.1.2.2.2.2.2.2.2.2.2 t ht
    have slt := srt_lt h.1 ht
    show ∃ S', _ ∧ mm_way_75 _ _ _ _ _ _ _ _ _ _ _ = _
    unfold mm_way_75 mm_way_168 mm_way_127
    simp (discharger := omega) only [q0, q1, q60, q100, bd_s, ck_t, lt_t, nI_add, pk_mul, nI_clamp, ne_n, lt_n, le_n, vin_n, decide_true, decide_false, if_true, if_false, g, g13, g36, g37, slt, ht, show ¬ (aR A ≤ k) by omega, show k < 10 by omega]
    rw [List.range'_succ]
    unfold wrl
    by_cases hl2 : aL A k = l
    · simp only [if_pos hl2]
      by_cases hs : aTs A t = -nI 1
      · have h0 := hm (hs.trans rfl)
        rw [if_pos hs]
        cases io with
        | none => exact ⟨S, Fm.rf, rfl⟩
        | some i =>
          simp only [h0, Nat.not_lt_zero, if_false]
          exact ⟨S, Fm.rf, rfl⟩
      · rw [if_neg hs]
        cases hi : ix 60 x2 with
        | none =>
          rw [hi] at hio
          subst hio
          rcases ix_n hi with z | z
          · have z' : x2 < nI 0 := z
            rw [if_pos z']
            exact ⟨S, Fm.rf, rfl⟩
          · have z1 : ¬ x2 < nI 0 := by
              rw [Int32.le_iff_toInt_le, nI_toInt (by decide)] at z
              rw [Int32.lt_iff_toInt_lt]
              show ¬ x2.toInt < (0 : Int)
              omega
            have z2 : ¬ x2 ≤ nI (aTl A t) - nI c - nI 1 := by
              rw [Int32.le_iff_toInt_le, nI_toInt (by decide)] at z
              rw [Int32.le_iff_toInt_le]
              have s1 : (nI (aTl A t) - nI c).toInt = (aTl A t : Int) - c := pk_sub_toInt (by omega) (by omega)
              have s2 : (nI (aTl A t) - nI c - nI 1).toInt = (aTl A t : Int) - c - 1 := by
                rw [Int32.toInt_sub, s1, nI_toInt (by decide), Int.bmod_eq_of_le (by omega) (by omega)]
                rfl
              omega
            rw [if_neg z1, if_neg z2]
            exact ⟨S, Fm.rf, rfl⟩
        | some i =>
          rw [hi] at hio
          subst hio
          obtain ⟨hi60, rfl⟩ := ix_s (by decide) hi
          have z1 : ¬ nI i < nI 0 := nI_pos (by omega)
          rw [if_neg z1]
          have s1 : (nI (aTl A t) - nI c).toInt = (aTl A t : Int) - c := pk_sub_toInt (by omega) (by omega)
          have s2 : (nI (aTl A t) - nI c - nI 1).toInt = (aTl A t : Int) - c - 1 := by
            rw [Int32.toInt_sub, s1, nI_toInt (by decide), Int.bmod_eq_of_le (by omega) (by omega)]
            rfl
          by_cases c1 : i + c < aTl A t
          · have z2 : nI i ≤ nI (aTl A t) - nI c - nI 1 := by
              rw [Int32.le_iff_toInt_le, nI_toInt (by omega), s2]
              omega
            rw [if_pos z2]
            obtain ⟨S1, e1, f1⟩ := m_way h hk' hw he
            have g38' := g38 (i + c) (by omega)
            rw [← Nat.add_assoc] at g38'
            simp (discharger := omega) only [bd_s, ck_t, lt_t, nI_add, pk_mul, nI_clamp, ne_n, lt_n, le_n, vin_n, decide_true, decide_false, if_true, if_false, show 60 * t + i + c < 360 by omega, e1, g38', if_pos c1, cmp_0, show nI 0 = (0 : Int32) from rfl]
            by_cases c2 : aTi A t (i + c) = (oI (wyo A (v0 A) w e k)).toInt64
            · simp only [if_pos c2]
              obtain ⟨S2, f2, e2⟩ := ih (k + 1) fu (c + 1) S1 (h.f1 f1) (by omega) (by omega) (by omega)
              exact ⟨S2, f1.tr f2, e2⟩
            · simp only [if_neg c2]
              exact ⟨S1, f1, rfl⟩
          · have z2 : ¬ nI i ≤ nI (aTl A t) - nI c - nI 1 := by
              rw [Int32.le_iff_toInt_le, nI_toInt (by omega), s2]
              omega
            rw [if_neg z2]
            simp only [if_neg c1]
            exact ⟨S, Fm.rf, rfl⟩
    · simp only [if_neg hl2]
      obtain ⟨S2, f2, e2⟩ := ih (k + 1) fu c S h (by omega) (by omega) hc
      exact ⟨S2, f2, e2⟩
theorem m_w55 {t l : Nat} {x2 : Int32} {io : Option Nat} (hio : io = ix 60 x2) (ht : t < 6) (hl : l < 2) : ∀ (f fuel : Nat) (st : List Nat) (e c : Nat) (S : MS), MV A (v0 A) S → SR S st → SI A st → e < 4 → c ≤ 60 → 61 ≤ c + f → f ≤ fuel → (c ≠ 0 → (List.range (aR A)).countP (fun r => aL A r == l) ≠ 0) → ∃ S', mm_way_55L fuel (nI t) x2 (nI l) (nI st.length) (nI c) (nI e) S = some (nI (wayF A t io l f st e c), S') ∧ MM A S' := by
  intro f
  induction f with
  | zero => intro fuel st e c S h hs hi he hc hf hff hcn; omega
  | succ f ih =>
    intro fuel st e c S h hs hi he hc hf hff hcn
    obtain ⟨fu, rfl⟩ : ∃ fu, fuel = fu + 1 := ⟨fuel - 1, by omega⟩
    show ∃ S', mm_way_55 _ _ _ _ _ _ _ _ = _ ∧ _
    unfold mm_way_55
    cases st with
    | nil => exact ⟨S, rfl, h.2.1⟩
    | cons w rest =>
      obtain ⟨hq, hw, hr⟩ := hi
      have hlen := SI_len hr
      obtain ⟨hl60, -⟩ : aTl A t ≤ 60 ∧ True := ⟨(h.1.2.2.2.2.2.2.2.2.2 t ht).2.1, trivial⟩
      obtain ⟨S1, f1, e1⟩ := m_w75 (k55 := mm_way_55L fu) (x6 := nI rest.length) hio ht hw he hl (aR A) 0 4000 c S h (by omega) (by have := wfR h.1; omega) hc
      have h1 : MV A (v0 A) S1 := h.f1 f1
      have hs1 : SR S1 rest := SR_fr (f1.2.1 33 (by decide)) hs.2
      have e0 : nI (w :: rest).length + (-1 : Int32) = nI rest.length := by
        rw [← Int32.sub_eq_add_neg]
        show nI (rest.length + 1) - nI 1 = _
        rw [pk_sub (by omega)]
        rfl
      have h33 := hs.1
      rw [e0]
      simp (discharger := omega) only [q0, List.length_cons, bd_s, ck_t, lt_t, nI_add, pk_mul, nI_clamp, ne_n, lt_n, le_n, vin_n, decide_true, decide_false, if_true, if_false, show ¬ (rest.length + 1 ≤ 0) by omega, show rest.length < 100 by omega, h33]
      rw [e1, ← List.range_eq_range']
      have hle := wrl_le (A := A) (io := io) (l := l) (w := w) (e := e) hl60 (List.range (aR A)) c hc
      have hgr := wrl_gr (A := A) (t := t) (io := io) (l := l) (w := w) (e := e) (List.range (aR A)) c
      unfold wayF
      cases hv : wrl A t io l w e (List.range (aR A)) c with
      | mk b x =>
        rw [hv] at hle hgr
        cases b with
        | false => exact ⟨S1, rfl, h1.2.1⟩
        | true =>
          have hx := hle.2 rfl
          have hcnt := hgr rfl
          have hx0 := hle.1
          show ∃ S', mm_way_185L _ _ _ _ _ _ _ _ _ _ _ = _ ∧ _
          have hdn : (aP A w).drop (aP A w).length = [] := List.drop_eq_nil_of_le (Nat.le_refl _)
          obtain ⟨S2, e2, h2, r2⟩ := m_wpush (t := t) (l := l) (e := e) (c := x) (x2 := x2) (k55 := mm_way_55L fu) hw he hr hq (aP A w).length 4000 S1 h1 (Nat.le_refl _) (by rw [hdn]; exact hs1) (fun _ => rfl) (by have := wfPl h.1 w; omega)
          rw [hdn, List.nil_append] at e2
          rw [e2]
          unfold mm_way_224
          have hz : (nI x = 0) = (x = 0) := by rw [q0, ne_n (by omega) (by decide)]
          rw [lt_t]
          by_cases q : x = 0
          · rw [if_pos (hz ▸ q)]
            exact ⟨S2, by simp only [if_pos q]; rfl, h2.2.1⟩
          · rw [if_neg (hz ▸ q)]
            simp only [if_neg q]
            have hcnt2 : x = c + (List.range (aR A)).countP (fun r => aL A r == l) := hcnt
            have hcn2 : (List.range (aR A)).countP (fun r => aL A r == l) ≠ 0 := by
              intro z
              by_cases y : c = 0
              · omega
              · exact hcn y z
            have hc1 : c < x := by omega
            have hsi : SI A (if e = 1 then rest else aP A w ++ rest) := by
              by_cases z : e = 1
              · rw [if_pos z]; exact hr
              · rw [if_neg z]
                exact SI_app hr hw hq (wfPl h.1 w) (wfP h.1 hw)
            exact ih fu _ 0 x S2 h2 r2 hsi (by decide) hx (by omega) (by omega) (fun _ => hcn2)
theorem b2_z (b : Bool) : (nI b.toNat = (0 : Int32)) = (b = false) := b2_0 b
theorem vin_0 : vin (0 : Int32) 100 = true := rfl
theorem mq_way (h : WF A) (g : MM A S) (a b c d f : Int32) : ∃ S', mm_way S a b c d f = some (sWay A a b c d f, S') ∧ MM A S' := by
  unfold mm_way mm_way_20 sWay
  simp only [m_isT, m_isLay h g, bd_s, ck_t, lt_t, b2_z]
  cases h0 : ix 6 a with
  | none => exact ⟨S, by simp, g⟩
  | some t =>
  cases h1 : ix (aN A) c with
  | none => exact ⟨S, by simp, g⟩
  | some w =>
  cases h2 : ix 4 d with
  | none => exact ⟨S, by simp, g⟩
  | some e =>
  cases h3 : ix 2 f with
  | none => exact ⟨S, by simp, g⟩
  | some l =>
  have hN := wfN h
  obtain ⟨ht, rfl⟩ := ix_s (by decide) h0
  obtain ⟨hw, rfl⟩ := ix_s (by omega) h1
  obtain ⟨he, rfl⟩ := ix_s (by decide) h2
  obtain ⟨hl, rfl⟩ := ix_s (by decide) h3
  obtain ⟨g36, -⟩ := g.2.2.2.2.2.2.2.2.2 t ht
  have hsle : (aTs A t ≤ 0) = (aTs A t = -1 ∨ aTs A t = 0) := by
    rcases (h.2.2.2.2.2.2.2.2.2 t ht).1 with z | ⟨k, hk, z⟩
    · rw [z]; decide
    · rw [z, q0, le_n (by omega) (by decide)]
      have : (nI k = nI 0) = (k = 0) := by rw [ne_n (by omega) (by decide)]
      rw [this]
      have hm : ¬ nI k = -1 := by
        have : ∀ k, k < 5 → ¬ nI k = -1 := by decide
        exact this k hk
      simp [hm]
  simp (discharger := omega) only [Option.isSome_some, Bool.and_true, reduceCtorEq, if_false, vin_n, nI_clamp, ht, decide_true, ck_t, g36, hsle]
  by_cases c1 : aTs A t = -1 ∨ aTs A t = 0
  · rw [if_pos c1, if_pos c1]
    obtain ⟨S0, x, e0, f0, v0'⟩ := m_asIs h g
    have f33 : Fm [] ev6 S0 (mR S0 33 0 (nI w)) := Fm.mR (by decide)
    obtain ⟨S1, e1, g1⟩ := m_w55 (A := A) (t := t) (l := l) (x2 := b) rfl ht hl 61 4000 [w] e 0 (mR S0 33 0 (nI w)) (v0'.fm f33) ⟨by rw [mR_s]; rfl, trivial⟩ ⟨by simp; omega, hw, trivial⟩ he (by decide) (by decide) (by decide) (fun z => absurd rfl z)
    refine ⟨S1, ?_, g1⟩
    rw [e0]
    simp only [bd_s, lt_t, vin_0, ck_t]
    exact e1
  · rw [if_neg c1, if_neg c1]
    exact ⟨S, rfl, g⟩
end PMWY
