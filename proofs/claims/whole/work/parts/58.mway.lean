section PMWY
variable {A A' : AA} {S S' : MS}
def wrl (A : AA) (t : Nat) (io : Option Nat) (l w e : Nat) : List Nat → Nat → Bool × Nat
  | [], c => (true, c)
  | r :: L, c => if aL A r = l then (match io with
    | some i => if i + c < aTl A t then (if aTi A t (i + c) = (oI (wyo A (v0 A) w e r)).toInt64 then wrl A t io l w e L (c + 1) else (false, c)) else (false, 100 + c)
    | none => (false, 100 + c)) else wrl A t io l w e L c
def wayF (A : AA) (t : Nat) (io : Option Nat) (l : Nat) : Nat → List Nat → Nat → Nat → Nat
  | 0, _, _, _ => 0
  | _ + 1, [], _, c => c
  | f + 1, w :: rest, e, c => match wrl A t io l w e (List.range (aR A)) c with
    | (false, x) => x
    | (true, c') => if c' = 0 then 0 else wayF A t io l f (if e = 1 then rest else aP A w ++ rest) 0 c'
def sWay (A : AA) (a b c d f : Int32) : Int32 := match ix 6 a, ix (aN A) c, ix 4 d, ix 2 f with
  | some t, some w, some e, some l => if aTs A t = -1 ∨ aTs A t = 0 then nI (wayF A t (ix 60 b) l 61 [w] e 0) else -12
  | _, _, _, _ => -1
def SI (A : AA) : List Nat → Prop
  | [] => True
  | v :: rest => rest.length + 3 * v ≤ 39 ∧ v < aN A ∧ SI A rest
def SR (S : MS) : List Nat → Prop
  | [] => True
  | v :: rest => S.2.1 33 rest.length = nI v ∧ SR S rest
theorem SR_up {S : MS} {j : Nat} {x : Int32} : ∀ {st : List Nat}, SR S st → st.length ≤ j → SR (mR S 33 j x) st
  | [], _, _ => trivial
  | b :: st, h, hj => ⟨by rw [mR_s, if_neg (by simp at hj; omega)]; exact h.1, SR_up h.2 (by simp at hj; omega)⟩
theorem SR_fr {S T : MS} (h : T.2.1 33 = S.2.1 33) : ∀ {st : List Nat}, SR S st → SR T st
  | [], _ => trivial
  | _ :: _, q => ⟨by rw [h]; exact q.1, SR_fr h q.2⟩
theorem SI_len : ∀ {st : List Nat}, SI A st → st.length ≤ 40
  | [], _ => by decide
  | _ :: _, h => by have := h.1; simp; omega
theorem SI_app {w : Nat} {rest : List Nat} (hr : SI A rest) (hw : w < aN A) (hq : rest.length + 3 * w ≤ 39) : ∀ {L : List Nat}, L.length ≤ 4 → (∀ p ∈ L, p < w) → SI A (L ++ rest)
  | [], _, _ => hr
  | p :: L, hl, hp => by
    have h1 := hp p List.mem_cons_self
    refine ⟨?_, by omega, SI_app hr hw hq (by simp at hl; omega) (fun x hx => hp x (List.mem_cons_of_mem _ hx))⟩
    rw [List.length_append]
    simp at hl
    omega
theorem wrl_le {t : Nat} {io : Option Nat} {l w e : Nat} (hl : aTl A t ≤ 60) : ∀ (L : List Nat) (c : Nat), c ≤ 60 → c ≤ (wrl A t io l w e L c).2 ∧ ((wrl A t io l w e L c).1 = true → (wrl A t io l w e L c).2 ≤ 60)
  | [], c, h => ⟨Nat.le_refl _, fun _ => h⟩
  | r :: L, c, h => by
    unfold wrl
    by_cases q : aL A r = l
    · rw [if_pos q]
      cases io with
      | none => exact ⟨by show c ≤ 100 + c; omega, fun z => by cases z⟩
      | some i =>
        show c ≤ (if _ then _ else _ : Bool × Nat).2 ∧ _
        by_cases q2 : i + c < aTl A t
        · simp only [if_pos q2]
          by_cases q3 : aTi A t (i + c) = (oI (wyo A (v0 A) w e r)).toInt64
          · simp only [if_pos q3]
            have := wrl_le (io := some i) (w := w) (e := e) (l := l) hl L (c + 1) (by omega)
            exact ⟨by omega, this.2⟩
          · simp only [if_neg q3]
            exact ⟨Nat.le_refl _, fun z => by cases z⟩
        · simp only [if_neg q2]
          exact ⟨by omega, fun z => by cases z⟩
    · rw [if_neg q]
      exact wrl_le hl L c h
-- no rule of the land: the count stays; one: it grows
theorem wrl_gr {t : Nat} {io : Option Nat} {l w e : Nat} : ∀ (L : List Nat) (c : Nat), (wrl A t io l w e L c).1 = true → (wrl A t io l w e L c).2 = c + L.countP (fun r => aL A r == l)
  | [], c, _ => rfl
  | r :: L, c, h => by
    unfold wrl at h ⊢
    rw [List.countP_cons]
    by_cases q : aL A r = l
    · rw [if_pos q] at h ⊢
      cases io with
      | none => cases h
      | some i =>
        by_cases q2 : i + c < aTl A t
        · simp only [if_pos q2] at h ⊢
          by_cases q3 : aTi A t (i + c) = (oI (wyo A (v0 A) w e r)).toInt64
          · simp only [if_pos q3] at h ⊢
            have := wrl_gr (io := some i) (w := w) (e := e) (l := l) L (c + 1) h
            rw [this]
            simp [q]
            omega
          · simp only [if_neg q3] at h
            cases h
        · simp only [if_neg q2] at h
          cases h
    · rw [if_neg q] at h ⊢
      rw [wrl_gr L c h]
      simp [q]
theorem m_wpush {t x2 l w e c : Nat} {x2' : Int32} {k55 : Int32 → Int32 → Int32 → Int32 → Int32 → Int32 → MS → Option (Int32 × MS)} {rest : List Nat} (hw : w < aN A) (he : e < 4) (hr : SI A rest) (hq : rest.length + 3 * w ≤ 39) : ∀ (k fuel : Nat) (S : MS), MV A (v0 A) S → k ≤ (aP A w).length → SR S ((aP A w).drop k ++ rest) → k < fuel → ∃ S', mm_way_185L k55 fuel (nI t) x2' (nI l) (nI (if e = 1 then rest else (aP A w).drop k ++ rest).length) (nI c) (nI e) (nI w) (nI k - nI 1) S = mm_way_224 k55 (nI t) x2' (nI l) (nI (if e = 1 then rest else aP A w ++ rest).length) (nI c) S' ∧ MV A (v0 A) S' ∧ SR S' (if e = 1 then rest else aP A w ++ rest) := by
  sorry
end PMWY
