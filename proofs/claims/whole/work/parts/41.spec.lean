-- the state as it is meant, and what is answered of it
abbrev AA : Type := (Nat × (Nat → Nat) × (Nat → Nat) × (Nat → Nat) × (Nat → List Nat)) × (Nat × (Nat → Nat) × (Nat → List (Nat × Nat × List Nat))) × ((Nat → Nat) × Nat × Nat) × List Nat × (Nat × (Nat → Nat)) × ((Nat → Int32) × (Nat → Nat) × (Nat → Nat → Int64))
section PSP
variable (A : AA)
def aN : Nat := A.1.1
def aK : Nat → Nat := A.1.2.1
def aB : Nat → Nat := A.1.2.2.1
def aF : Nat → Nat := A.1.2.2.2.1
def aP : Nat → List Nat := A.1.2.2.2.2
def aR : Nat := A.2.1.1
def aL : Nat → Nat := A.2.1.2.1
def aC : Nat → List (Nat × Nat × List Nat) := A.2.1.2.2
def aKn : Nat → Nat := A.2.2.1.1
def aSh : Nat := A.2.2.1.2.1
def aJu : Nat := A.2.2.1.2.2
def aTx : List Nat := A.2.2.2.1
def aRn : Nat := A.2.2.2.2.1.1
def aBd : Nat → Nat := A.2.2.2.2.1.2
def aTs : Nat → Int32 := A.2.2.2.2.2.1
def aTl : Nat → Nat := A.2.2.2.2.2.2.1
def aTi : Nat → Nat → Int64 := A.2.2.2.2.2.2.2
-- a view: facts shown, rules let in, how many were heard before of each person, who is banned
abbrev VV : Type := Nat × Nat × (Nat → Nat) × (Nat → Bool)
def undr (k f : Nat) : Bool := f == 0 || k == f || (f == 1 && (k == 2 || k == 5 || k == 6)) || (f == 2 && k == 5)
def tst (v : VV) (w e t : Nat) : Bool :=
  match t / 10 with
  | 0 => decide (aK A w < t % 10)
  | 1 => decide (aK A w = t % 10)
  | 2 => decide (t % 10 < aK A w)
  | 3 => decide (v.2.2.1 (aB A w) < t % 10)
  | 4 => decide (v.2.2.1 (aB A w) = t % 10)
  | 5 => decide (t % 10 < v.2.2.1 (aB A w))
  | 7 => undr (aK A w) (t % 10)
  | 10 => decide (aB A w = t % 10)
  | 13 => (aKn A (aB A w)).testBit (t % 10)
  | 16 => decide (e = t % 10)
  | 19 => v.1.testBit (t % 10)
  | _ => false
def stp (v : VV) (w e t : Nat) (st : List Bool) : List Bool :=
  if t = 210 then (match st with | b :: s => (!b) :: s | [] => [])
  else if t = 220 then (match st with | b :: a :: s => (a && b) :: s | s => s)
  else if t = 230 then (match st with | b :: a :: s => (a || b) :: s | s => s)
  else tst A v w e t :: st
def evl (v : VV) (w e : Nat) : List Nat → List Bool → List Bool
  | [], st => st
  | t :: ts, st => evl v w e ts (stp A v w e t st)
def hld (v : VV) (w e : Nat) (c : List Nat) : Bool := (evl A v w e c []).headD false
-- a clause: its sort, its fact, its steps
def hc (v : VV) (w e : Nat) (c : Nat × Nat × List Nat) : Bool := hld A v w e c.2.2
def isS (s : Nat) (c : Nat × Nat × List Nat) : Bool := c.1 == s
def anyS (v : VV) (w e r s : Nat) : Bool := (aC A r).any fun c => isS s c && hc A v w e c
def lcks (v : VV) (w e r : Nat) : Bool := (aC A r).any fun c => isS 2 c && !v.1.testBit c.2.1 && hc A v w e c
def kps (v : VV) (w e r : Nat) : Bool := (anyS A v w e r 0 && !anyS A v w e r 1) || lcks A v w e r || (!v.2.1.testBit r && anyS A v w e r 3)
def wyo (v : VV) (w e r : Nat) : Option Nat := if anyS A v w e r 0 = true then (aC A r).findIdx? (fun c => isS 1 c && hc A v w e c) else none
def mts (v : VV) (w e r : Nat) : Bool := (aC A r).any (hc A v w e)
def kpr (v : VV) (w e l : Nat) : Option Nat := (List.range (aR A)).find? fun r => aL A r == l && kps A v w e r
def hb1 (v : VV) (l w : Nat) (f : Nat → Bool) : Bool := !v.2.2.2 w && (aP A w).all f && (kpr A v w 0 l).isNone
def hB (v : VV) (l : Nat) : Nat → Nat → Bool
  | 0, _ => false
  | n + 1, i => if i = n then hb1 A v l n (hB v l n) else hB v l n i
def hrd (v : VV) (l w : Nat) : Bool := hB A v l (w + 1) w
-- heard to an end
def hrE (v : VV) (l e w : Nat) : Bool := (kpr A v w e l).isNone && (e == 1 || (aP A w).all (hrd A v l))
def v0 : VV := (aSh A, aJu A, fun _ => 0, fun _ => false)
def room (k : Nat) : Nat := if k = 6 then 1 else if k = 2 ∨ k = 5 then 4 else 0
def tkO (t : Nat) : Bool := decide (t < 60 ∨ t / 10 = 7 ∨ t / 10 = 10 ∨ t / 10 = 13 ∨ t / 10 = 16 ∨ t / 10 = 19)
def hok : List Nat → Nat → Bool
  | [], n => decide (n = 1)
  | t :: ts, n => if t = 210 then decide (1 ≤ n) && hok ts n else if t = 220 ∨ t = 230 then decide (2 ≤ n) && hok ts (n - 1) else tkO t && decide (n < 20) && hok ts (n + 1)
def clO (c : Nat × Nat × List Nat) : Prop := c.1 < 4 ∧ c.2.1 < 10 ∧ c.2.2.length ≤ 100 ∧ hok c.2.2 0 = true
def WFW : Prop := aN A ≤ 14 ∧ ∀ w, (w < aN A → aK A w < 7 ∧ aB A w < 8 ∧ aF A w < 1024 ∧ (aP A w).length ≤ room (aK A w) ∧ (aP A w).Nodup ∧ ∀ p ∈ aP A w, p < w) ∧ (aN A ≤ w → aP A w = [])
def WFR : Prop := aR A ≤ 10 ∧ ∀ r, r < aR A → aL A r < 2 ∧ 1 ≤ (aC A r).length ∧ (aC A r).length ≤ 6 ∧ ∀ c ∈ aC A r, clO c
def WF : Prop := WFW A ∧ WFR A ∧ (∀ p, p < 8 → aKn A p < 64) ∧ aSh A < 1024 ∧ aJu A < 2 ^ aR A ∧ (aTx A).length ≤ 100 ∧ (∀ c ∈ aTx A, c < 256) ∧ aRn A < 1000 ∧ (∀ i, aBd A i = aBd A i) ∧ ∀ t, t < 6 → (aTs A t = -1 ∨ ∃ k, k < 5 ∧ aTs A t = nI k) ∧ aTl A t ≤ 60 ∧ (aTs A t = -1 → aTl A t = 0)
end PSP
section PSL
variable {A : AA}
theorem hB_lt (v : VV) (l : Nat) : ∀ n i, i < n → hB A v l n i = hrd A v l i := by
  intro n
  induction n with
  | zero => intro i h; cases h
  | succ n ih =>
    intro i h
    show (if i = n then _ else _) = _
    by_cases q : i = n
    · subst q
      rw [if_pos rfl]
      show _ = (if i = i then _ else _)
      rw [if_pos rfl]
    · rw [if_neg q, ih i (by omega)]
theorem all_cong {α : Type} {L : List α} {f g : α → Bool} (h : ∀ x ∈ L, f x = g x) : L.all f = L.all g := by
  induction L with
  | nil => rfl
  | cons a L ih => simp only [List.all_cons, h a List.mem_cons_self, ih (fun x hx => h x (List.mem_cons_of_mem _ hx))]
theorem any_cong {α : Type} {L : List α} {f g : α → Bool} (h : ∀ x ∈ L, f x = g x) : L.any f = L.any g := by
  induction L with
  | nil => rfl
  | cons a L ih => simp only [List.any_cons, h a List.mem_cons_self, ih (fun x hx => h x (List.mem_cons_of_mem _ hx))]
theorem hrd_eq (v : VV) (l w : Nat) (hp : ∀ p ∈ aP A w, p < w) : hrd A v l w = hb1 A v l w (hrd A v l) := by
  show (if w = w then _ else _) = _
  rw [if_pos rfl]
  unfold hb1
  rw [all_cong (g := hrd A v l) (fun x hx => hB_lt v l w x (hp x hx))]
theorem wfP (h : WF A) {w : Nat} (hw : w < aN A) : ∀ p ∈ aP A w, p < w := ((h.1.2 w).1 hw).2.2.2.2.2
theorem wfK (h : WF A) {w : Nat} (hw : w < aN A) : aK A w < 7 := ((h.1.2 w).1 hw).1
theorem wfB (h : WF A) {w : Nat} (hw : w < aN A) : aB A w < 8 := ((h.1.2 w).1 hw).2.1
theorem wfF (h : WF A) {w : Nat} (hw : w < aN A) : aF A w < 1024 := ((h.1.2 w).1 hw).2.2.1
theorem wfN (h : WF A) : aN A ≤ 14 := h.1.1
theorem wfRm (h : WF A) {w : Nat} (hw : w < aN A) : (aP A w).length ≤ room (aK A w) := ((h.1.2 w).1 hw).2.2.2.1
theorem wfPl (h : WF A) (w : Nat) : (aP A w).length ≤ 4 := by
  rcases Nat.lt_or_ge w (aN A) with q | q
  · have := wfRm h q
    have h2 : room (aK A w) ≤ 4 := by unfold room; (repeat' split) <;> omega
    omega
  · rw [(h.1.2 w).2 q]
    decide
theorem wfR (h : WF A) : aR A ≤ 10 := h.2.1.1
theorem wfC (h : WF A) {r : Nat} (hr : r < aR A) : ∀ c ∈ aC A r, clO c := (h.2.1.2 r hr).2.2.2
theorem wfCl (h : WF A) {r : Nat} (hr : r < aR A) : (aC A r).length ≤ 6 := (h.2.1.2 r hr).2.2.1
theorem wfL (h : WF A) {r : Nat} (hr : r < aR A) : aL A r < 2 := (h.2.1.2 r hr).1
theorem wfKn (h : WF A) {p : Nat} (hp : p < 8) : aKn A p < 64 := h.2.2.1 p hp
theorem wfS (h : WF A) : aSh A < 1024 := h.2.2.2.1
theorem wfJ (h : WF A) : aJu A < 2 ^ aR A := h.2.2.2.2.1
theorem wfJ' (h : WF A) : aJu A < 1024 := Nat.lt_of_lt_of_le (wfJ h) (Nat.pow_le_pow_right (n := 2) (by decide) (wfR h))
theorem ge_some {α : Type} {L : List α} {i : Nat} (h : i < L.length) : ∃ x, L[i]? = some x ∧ x ∈ L := ⟨L[i], List.getElem?_eq_getElem h, List.getElem_mem h⟩
theorem getD_s {L : List Nat} {i x : Nat} (h : L[i]? = some x) : L.getD i 0 = x := by
  rw [List.getD_eq_getElem?_getD, h]
  rfl
theorem parts_lt (h : WF A) {w k : Nat} (hw : w < aN A) (hk : k < (aP A w).length) : (aP A w).getD k 0 < w := by
  obtain ⟨x, h1, h2⟩ := ge_some hk
  rw [getD_s h1]
  exact wfP h hw x h2
end PSL
