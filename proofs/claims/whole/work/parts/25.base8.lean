section CAO
variable {p : Program} {l : Launch} {e : Env} {R : Room} {s : State} {m : MethodId} {args : Array Value} {below : List Frame} {meth : Method} {c : Code} {H : Heap} {locs : List Loc} {cells slots : Nat} {Q : State → Prop}
variable {cc : ByteArray} {pc : Nat} {ls : Array Slot} {rest : List Value} {D : va_G} {cs : Nat → ClassId} {t0 : Nat} {A : Nat → Prop} {P T : PS} {Ts : List Cond} {nL : Nat} {ty : Option FieldType} {own : String} {a : Nat}
-- a list's row: the static empty one, or one of the pool's
def kkO (t0 : Nat) (P : PS) (a : Nat) : Bool := decide (a = t0) || kk P a 17
def lenO (t0 : Nat) (P : PS) (a : Nat) : Nat := if a = t0 then 0 else pN P a
def isO (P : PS) (a : Nat) : Bool := decide (a ∈ pL P ∧ pK P a < 10)
theorem cw_oastN (cx : mCx p s m args meth c own cc Ts nL ty) (w : cWd D cs t0 A s P H locs) (ha : kk P a 17 = true) {i : Int32} (hi : vin i (pN P a) = true) (hT : T = pRu P a i.toNatClampNeg none) (hdg : decode cc pc = .ok (.aastore, 1))
    (kk : ∀ (H1 : Heap) (locs1 : List Loc), cWd D cs t0 A s T H1 locs1 → W p l e R s m args below meth c H1 locs1 cells slots Q (F0 m (pc + 1) ls rest)) : W p l e R s m args below meth c H locs cells slots Q (F0 m pc ls (.null :: .int i :: .ref a :: rest)) := by
  obtain ⟨hx, hb, -⟩ := cx
  obtain ⟨h1, h2⟩ := kk_e ha
  obtain ⟨q, hq⟩ := pW_getE (cs := cs) ha pE_o
  subst hT
  exact va_WaastN hx hb (w.2.1 q _ hq) ((w.2.2.1.2 6 _ rfl).1 (pN P a) (fun j => va_rf (pR P a j))) (fun q => by cases q) (by show ¬ (i < 0 ∨ (arrV _ _ _).slots.size ≤ _); rw [arrV_size]; exact vin_e hi) rfl rfl hdg fun H1 e1 z oq => kk H1 _ (cfin w h1 (upA_E (pE_o (P := pRu P a i.toNatClampNeg none) h2 ▸ (by simp [pRu, pN, pR, va_up_self])) pRu_E) rfl rfl (st_q (f := pR P a) (x := none) e1) z oq)
theorem vle_n {n : Int32} {b : Nat} (h : decide (¬ n < 0 ∧ n.toNatClampNeg ≤ b) = true) : ¬ n < 0 := (of_decide_eq_true h).1
end CAO
