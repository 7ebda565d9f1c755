-- the class's pool: addresses, kinds, lengths, ints, longs, references, the size of the heap
abbrev PS : Type := List Nat × (Nat → Nat) × (Nat → Nat) × (Nat → Nat → Int32) × (Nat → Nat → Int64) × (Nat → Nat → Option Nat) × Nat
def pL (P : PS) : List Nat := P.1
def pK (P : PS) : Nat → Nat := P.2.1
def pN (P : PS) : Nat → Nat := P.2.2.1
def pI (P : PS) : Nat → Nat → Int32 := P.2.2.2.1
def pJ (P : PS) : Nat → Nat → Int64 := P.2.2.2.2.1
def pR (P : PS) : Nat → Nat → Option Nat := P.2.2.2.2.2.1
def pZ (P : PS) : Nat := P.2.2.2.2.2.2
-- kinds 0 .. 10: the objects, by their place in vwCl; 11 bytes, 12 ints, 13 longs, 14 booleans, 15 Person[], 16 Tape[], 17 Object[]
def kF : Nat → List Bool := fun k => match k with
  | 0 => [false, true, false]
  | 1 => [true, false]
  | 2 => [false, false, true]
  | 3 => [false, false, false]
  | 4 => [true, true, false, false, false, false, false]
  | 5 => [false, false, true, false, false, false, false]
  | 6 => [false, false, false]
  | 7 => [true, false, false]
  | 8 => [false, false, false, true, false, true, false]
  | 9 => [true, true, true, true, true, true, true, true, true, true]
  | _ => [false, false, false, true, true, true, true, true, true, false, false, false, true, true, true, true, true, true, true, true, false, true, false, false, false, false, false, true, true, true, true, true, true, true, false, true, true, true, true, true]
def pV (P : PS) (a c k : Nat) : Value := if (kF c)[k]? = some true then va_rf (pR P a k) else .int (pI P a k)
def pFs (P : PS) (a c : Nat) : List Value := (List.range (kF c).length).map (pV P a c)
def pE (cs : Nat → ClassId) (P : PS) (a : Nat) : va_E :=
  if pK P a < 11 then .inr (pK P a, pFs P a (pK P a))
  else if pK P a = 11 then .inl (cs 0, pN P a, .inl (pI P a))
  else if pK P a = 12 then .inl (cs 1, pN P a, .inl (pI P a))
  else if pK P a = 13 then .inl (cs 2, pN P a, .inr (.inl (pJ P a)))
  else if pK P a = 14 then .inl (cs 3, pN P a, .inl (pI P a))
  else if pK P a = 15 then .inl (cs 4, pN P a, .inr (.inr (.inr (.inr (pR P a)))))
  else if pK P a = 16 then .inl (cs 5, pN P a, .inr (.inr (.inr (.inr (pR P a)))))
  else .inl (cs 6, pN P a, .inr (.inr (.inr (.inr (pR P a)))))
def pW (cs : Nat → ClassId) (P : PS) : va_W := va_pl (pL P) (pE cs P)
def kk (P : PS) (a c : Nat) : Bool := decide (a ∈ pL P ∧ pK P a = c)
theorem kk_e {P : PS} {a c : Nat} (h : kk P a c = true) : a ∈ pL P ∧ pK P a = c := of_decide_eq_true h
def pIu (P : PS) (a k : Nat) (v : Int32) : PS := (pL P, pK P, pN P, va_up (pI P) a (upd (pI P a) k v), pJ P, pR P, pZ P)
def pJu (P : PS) (a k : Nat) (v : Int64) : PS := (pL P, pK P, pN P, pI P, va_up (pJ P) a (vp_updL (pJ P a) k v), pR P, pZ P)
def pRu (P : PS) (a k : Nat) (v : Option Nat) : PS := (pL P, pK P, pN P, pI P, pJ P, va_up (pR P) a (va_up (pR P a) k v), pZ P)
def pNew (P : PS) (c n : Nat) : PS := (pL P ++ [pZ P], va_up (pK P) (pZ P) c, va_up (pN P) (pZ P) n, va_up (pI P) (pZ P) (fun _ => 0), va_up (pJ P) (pZ P) (fun _ => 0), va_up (pR P) (pZ P) (fun _ => none), pZ P + 1)
def pA (P : PS) : Nat → Prop := fun q => q ∈ pL P ∨ pZ P ≤ q
theorem pW_get {cs : Nat → ClassId} {P : PS} {a : Nat} (h : a ∈ pL P) : ∃ i : Nat, (pW cs P)[i]? = some (a, pE cs P a) := va_pl_get (X := []) (f := pE cs P) h
theorem pE_obj {cs : Nat → ClassId} {P : PS} {a c : Nat} (h : pK P a = c) (hc : c < 11) : pE cs P a = .inr (c, pFs P a c) := by
  subst h
  unfold pE
  rw [if_pos hc]
theorem pFs_get {P : PS} {a c k : Nat} (hk : k < (kF c).length) : (pFs P a c)[k]? = some (pV P a c k) := by
  simp [pFs, List.getElem?_map, hk]
theorem pE_off {cs : Nat → ClassId} {P T : PS} {b : Nat} (h1 : pK T b = pK P b) (h2 : pN T b = pN P b) (h3 : pI T b = pI P b) (h4 : pJ T b = pJ P b) (h5 : pR T b = pR P b) : pE cs T b = pE cs P b := by
  unfold pE pFs pV
  rw [h1, h2, h3, h4, h5]
-- links between nest mates that the printed list of words doesn't hold
def nestF : List (String × Nat × String × String × String × String) := [("HeardWords", 131, "HeardWords$Reader", "length", "I", "HeardWords"), ("HeardWords", 142, "HeardWords$Reader", "place", "I", "HeardWords"), ("HeardWords", 253, "HeardWords$Bodies", "ran", "I", "HeardWords"), ("HeardWords", 295, "HeardWords$Tape", "items", "[J", "HeardWords"), ("HeardWords", 246, "HeardWords$Tape", "sort", "I", "HeardWords")]
def nestM : List (String × Nat × MethodName × String) := [("HeardWords", 29, yX3_init, "HeardWords"), ("HeardWords", 36, yX5_init, "HeardWords"), ("HeardWords", 52, yX0_init, "HeardWords"), ("HeardWords", 67, yX6_init, "HeardWords"), ("HeardWords$Word", 32, yX8_kindAbove, "HeardWords"), ("HeardWords", 134, yX3_append, "HeardWords"), ("HeardWords", 138, yX3_readRule, "HeardWords"), ("HeardWords$Rule", 83, yX8_has, "HeardWords"), ("HeardWords$Word", 47, yX8_has, "HeardWords"), ("HeardWords", 279, yX6_hasPlace, "HeardWords"), ("HeardWords", 289, yX6_get, "HeardWords"), ("HeardWords", 256, yX0_hears, "HeardWords"), ("HeardWords$Bodies", 25, yX8_kindAbove, "HeardWords"), ("HeardWords", 260, yX0_keeps, "HeardWords"), ("HeardWords", 263, yX0_tells, "HeardWords"), ("HeardWords", 266, yX0_traced, "HeardWords"), ("HeardWords", 275, yX6_become, "HeardWords"), ("HeardWords", 283, yX6_put, "HeardWords"), ("HeardWords", 292, yX6_hasStretch, "HeardWords")]
def nestA : List String := ["HeardWords$Person", "HeardWords$Tape", "java/lang/Object"]
def nestC : List (String × String) := [("HeardWords$Word", "java/lang/Object"), ("HeardWords$Rule", "java/lang/Object"), ("HeardWords$Clause", "java/lang/Object")]
def pNw (U : State) : Prop := (∀ q ∈ nestF, va_Nw (.fieldLinkNest q.1 q.2.1 q.2.2.1 q.2.2.2.1 q.2.2.2.2.1 q.2.2.2.2.2) U) ∧ (∀ q ∈ nestM, va_Nw (.methodLinkNest q.1 q.2.1 q.2.2.1 q.2.2.2) U) ∧ (∀ q ∈ nestA, va_AO q U) ∧ (∀ q ∈ nestC, va_Nw (.castable q.1 q.2) U) ∧ va_Dc U
theorem pNw_warm {s U : State} (hW : s.WarmedH U.vm) (h : pNw s) : pNw U := ⟨fun q hq => va_Nw.warmF hW (h.1 q hq), fun q hq => va_Nw.warmM hW (h.2.1 q hq), fun q hq => (h.2.2.1 q hq).moved hW.alike, fun q hq => va_Nw.warmC hW (h.2.2.2.1 q hq), h.2.2.2.2.moved hW.alike⟩
-- what lies outside the pool: a list's empty row, the class object of Object[], the texts' Strings and their bytes, what the JDK hands its checks
abbrev TS : Type := Nat × Nat × (Nat → Nat) × (Nat → Nat) × Option Nat
def strT : List (Nat × String) := [(91, "oinm"), (112, "khubces"), (114, "<=>"), (55, "0123456789"), (93, "ut "), (95, "n "), (97, "eed "), (99, "ay "), (61, " "), (107, ")"), (116, "=")]
def strL : List Nat := [4, 7, 3, 10, 3, 2, 4, 3, 1, 1, 1]
def strB : List (List Int32) := [[111, 105, 110, 109], [107, 104, 117, 98, 99, 101, 115], [60, 61, 62], [48, 49, 50, 51, 52, 53, 54, 55, 56, 57], [117, 116, 32], [110, 32], [101, 101, 100, 32], [97, 121, 32], [32], [41], [61]]
def cZ (t0 : TS) (A : Nat → Prop) (U : State) (H : Heap) : Prop := pNw U ∧ va_Z "java/util/ArrayList" "DEFAULTCAPACITY_EMPTY_ELEMENTDATA" "[Ljava/lang/Object;" (.ref t0.1) A U H ∧ va_T (.object "java/lang/Object") t0.1 0 (fun _ => .null) A U H ∧ va_Mi "[Ljava/lang/Object;" t0.2.1 U ∧ va_Z "java/lang/String" "COMPACT_STRINGS" "Z" (.int 1) A U H ∧ va_Z "jdk/internal/util/Preconditions" "SIOOBE_FORMATTER" "Ljava/util/function/BiFunction;" (va_rf t0.2.2.2.2) A U H ∧ vk_S 11 strL strB t0.2.2.1 t0.2.2.2.1 A U H ∧ ∀ (i : Nat) (q : Nat × String), strT[i]? = some q → vk_R "HeardWords$Reader" q.1 q.2 (t0.2.2.1 i) U
def cWd (D : va_G) (cs : Nat → ClassId) (t0 : TS) (A : Nat → Prop) (s : State) (P : PS) (H : Heap) (locs : List Loc) : Prop := H.size = pZ P ∧ va_P D vwCl (pW cs P) H ∧ va_K D vwCl (ptys cs) s ∧ va_D A (pW cs P) ∧ va_S A s.heap H locs ∧ (∀ q, s.heap.size ≤ q → A q) ∧ cZ t0 A s s.heap
def cB (D : va_G) (cs : Nat → ClassId) (t0 : TS) (P : PS) (U : State) : Prop := U.heap.size = pZ P ∧ va_P D vwCl (pW cs P) U.heap ∧ va_K D vwCl (ptys cs) U ∧ va_D (fun _ => True) (pW cs P) ∧ cZ t0 (pA P) U U.heap
-- behind a method: what a caller needs to go on
def cBq (D : va_G) (cs : Nat → ClassId) (P0 P : PS) (U : State) : Prop := U.heap.size = pZ P ∧ va_P D vwCl (pW cs P) U.heap ∧ va_D (pA P0) (pW cs P)
theorem cfin {D : va_G} {cs : Nat → ClassId} {t0 : TS} {A : Nat → Prop} {s : State} {P T : PS} {H H1 : Heap} {locs : List Loc} {a k : Nat} {e : va_E} (w : cWd D cs t0 A s P H locs) (ha : a ∈ pL P) (hE : ∀ b, va_up (pE cs P) a e b = pE cs T b) (hL : pL T = pL P) (hZ : pZ T = pZ P) (he : va_at D vwCl (a, e) H1) (z : H1.size = H.size) (oq : ∀ q : Nat, q ≠ a → H1[q]? = H[q]?) : cWd D cs t0 A s T H1 (locs ++ [⟨a, k⟩]) := by
  obtain ⟨w1, w2, w3, w4, w5, w6, w7⟩ := w
  obtain ⟨i, hi⟩ := pW_get (cs := cs) ha
  have e1 : (pW cs P).set i (a, e) = pW cs T := by
    have h1 := va_pl_set (X := []) (e := e) w4 ha hi
    have h2 : va_pl (pL P) (va_up (pE cs P) a e) = va_pl (pL T) (pE cs T) := by rw [hL]; exact va_pl_congr hE
    exact h1.trans h2
  have hP := w2.set w4 hi he oq
  have hD := w4.set (e := e) hi
  rw [e1] at hP hD
  exact ⟨by rw [z, hZ]; exact w1, hP, w3, hD, w5.put z oq (w4.2 i _ hi), w6, w7⟩
theorem upI_E {cs : Nat → ClassId} {P : PS} {a c k : Nat} {v : Int32} (h : pK P a = c) (hc : c < 11) (hk : k < (kF c).length) (hI : (kF c)[k]? = some false) (b : Nat) : va_up (pE cs P) a (.inr (c, (pFs P a c).set k (.int v))) b = pE cs (pIu P a k v) b := by
  by_cases hb : b = a
  · subst hb
    rw [va_up_self, pE_obj (P := pIu P b k v) (c := c) h hc]
    congr 2
    have e : Value.int v = pV (pIu P b k v) b c k := by simp [pV, hI, pIu, pI, va_up_self, upd]
    rw [e]
    exact ml_set (List.range (kF c).length) (pV P b c) (pV (pIu P b k v) b c) k k (by simp [hk]) List.nodup_range (fun x hx => by simp [pV, pIu, pI, pR, va_up_self, upd, hx])
  · rw [va_up_ne _ _ hb]
    exact (pE_off (P := P) (T := pIu P a k v) rfl rfl (va_up_ne _ _ hb) rfl rfl).symm
theorem upR_E {cs : Nat → ClassId} {P : PS} {a c k : Nat} {v : Option Nat} (h : pK P a = c) (hc : c < 11) (hk : k < (kF c).length) (hI : (kF c)[k]? = some true) (b : Nat) : va_up (pE cs P) a (.inr (c, (pFs P a c).set k (va_rf v))) b = pE cs (pRu P a k v) b := by
  by_cases hb : b = a
  · subst hb
    rw [va_up_self, pE_obj (P := pRu P b k v) (c := c) h hc]
    congr 2
    have e : va_rf v = pV (pRu P b k v) b c k := by simp [pV, hI, pRu, pR, va_up_self]
    rw [e]
    exact ml_set (List.range (kF c).length) (pV P b c) (pV (pRu P b k v) b c) k k (by simp [hk]) List.nodup_range (fun x hx => by simp [pV, pRu, pI, pR, va_up_self, va_up_ne _ _ hx])
  · rw [va_up_ne _ _ hb]
    exact (pE_off (P := P) (T := pRu P a k v) rfl rfl rfl rfl (va_up_ne _ _ hb)).symm
theorem upA_E {cs : Nat → ClassId} {P T : PS} {a : Nat} {e : va_E} (he : e = pE cs T a) (hn : ∀ b, b ≠ a → pE cs T b = pE cs P b) (b : Nat) : va_up (pE cs P) a e b = pE cs T b := by
  by_cases hb : b = a
  · subst hb
    rw [va_up_self, he]
  · rw [va_up_ne _ _ hb, hn b hb]
theorem pIu_E {cs : Nat → ClassId} {P : PS} {a k : Nat} {v : Int32} (b : Nat) (hb : b ≠ a) : pE cs (pIu P a k v) b = pE cs P b := pE_off (P := P) (T := pIu P a k v) rfl rfl (va_up_ne _ _ hb) rfl rfl
theorem pJu_E {cs : Nat → ClassId} {P : PS} {a k : Nat} {v : Int64} (b : Nat) (hb : b ≠ a) : pE cs (pJu P a k v) b = pE cs P b := pE_off (P := P) (T := pJu P a k v) rfl rfl rfl (va_up_ne _ _ hb) rfl
theorem pRu_E {cs : Nat → ClassId} {P : PS} {a k : Nat} {v : Option Nat} (b : Nat) (hb : b ≠ a) : pE cs (pRu P a k v) b = pE cs P b := pE_off (P := P) (T := pRu P a k v) rfl rfl rfl rfl (va_up_ne _ _ hb)
theorem fit_i {x : Int32} : narrow .int (.int x) = .int x ∧ fits .int (.int x) = true := ⟨rfl, rfl⟩
theorem fit_z {x : Int32} (h : x = 0 ∨ x = 1) : narrow .boolean (.int x) = .int x ∧ fits .boolean (.int x) = true := by
  rcases h with rfl | rfl <;> exact ⟨rfl, rfl⟩
theorem fit_r {ty : FieldType} (h : (∃ n, ty = .object n) ∨ ∃ t, ty = .array t) (v : Option Nat) : narrow ty (va_rf v) = va_rf v ∧ fits ty (va_rf v) = true := by
  rcases h with ⟨n, rfl⟩ | ⟨t, rfl⟩ <;> cases v <;> exact ⟨rfl, rfl⟩
