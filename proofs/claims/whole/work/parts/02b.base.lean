-- the shallow language: partial functions as Option; ck a check, lt_ a name, bd a call
def ck {β : Type} (b : Bool) (k : Option β) : Option β := if b = true then k else none
def lt_ {α β : Type} (a : α) (f : α → Option β) : Option β := f a
def bd {α σ β : Type} (o : Option (α × σ)) (f : α → σ → Option β) : Option β := match o with
  | some q => f q.1 q.2
  | none => none
def vin (i : Int32) (n : Nat) : Bool := decide (¬ (i < 0 ∨ n ≤ i.toNatClampNeg))
def z01 (v : Int32) : Bool := decide (v = 0 ∨ v = 1)
def nz (v : Int32) : Bool := decide (¬ v = 0)
theorem ck_e {β : Type} {b : Bool} {k : Option β} {r : β} (h : ck b k = some r) : b = true ∧ k = some r := by
  unfold ck at h
  split at h
  · exact ⟨by assumption, h⟩
  · cases h
theorem lt_e {α β : Type} {a : α} {f : α → Option β} {r : β} (h : lt_ a f = some r) : ∃ x, x = a ∧ f x = some r := ⟨a, rfl, h⟩
theorem bd_e {α σ β : Type} {o : Option (α × σ)} {f : α → σ → Option β} {r : β} (h : bd o f = some r) : ∃ (x : α) (S : σ), o = some (x, S) ∧ f x S = some r := by
  cases o with
  | none => cases h
  | some q => exact ⟨q.1, q.2, rfl, h⟩
theorem br_p {α : Type} {c : Prop} {inst : Decidable c} {A B r : α} (hc : c) (h : @ite α c inst A B = r) : A = r := (if_pos hc).symm.trans h
theorem br_n {α : Type} {c : Prop} {inst : Decidable c} {A B r : α} (hc : ¬ c) (h : @ite α c inst A B = r) : B = r := (if_neg hc).symm.trans h
theorem rt_e {α σ : Type} {v r : α} {S T : σ} (h : some (v, S) = some (r, T)) : v = r ∧ S = T := by cases h; exact ⟨rfl, rfl⟩
theorem vin_e {i : Int32} {n : Nat} (h : vin i n = true) : vp_in i n := of_decide_eq_true (p := ¬ (i < 0 ∨ n ≤ i.toNatClampNeg)) h
theorem z01_e {v : Int32} (h : z01 v = true) : v = 0 ∨ v = 1 := of_decide_eq_true h
theorem nz_e {v : Int32} (h : nz v = true) : ¬ v = 0 := of_decide_eq_true h
theorem z01_n {v : Int32} (h : v = 0 ∨ v = 1) : narrow .boolean (.int v) = .int v := by
  rcases h with rfl | rfl <;> rfl
theorem ml_set {β : Type} (L : List Nat) (f g : Nat → β) (j k : Nat) (hj : L[j]? = some k) (hn : L.Nodup) (hg : ∀ x, x ≠ k → g x = f x) : (L.map f).set j (g k) = L.map g := by
  apply List.ext_getElem?
  intro i
  rw [List.getElem?_set, List.getElem?_map, List.getElem?_map, List.length_map]
  have hlt : j < L.length := (List.getElem?_eq_some_iff.mp hj).1
  by_cases hi : j = i
  · subst hi
    rw [if_pos rfl, if_pos hlt, hj]
    rfl
  · rw [if_neg hi]
    cases hL : L[i]? with
    | none => rfl
    | some x =>
      have hx : x ≠ k := fun e => by
        subst e
        obtain ⟨h1, h2⟩ := List.getElem?_eq_some_iff.mp hj
        obtain ⟨h3, h4⟩ := List.getElem?_eq_some_iff.mp hL
        have hp := List.pairwise_iff_getElem.mp hn
        rcases Nat.lt_or_gt_of_ne hi with q | q
        · exact hp j i h1 h3 q (h2.trans h4.symm)
        · exact hp i j h3 h1 q (h4.trans h2.symm)
      show some (f x) = some (g x)
      rw [hg x hx]
-- the reference's memory: int fields by slot, rows of ints (and booleans) by slot, rows of longs by slot
abbrev MS : Type := (Nat → Int32) × (Nat → Nat → Int32) × (Nat → Nat → Int64)
def mSl : List Nat := [3, 4, 5, 6, 7, 8, 12, 13, 14, 15, 16, 17, 18, 19, 21, 27, 28, 29, 30, 31, 32, 33, 35, 36, 37, 38, 39]
def mLen : Nat → Nat := fun k => match k with
  | 3 => 8
  | 8 => 56
  | 12 => 100
  | 13 => 10
  | 14 => 10
  | 15 => 60
  | 16 => 60
  | 17 => 60
  | 18 => 60
  | 19 => 1000
  | 21 => 101
  | 27 => 8
  | 28 => 100
  | 30 => 5
  | 31 => 5
  | 32 => 56
  | 33 => 100
  | 35 => 20
  | 36 => 6
  | 37 => 6
  | 38 => 360
  | 39 => 60
  | _ => 14
def mTy : Nat → Nat := fun k => match k with
  | 28 => 1
  | 29 => 1
  | 32 => 1
  | 38 => 2
  | 39 => 2
  | _ => 0
def mIsR (k : Nat) : Bool := mSl.contains k
def mV (ad : Nat → Nat) (S : MS) (k : Nat) : Value := if mIsR k = true then .ref (ad k) else .int (S.1 k)
def mF (ad : Nat → Nat) (S : MS) : List Value := (List.range 40).map (mV ad S)
def mE (cs : Nat → ClassId) (S : MS) (k : Nat) : va_E := if mTy k = 2 then .inl (cs 2, mLen k, .inr (.inl (S.2.2 k))) else if mTy k = 1 then .inl (cs 3, mLen k, .inl (S.2.1 k)) else .inl (cs 1, mLen k, .inl (S.2.1 k))
def mW (cs : Nat → ClassId) (ad : Nat → Nat) (S : MS) : va_W := (ad 100, .inr (10, mF ad S)) :: mSl.map (fun k => (ad k, mE cs S k))
def ptys (cs : Nat → ClassId) : List (ClassId × FieldType) := [(cs 0, .byte), (cs 1, .int), (cs 2, .long), (cs 3, .boolean), (cs 4, .object "HeardWords$Person"), (cs 5, .object "HeardWords$Tape"), (cs 6, .object "java/lang/Object")]
def mA (ad : Nat → Nat) : Nat → Prop := fun q => q = ad 100 ∨ ∃ k ∈ mSl, q = ad k
def mP (S : MS) (k : Nat) (v : Int32) : MS := (upd S.1 k v, S.2)
def mR (S : MS) (k i : Nat) (v : Int32) : MS := (S.1, va_up S.2.1 k (upd (S.2.1 k) i v), S.2.2)
def mJ (S : MS) (k i : Nat) (v : Int64) : MS := (S.1, S.2.1, va_up S.2.2 k (vp_updL (S.2.2 k) i v))
theorem mSl_nd : mSl.Nodup := by decide +kernel
theorem mF_get {ad : Nat → Nat} {S : MS} {k : Nat} (hk : k < 40) : (mF ad S)[k]? = some (mV ad S k) := by
  simp [mF, List.getElem?_map, hk]
theorem mF_set {ad : Nat → Nat} {S : MS} {k : Nat} {v : Int32} (hk : k < 40) (hI : mIsR k = false) : (mF ad S).set k (.int v) = mF ad (mP S k v) := by
  have e : Value.int v = mV ad (mP S k v) k := by simp [mV, hI, mP, upd]
  rw [e]
  exact ml_set (List.range 40) (mV ad S) (mV ad (mP S k v)) k k (by simp [hk]) List.nodup_range (fun x hx => by simp [mV, mP, upd, hx])
theorem mW_0 {cs : Nat → ClassId} {ad : Nat → Nat} {S : MS} : (mW cs ad S)[0]? = some (ad 100, .inr (10, mF ad S)) := rfl
theorem mW_k {cs : Nat → ClassId} {ad : Nat → Nat} {S : MS} {j k : Nat} (hj : mSl[j]? = some k) : (mW cs ad S)[j + 1]? = some (ad k, mE cs S k) := by
  show (mSl.map (fun k => (ad k, mE cs S k)))[j]? = _
  rw [List.getElem?_map, hj]
  rfl
theorem mW_setI {cs : Nat → ClassId} {ad : Nat → Nat} {S : MS} {k : Nat} {v : Int32} (hk : k < 40) (hI : mIsR k = false) : (mW cs ad S).set 0 (ad 100, .inr (10, (mF ad S).set k (.int v))) = mW cs ad (mP S k v) := by
  rw [mF_set hk hI]
  rfl
theorem mW_setA {cs : Nat → ClassId} {ad : Nat → Nat} {S T : MS} {j k : Nat} {x : va_E} (hj : mSl[j]? = some k) (hF : T.1 = S.1) (hx : x = mE cs T k) (hn : ∀ i, i ≠ k → mE cs T i = mE cs S i) : (mW cs ad S).set (j + 1) (ad k, x) = mW cs ad T := by
  have e1 : mF ad T = mF ad S := by
    unfold mF mV
    rw [hF]
  show (ad 100, _) :: (mSl.map (fun k => (ad k, mE cs S k))).set j (ad k, x) = _
  rw [hx]
  unfold mW
  rw [e1]
  exact congrArg _ (ml_set mSl (fun k => (ad k, mE cs S k)) (fun k => (ad k, mE cs T k)) j k hj mSl_nd (fun i hi => by rw [hn i hi]))
def mWd (D : va_G) (cs : Nat → ClassId) (ad : Nat → Nat) (s : State) (S : MS) (H : Heap) (locs : List Loc) : Prop := va_P D vwCl (mW cs ad S) H ∧ va_K D vwCl (ptys cs) s ∧ va_D (mA ad) (mW cs ad S) ∧ va_S (mA ad) s.heap H locs
def mB (D : va_G) (cs : Nat → ClassId) (ad : Nat → Nat) (S : MS) (U : State) : Prop := va_P D vwCl (mW cs ad S) U.heap ∧ va_K D vwCl (ptys cs) U ∧ va_D (mA ad) (mW cs ad S)
def mQI (below : List Frame) (D : va_G) (cs : Nat → ClassId) (ad : Nat → Nat) (args : Array Value) (s : State) (r0 : Int32) (S0 : MS) : State → Prop := MQ below (va_Qi (fun r (_ : Unit) => r = r0) (fun _ t => mB D cs ad S0 t) (mA ad)) args s 0 0 (mA ad)
def mQL (below : List Frame) (D : va_G) (cs : Nat → ClassId) (ad : Nat → Nat) (args : Array Value) (s : State) (r0 : Int64) (S0 : MS) : State → Prop := MQ below (va_Ql (fun r (_ : Unit) => r = r0) (fun _ t => mB D cs ad S0 t) (mA ad)) args s 0 0 (mA ad)
def mQV (below : List Frame) (D : va_G) (cs : Nat → ClassId) (ad : Nat → Nat) (args : Array Value) (s : State) (r0 : Int32) (S0 : MS) : State → Prop := MQ below (va_Qv (fun (_ : Unit) => r0 = 0) (fun _ t => mB D cs ad S0 t) (mA ad)) args s 0 0 (mA ad)
def MetI (l : Launch) (y : MethodName) (ws : List Cond) (rm : Room) (D : va_G) (cs : Nat → ClassId) (ad : Nat → Nat) (As : List Value) (S S0 : MS) (r0 : Int32) : Prop := Met l y ws rm (va_Pc (.ref (ad 100) :: As) (mB D cs ad S)) (va_Qi (fun r (_ : Unit) => r = r0) (fun _ t => mB D cs ad S0 t) (mA ad)) 0 0 (mA ad)
def MetL (l : Launch) (y : MethodName) (ws : List Cond) (rm : Room) (D : va_G) (cs : Nat → ClassId) (ad : Nat → Nat) (As : List Value) (S S0 : MS) (r0 : Int64) : Prop := Met l y ws rm (va_Pc (.ref (ad 100) :: As) (mB D cs ad S)) (va_Ql (fun r (_ : Unit) => r = r0) (fun _ t => mB D cs ad S0 t) (mA ad)) 0 0 (mA ad)
def MetV (l : Launch) (y : MethodName) (ws : List Cond) (rm : Room) (D : va_G) (cs : Nat → ClassId) (ad : Nat → Nat) (As : List Value) (S S0 : MS) (r0 : Int32) : Prop := Met l y ws rm (va_Pc (.ref (ad 100) :: As) (mB D cs ad S)) (va_Qv (fun (_ : Unit) => r0 = 0) (fun _ t => mB D cs ad S0 t) (mA ad)) 0 0 (mA ad)
theorem mB_blind {av : List Value} {D : va_G} {cs : Nat → ClassId} {ad : Nat → Nat} {S : MS} : FrameBlind (va_Pc av (mB D cs ad S)) := fun a U g mk q => ⟨q.1, q.2.1, va_K.moved (u := U) (U := U.calling g mk a) (Vm.Alike.refl U.vm) q.2.2.1, q.2.2.2⟩
def mCx (p : Program) (s : State) (m : MethodId) (args : Array Value) (meth : Method) (c : Code) (own : String) (cc : ByteArray) (ws : List Cond) (nL : Nat) (ty : Option FieldType) : Prop := p.tables.exec = Jvm.exec ∧ c.code = cc ∧ meth.sig.returnType = ty ∧ (∀ w ∈ ws, w.before args s = true) ∧ s.vm.findClass own = some m.cls ∧ meth.locks = false ∧ c.maxLocals = nL
def mGo (p : Program) (l : Launch) (e : Env) (R : Room) (s : State) (m : MethodId) (args : Array Value) (below : List Frame) (meth : Method) (c : Code) (nL : Nat) (D : va_G) (cs : Nat → ClassId) (ad : Nat → Nat) (Q : State → Prop) (pc : Nat) (lv : List (Nat × Value)) (st : List Value) (S : MS) : Prop := ∀ (H : Heap) (locs : List Loc) (ls : Array Slot), lv_has ls nL lv → mWd D cs ad s S H locs → W p l e R s m args below meth c H locs 0 0 Q (F0 m pc ls st)
