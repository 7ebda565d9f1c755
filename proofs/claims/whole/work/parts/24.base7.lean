def nn {β : Type} (o : Option Nat) (f : Nat → Option β) : Option β := match o with
  | some b => f b
  | none => none
def nl {β : Type} (o : Option Nat) (A : Option β) (B : Nat → Option β) : Option β := match o with
  | some b => B b
  | none => A
theorem nn_e {β : Type} {o : Option Nat} {f : Nat → Option β} {r : β} (h : nn o f = some r) : ∃ b, o = some b ∧ f b = some r := by
  cases o with
  | none => cases h
  | some b => exact ⟨b, rfl, h⟩
theorem nl_s {β : Type} {b : Nat} {A : Option β} {B : Nat → Option β} {r : Option β} (h : nl (some b) A B = r) : B b = r := h
theorem nl_n {β : Type} {A : Option β} {B : Nat → Option β} {r : Option β} (h : nl none A B = r) : A = r := h
theorem va_rf_cat (o : Option Nat) : (va_rf o).category = 1 := by cases o <;> rfl
theorem uGS {a b : Cond} {own : String} {idx : Nat} {y : MethodName} (hb : b ∈ wsL_law) (h1 : Cond.methodLink own idx y ∈ wsL_law) (h2 : Cond.static y ∈ wsL_law) (h4 : Cond.initialized y.cls ∈ wsL_law) : GoodIn (a :: wsL_law) (va_wsS own idx y (b :: wsL_law)) := by
  intro w hw
  have h : w ∈ wsL_law := by
    rcases List.mem_append.mp hw with q | q
    · simp only [List.mem_cons, List.not_mem_nil, or_false] at q
      rcases q with rfl | rfl | rfl <;> assumption
    · rcases List.mem_cons.mp q with rfl | q
      · exact hb
      · exact q
  exact ⟨List.mem_cons_of_mem _ h, good_of_word (u_good w h)⟩
theorem uGB {a b : Cond} (hb : b ∈ wsL_law) : GoodIn (a :: wsL_law) (b :: wsL_law) := by
  intro w hw
  have h : w ∈ wsL_law := by
    rcases List.mem_cons.mp hw with rfl | q
    · exact hb
    · exact q
  exact ⟨List.mem_cons_of_mem _ h, good_of_word (u_good w h)⟩
theorem kk_new {P T : PS} {d n : Nat} (h : T = pNew P d n) : kk T (pZ P) d = true := by
  subst h
  exact decide_eq_true ⟨List.mem_append_right _ List.mem_cons_self, va_up_self _ _ _⟩
section LQR
variable {p : Program} {l : Launch} {e : Env} {R : Room} {s : State} {m : MethodId} {args : Array Value} {below : List Frame} {meth : Method} {c : Code} {H : Heap} {locs : List Loc} {cells slots : Nat} {Q : State → Prop}
variable {cc : ByteArray} {pc : Nat} {ls : Array Slot} {rest : List Value} {D : va_G} {cs : Nat → ClassId} {t0 : TS} {A : Nat → Prop} {P T : PS} {Ts : List Cond} {nL : Nat} {ty : Option FieldType} {own : String} {a : Nat}
theorem lq_aload_n (hexec : p.tables.exec = Jvm.exec) (hb : c.code = cc) {k : Fin 4} {i : Nat} {o : Option Nat} (hdg : decode cc pc = .ok (.aload_n k, 1)) (hi : (k : Nat) = i) (hl : ls[i]? = some (.val (va_rf o)))
    (kk : W p l e R s m args below meth c H locs cells slots Q (F0 m (pc + 1) ls (va_rf o :: rest))) : W p l e R s m args below meth c H locs cells slots Q (F0 m pc ls rest) := by
  cases o with
  | none => exact lv_aload_nN hexec hb hdg hi hl kk
  | some x => exact lv_aload_n hexec hb hdg hi hl kk
theorem lq_aload (hexec : p.tables.exec = Jvm.exec) (hb : c.code = cc) {i : Nat} {o : Option Nat} (hdg : decode cc pc = .ok (.aload i, 2)) (hl : ls[i]? = some (.val (va_rf o)))
    (kk : W p l e R s m args below meth c H locs cells slots Q (F0 m (pc + 2) ls (va_rf o :: rest))) : W p l e R s m args below meth c H locs cells slots Q (F0 m pc ls rest) := by
  cases o with
  | none => exact lv_aloadN hexec hb hdg hl kk
  | some x => exact lv_aload hexec hb hdg hl kk
theorem lq_filter {i : Nat} {v : Value} {lv : List (Nat × Value)} : ((i, v) :: lv.filter (fun q => !(q.1 == i) && !(q.1 + 1 == i && q.2.category == 2))) = (i, v) :: lv.filter (fun q => !(q.1 == i) && !(q.1 + 1 == i && q.2.category == 2)) := rfl
theorem lq_astore_n (hexec : p.tables.exec = Jvm.exec) (hb : c.code = cc) {k : Fin 4} {i : Nat} {o : Option Nat} {lv lv' : List (Nat × Value)} (hdg : decode cc pc = .ok (.astore_n k, 1)) (hi : (k : Nat) = i) (h : lv_has ls nL lv) (hn : i < nL) (hl : ∀ v, v = va_rf o → (i, v) :: lv.filter (fun q => !(q.1 == i) && !(q.1 + 1 == i && q.2.category == 2)) = lv')
    (kk : ∀ ls' : Array Slot, lv_has ls' nL lv' → W p l e R s m args below meth c H locs cells slots Q (F0 m (pc + 1) ls' rest)) : W p l e R s m args below meth c H locs cells slots Q (F0 m pc ls (va_rf o :: rest)) := by
  cases o with
  | none => exact lv_astore_nN hexec hb hdg hi h hn (hl _ rfl) kk
  | some x => exact lv_astore_n hexec hb hdg hi h hn (hl _ rfl) kk
theorem lq_astore (hexec : p.tables.exec = Jvm.exec) (hb : c.code = cc) {i : Nat} {o : Option Nat} {lv lv' : List (Nat × Value)} (hdg : decode cc pc = .ok (.astore i, 2)) (h : lv_has ls nL lv) (hn : i < nL) (hl : ∀ v, v = va_rf o → (i, v) :: lv.filter (fun q => !(q.1 == i) && !(q.1 + 1 == i && q.2.category == 2)) = lv')
    (kk : ∀ ls' : Array Slot, lv_has ls' nL lv' → W p l e R s m args below meth c H locs cells slots Q (F0 m (pc + 2) ls' rest)) : W p l e R s m args below meth c H locs cells slots Q (F0 m pc ls (va_rf o :: rest)) := by
  cases o with
  | none => exact lv_astoreN hexec hb hdg h hn (hl _ rfl) kk
  | some x => exact lv_astore hexec hb hdg h hn (hl _ rfl) kk
theorem cw_getS (cx : mCx p s m args meth c own cc Ts nL ty) (hsub : ∀ w ∈ wsL_law, w ∈ Ts) (w : cWd D cs t0 A s P H locs) {d N : Nat} {C : String} {Tb : u_T} {tyF : Nat → FieldType} (hT : kT d C Tb N tyF) (ha : kk P a d = true) (k : Nat) (hk : k < N ∧ (kF d)[k]? = some true) {v : Nat} (hv : pR P a k = some v) {index : Nat} {ref : String} (hf : fK own ref index k Tb Ts s) (hdg : decode cc pc = .ok (.getfield index, 3))
    (kk : W p l e R s m args below meth c H locs cells slots Q (F0 m (pc + 3) ls (.ref v :: rest))) : W p l e R s m args below meth c H locs cells slots Q (F0 m pc ls (.ref a :: rest)) := cw_get cx hsub w hT ha k hk.1 (by simp [pV, hk.2, hv, va_rf]) hf hdg kk
theorem cw_getSN (cx : mCx p s m args meth c own cc Ts nL ty) (hsub : ∀ w ∈ wsL_law, w ∈ Ts) (w : cWd D cs t0 A s P H locs) {d N : Nat} {C : String} {Tb : u_T} {tyF : Nat → FieldType} (hT : kT d C Tb N tyF) (ha : kk P a d = true) (k : Nat) (hk : k < N ∧ (kF d)[k]? = some true) {v : Nat} (hv : pR P a k = some v) {index : Nat} {host : String} (hf : (own, index, (Tb k).1, (Tb k).2.1, (Tb k).2.2.1, host) ∈ nestF) (hdg : decode cc pc = .ok (.getfield index, 3))
    (kk : W p l e R s m args below meth c H locs cells slots Q (F0 m (pc + 3) ls (.ref v :: rest))) : W p l e R s m args below meth c H locs cells slots Q (F0 m pc ls (.ref a :: rest)) := cw_getRN cx hsub w hT ha k hk hv.symm hf hdg kk
end LQR
def cGo (p : Program) (l : Launch) (e : Env) (R : Room) (s : State) (m : MethodId) (args : Array Value) (below : List Frame) (meth : Method) (c : Code) (nL : Nat) (D : va_G) (cs : Nat → ClassId) (t0 : TS) (A : Nat → Prop) (Q : State → Prop) (cells slots : Nat) (pc : Nat) (lv : List (Nat × Value)) (st : List Value) (P : PS) : Prop := ∀ (H : Heap) (locs : List Loc) (ls : Array Slot), lv_has ls nL lv → cWd D cs t0 A s P H locs → W p l e R s m args below meth c H locs cells slots Q (F0 m pc ls st)
