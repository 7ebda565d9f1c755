section CST
variable {p : Program} {l : Launch} {e : Env} {R : Room} {s : State} {m : MethodId} {args : Array Value} {below : List Frame} {meth : Method} {c : Code} {H : Heap} {locs : List Loc} {cells slots : Nat} {Q : State → Prop}
variable {cc : ByteArray} {pc : Nat} {ls : Array Slot} {rest : List Value} {D : va_G} {cs : Nat → ClassId} {t0 : TS} {A : Nat → Prop} {P T : PS} {Ts : List Cond} {nL : Nat} {ty : Option FieldType} {own : String} {i : Nat}
def lt11 (i : Nat) : Bool := decide (i < 11)
theorem lt11_e {i : Nat} (h : lt11 i = true) : i < 11 := of_decide_eq_true h
theorem cw_sval (cx : mCx p s m args meth c own cc Ts nL ty) (hsub : ∀ w ∈ wsL_law, w ∈ Ts) (w : cWd D cs t0 A s P H locs) (hi : lt11 i = true) {index : Nat} (hf : Cond.fieldLink own index "java/lang/String" "value" "[B" ∈ wsL_law) (hdg : decode cc pc = .ok (.getfield index, 3))
    (kk : W p l e R s m args below meth c H locs cells slots Q (F0 m (pc + 3) ls (.ref (t0.2.2.2.1 i) :: rest))) : W p l e R s m args below meth c H locs cells slots Q (F0 m pc ls (.ref (t0.2.2.1 i) :: rest)) := by
  obtain ⟨hx, hb, -, hts, hown, -⟩ := cx
  exact vk_getf hx hb (w.2.2.2.2.2.2.2.2.2.2.2.2.1.1 i (lt11_e hi)).2.2.1 w.2.2.2.2.1 hown (hts _ (hsub _ hf)) (fun _ h => h) hdg kk
theorem cw_scod (cx : mCx p s m args meth c own cc Ts nL ty) (hsub : ∀ w ∈ wsL_law, w ∈ Ts) (w : cWd D cs t0 A s P H locs) (hi : lt11 i = true) {index : Nat} (hf : Cond.fieldLink own index "java/lang/String" "coder" "B" ∈ wsL_law) (hdg : decode cc pc = .ok (.getfield index, 3))
    (kk : W p l e R s m args below meth c H locs cells slots Q (F0 m (pc + 3) ls (.int 0 :: rest))) : W p l e R s m args below meth c H locs cells slots Q (F0 m pc ls (.ref (t0.2.2.1 i) :: rest)) := by
  obtain ⟨hx, hb, -, hts, hown, -⟩ := cx
  exact vk_getf hx hb (w.2.2.2.2.2.2.2.2.2.2.2.2.1.1 i (lt11_e hi)).2.1 w.2.2.2.2.1 hown (hts _ (hsub _ hf)) (fun _ h => h) hdg kk
theorem cw_slen (cx : mCx p s m args meth c own cc Ts nL ty) (w : cWd D cs t0 A s P H locs) (hi : lt11 i = true) (hdg : decode cc pc = .ok (.arraylength, 1))
    (kk : W p l e R s m args below meth c H locs cells slots Q (F0 m (pc + 1) ls (.int (nI (strL.getD i 0)) :: rest))) : W p l e R s m args below meth c H locs cells slots Q (F0 m pc ls (.ref (t0.2.2.2.1 i) :: rest)) := by
  obtain ⟨hx, hb, -⟩ := cx
  exact va_tlen hx hb (w.2.2.2.2.2.2.2.2.2.2.2.2.1.1 i (lt11_e hi)).2.2.2 w.2.2.2.2.1 rfl hdg kk
theorem cw_sbald (cx : mCx p s m args meth c own cc Ts nL ty) (w : cWd D cs t0 A s P H locs) (hi : lt11 i = true) {j : Int32} (hj : vin j (strL.getD i 0) = true) (hdg : decode cc pc = .ok (.baload, 1))
    (kk : W p l e R s m args below meth c H locs cells slots Q (F0 m (pc + 1) ls (.int ((strB.getD i []).getD j.toNatClampNeg 0) :: rest))) : W p l e R s m args below meth c H locs cells slots Q (F0 m pc ls (.int j :: .ref (t0.2.2.2.1 i) :: rest)) := by
  obtain ⟨hx, hb, -⟩ := cx
  exact va_tb hx hb (w.2.2.2.2.2.2.2.2.2.2.2.2.1.1 i (lt11_e hi)).2.2.2 w.2.2.2.2.1 (vin_e hj) rfl hdg kk
theorem cw_cmpS (cx : mCx p s m args meth c own cc Ts nL ty) (hsub : ∀ w ∈ wsL_law, w ∈ Ts) (w : cWd D cs t0 A s P H locs) {index : Nat} (hf : Cond.fieldLink own index "java/lang/String" "COMPACT_STRINGS" "Z" ∈ wsL_law) (hdg : decode cc pc = .ok (.getstatic index, 3))
    (kk : W p l e R s m args below meth c H locs cells slots Q (F0 m (pc + 3) ls (.int 1 :: rest))) : W p l e R s m args below meth c H locs cells slots Q (F0 m pc ls rest) := by
  obtain ⟨hx, hb, -, hts, hown, -⟩ := cx
  exact va_gets hx hb w.2.2.2.2.2.2.2.2.2.2.1 w.2.2.2.2.1 hown (hts _ (hsub _ hf)) (fun _ h => h) hdg kk
theorem cw_fmt (cx : mCx p s m args meth c own cc Ts nL ty) (hsub : ∀ w ∈ wsL_law, w ∈ Ts) (w : cWd D cs t0 A s P H locs) {index : Nat} (hf : Cond.fieldLink own index "jdk/internal/util/Preconditions" "SIOOBE_FORMATTER" "Ljava/util/function/BiFunction;" ∈ wsL_law) (hdg : decode cc pc = .ok (.getstatic index, 3))
    (kk : W p l e R s m args below meth c H locs cells slots Q (F0 m (pc + 3) ls (va_rf t0.2.2.2.2 :: rest))) : W p l e R s m args below meth c H locs cells slots Q (F0 m pc ls rest) := by
  obtain ⟨hx, hb, -, hts, hown, -⟩ := cx
  exact va_gets hx hb w.2.2.2.2.2.2.2.2.2.2.2.1 w.2.2.2.2.1 hown (hts _ (hsub _ hf)) (fun _ h => h) hdg kk
theorem cw_ldcS (cx : mCx p s m args meth c "HeardWords$Reader" cc Ts nL ty) (w : cWd D cs t0 A s P H locs) (i : Nat) {index : Nat} {tx : String} (hi : strT[i]? = some (index, tx)) (hdg : decode cc pc = .ok (.ldc index, 2))
    (kk : W p l e R s m args below meth c H locs cells slots Q (F0 m (pc + 2) ls (.ref (t0.2.2.1 i) :: rest))) : W p l e R s m args below meth c H locs cells slots Q (F0 m pc ls rest) := by
  obtain ⟨hx, hb, -, hts, hown, -⟩ := cx
  exact va_ldcS hx hb hown (w.2.2.2.2.2.2.2.2.2.2.2.2.2 i _ hi) hdg kk
variable {y : MethodName} {ws : List Cond} {rm : Room} {bytes : ByteArray} {maxL n index mc ms : Nat} {rty : Option FieldType} {st0 As : List Value}
theorem cr_Vs (cx : mCx p s m args meth c own cc Ts nL ty) {Qc : Array Value → State → Outcome → State → Prop} (hM : Met l y ws rm (va_Pc (.ref (t0.2.2.1 i) :: As) (cB D cs t0 P)) Qc mc ms (pA P)) (hi : lt11 i = true) (cw : CallW R s args own RJ0 index y bytes maxL rty ws rm mc ms n) (w : cWd D cs t0 A s P H locs) (hn : As.length = n) (hsz : ls.size = nL) (hst : st0 = As.reverse ++ .ref (t0.2.2.1 i) :: rest) (hcat : (rest.map fun v => v.category).sum ≤ 8) (hdg : decode cc pc = .ok (.invokevirtual index, 3)) (hf : cells + mc ≤ R.cells ∧ slots + ms ≤ R.slots) : cRun p l e R s m args below meth c P D cs t0 A H locs cells slots mc ms pc ls st0 rest Qc (.ref (t0.2.2.1 i) :: As) := by
  obtain ⟨hx, hb1, -, hts, hown, -, hml⟩ := cx
  exact ⟨w, va_runV (As := As) (rest := rest) ⟨hx, hb1, hml, hown, hts⟩ hM cw ⟨cB_blind, vk_recv w.2.2.2.2.2.2.2.2.2.2.2.2.1 (lt11_e hi) w.2.2.2.2.1, fun U hU hW => ⟨rfl, cpre w U hU hW⟩⟩ rfl hn hsz hst (lv_room hcat) hdg hf⟩
end CST
def isCh (v : Int32) : Bool := decide (v = (v.toUInt32 % 65536).toInt32)
theorem isCh_e {v : Int32} (h : isCh v = true) : narrow .char (.int v) = .int v := by
  have e : v = (v.toUInt32 % 65536).toInt32 := of_decide_eq_true h
  rw [e]
  exact pk_nc v
def isBy (v : Int32) : Bool := decide (v = v.toInt8.toInt32)
theorem isBy_e {v : Int32} (h : isBy v = true) : narrow .byte (.int v) = .int v := by
  have e : v = v.toInt8.toInt32 := of_decide_eq_true h
  rw [e]
  exact pk_nb v
