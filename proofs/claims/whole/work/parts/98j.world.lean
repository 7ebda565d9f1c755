-- what holds of the classes, the statics and the texts at the law's entry
section PWD
variable {s : State} {b : Nat}
def tmS (i : Nat) : Term := .string "HeardWords$Reader" (strT.getD i (0, "")).1
theorem gv_in {w : Cond} (h : (Jvm.Cond.and given_1 narrow_1).before #[Value.ref b] s = true) (hw : w ∈ flatC (Jvm.Cond.and given_1 narrow_1)) : w.before #[Value.ref b] s = true := flat_of_before _ h w hw
def fl_gv : List Cond := flatC (Jvm.Cond.and given_1 narrow_1)
theorem ws_ex : ∀ i, i < 11 → Cond.exactly (tmS i) "java/lang/String" ∈ fl_gv := by decide +kernel
theorem ws_co : ∀ i, i < 11 → Cond.eq (.field (tmS i) "java/lang/String" "coder" "B") (.int 0) ∈ fl_gv := by decide +kernel
theorem ws_ar : ∀ i, i < 11 → Cond.arrayOf (.field (tmS i) "java/lang/String" "value" "[B") .byte ∈ fl_gv := by decide +kernel
theorem ws_le : ∀ i, i < 11 → Cond.eq (.length (.field (tmS i) "java/lang/String" "value" "[B")) (.int (Int32.ofNat (strL.getD i 0))) ∈ fl_gv := by decide +kernel
theorem ws_el : ∀ i, i < 11 → ∀ j, j < strL.getD i 0 → Cond.eq (.elem (.field (tmS i) "java/lang/String" "value" "[B") (.int (Int32.ofNat j))) (.int ((strB.getD i []).getD j 0)) ∈ fl_gv := by decide +kernel
theorem ws_ne : ∀ i, i < 11 → ∀ j, j < 11 → i ≠ j → Cond.not (Cond.eq (tmS i) (tmS j)) ∈ fl_gv ∨ Cond.not (Cond.eq (tmS j) (tmS i)) ∈ fl_gv := by decide +kernel
theorem ws_sr : ∀ i, i < 11 → Cond.stringRef "HeardWords$Reader" (strT.getD i (0, "")).1 (strT.getD i (0, "")).2 ∈ lw_tbl := by decide +kernel
theorem ws_nF : ∀ q ∈ nestF, Cond.fieldLinkNest q.1 q.2.1 q.2.2.1 q.2.2.2.1 q.2.2.2.2.1 q.2.2.2.2.2 ∈ lw_tbl := by decide +kernel
theorem ws_nM : ∀ q ∈ nestM, Cond.methodLinkNest q.1 q.2.1 q.2.2.1 q.2.2.2 ∈ lw_tbl := by decide +kernel
theorem ws_nA : ∀ q ∈ nestA, Cond.arrayOver (.object q) ∈ lw_tbl := by decide +kernel
theorem ws_nC : ∀ q ∈ nestC, Cond.castable q.1 q.2 ∈ lw_tbl := by decide +kernel
theorem ws_dc : Cond.declares ⟨"java/lang/Object", "getClass", "()Ljava/lang/Class;"⟩ ∈ lw_tbl := by decide +kernel
theorem st_pNw (hts : ∀ w ∈ lw_tbl, w.before #[Value.ref b] s = true) : pNw s := ⟨fun q hq => va_Nw.of rfl (hts _ (ws_nF q hq)), fun q hq => va_Nw.of rfl (hts _ (ws_nM q hq)), fun q hq => va_AO.of (hts _ (ws_nA q hq)), fun q hq => va_Nw.of rfl (hts _ (ws_nC q hq)), va_Dc.of (hts _ ws_dc)⟩
theorem st_kn (hts : ∀ w ∈ lw_tbl, w.before #[Value.ref b] s = true) {k : Nat} {C : String} {Tb : u_T} {N : Nat} {tyF : Nat → FieldType} (hT : kT k C Tb N tyF) {n : Nat} (hi : Cond.instantiable C n ∈ wsL_law) : ∃ x : ClassId × (Nat → Nat), ∀ q : vw_C, vwCl[k]? = some q → u_Kn s q.1 q.2.1 q.2.2 x.1 x.2 := by
  obtain ⟨cC, iS, h⟩ := u_known hts (fun w h => wsL_in w (hT.2.2.2.1 w h)) (hts _ (wsL_in _ hi))
  refine ⟨(cC, iS), fun q hq => ?_⟩
  obtain rfl := Option.some.inj (hT.1.symm.trans hq)
  exact h
theorem st_D (hts : ∀ w ∈ lw_tbl, w.before #[Value.ref b] s = true) : ∃ D : va_G, ∀ (k : Nat) (q : vw_C), vwCl[k]? = some q → u_Kn s q.1 q.2.1 q.2.2 (D.1 k) (D.2 k) := by
  have h0 : ∀ k : Nat, ∃ x : ClassId × (Nat → Nat), ∀ q : vw_C, vwCl[k]? = some q → u_Kn s q.1 q.2.1 q.2.2 x.1 x.2 := by
    intro k
    match k with
    | 0 => exact st_kn hts kT0 uin_RJx4a65c
    | 1 => exact st_kn hts kT1 uin_RX0
    | 2 => exact st_kn hts kT2 uin_RX1
    | 3 => exact st_kn hts kT3 uin_RX2
    | 4 => exact st_kn hts kT4 uin_RX3
    | 5 => exact st_kn hts kT5 uin_RX4
    | 6 => exact st_kn hts kT6 uin_RX5
    | 7 => exact st_kn hts kT7 uin_RX6
    | 8 => exact st_kn hts kT8 uin_RX7
    | 9 => exact st_kn hts kT9 uin_RX8
    | 10 => exact st_kn hts kT10 uin_RX9
    | k + 11 => exact ⟨(default, fun _ => 0), fun q hq => by
        have := (List.getElem?_eq_some_iff.mp hq).1
        have h11 : vwCl.length = 11 := rfl
        omega⟩
  obtain ⟨f, hf⟩ := Classical.axiomOfChoice h0
  exact ⟨(fun k => (f k).1, fun k => (f k).2), fun k q hq => hf k q hq⟩
theorem st_ap (hts : ∀ w ∈ lw_tbl, w.before #[Value.ref b] s = true) {t : FieldType} (hw : Cond.arrayClass t ∈ lw_tbl) : ∃ cA : ClassId, ArrOfT s cA t ∧ s.vm.findClass ("[" ++ t.toString) = some cA := by
  obtain ⟨c, k, comp, h1, h2, h3⟩ := Cond.arrayClass_spec (hts _ hw)
  exact ⟨c, fun n z => ⟨fun k h => (by cases h), k, h2, comp, h3⟩, h1⟩
theorem st_ao (hts : ∀ w ∈ lw_tbl, w.before #[Value.ref b] s = true) {C : String} (hw : Cond.arrayOver (.object C) ∈ lw_tbl) : ∃ cA : ClassId, ArrOfT s cA (.object C) ∧ va_RA s cA (.object C) := by
  obtain ⟨comp, c, k, h1, -, h3, h4, h5⟩ := Cond.arrayOver_spec (hts _ hw)
  exact ⟨c, fun n z => ⟨fun k h => (by cases h), k, h3, comp, h4⟩, k, comp, h3, h4, h1, h5⟩
theorem st_cs (hts : ∀ w ∈ lw_tbl, w.before #[Value.ref b] s = true) : ∃ cs : Nat → ClassId, ∀ (k : Nat) (q : ClassId × FieldType), (ptys cs)[k]? = some q → ArrOfT s q.1 q.2 ∧ va_RA s q.1 q.2 := by
  obtain ⟨c0, a0, b0⟩ := st_ap hts (t := .byte) (wsL_in _ (by decide +kernel))
  obtain ⟨c1, a1, b1⟩ := st_ap hts (t := .int) (wsL_in _ (by decide +kernel))
  obtain ⟨c2, a2, b2⟩ := st_ap hts (t := .long) (wsL_in _ (by decide +kernel))
  obtain ⟨c3, a3, b3⟩ := st_ap hts (t := .boolean) (wsL_in _ (by decide +kernel))
  obtain ⟨c4, a4, b4⟩ := st_ao hts (ws_nA _ (List.mem_of_getElem? (i := 0) rfl))
  obtain ⟨c5, a5, b5⟩ := st_ao hts (ws_nA _ (List.mem_of_getElem? (i := 1) rfl))
  obtain ⟨c6, a6, b6⟩ := st_ao hts (ws_nA _ (List.mem_of_getElem? (i := 2) rfl))
  refine ⟨fun k => [c0, c1, c2, c3, c4, c5, c6].getD k c0, fun k q hq => ?_⟩
  match k, hq with
  | 0, hq => cases hq; exact ⟨a0, b0⟩
  | 1, hq => cases hq; exact ⟨a1, b1⟩
  | 2, hq => cases hq; exact ⟨a2, b2⟩
  | 3, hq => cases hq; exact ⟨a3, b3⟩
  | 4, hq => cases hq; exact ⟨a4, b4⟩
  | 5, hq => cases hq; exact ⟨a5, b5⟩
  | 6, hq => cases hq; exact ⟨a6, b6⟩
  | k + 7, hq =>
    have := (List.getElem?_eq_some_iff.mp hq).1
    have h7 : ∀ cs : Nat → ClassId, (ptys cs).length = 7 := fun _ => rfl
    rw [h7] at this
    omega
theorem ws_d1 : Cond.laysStatic "java/util/ArrayList" "DEFAULTCAPACITY_EMPTY_ELEMENTDATA" "[Ljava/lang/Object;" ∈ lw_tbl := by decide +kernel
theorem ws_d2 : Cond.initialized "java/util/ArrayList" ∈ lw_tbl := by decide +kernel
theorem ws_d3 : Cond.laysStatic "java/lang/String" "COMPACT_STRINGS" "Z" ∈ lw_tbl := by decide +kernel
theorem ws_d4 : Cond.initialized "java/lang/String" ∈ lw_tbl := by decide +kernel
theorem ws_d5 : Cond.laysStatic "jdk/internal/util/Preconditions" "SIOOBE_FORMATTER" "Ljava/util/function/BiFunction;" ∈ lw_tbl := by decide +kernel
theorem ws_d6 : Cond.initialized "jdk/internal/util/Preconditions" ∈ lw_tbl := by decide +kernel
theorem ws_g1 : Cond.arrayOf (.static "java/util/ArrayList" "DEFAULTCAPACITY_EMPTY_ELEMENTDATA" "[Ljava/lang/Object;") (.object "java/lang/Object") ∈ fl_gv := by decide +kernel
theorem ws_g2 : Cond.eq (.length (.static "java/util/ArrayList" "DEFAULTCAPACITY_EMPTY_ELEMENTDATA" "[Ljava/lang/Object;")) (.int 0) ∈ fl_gv := by decide +kernel
theorem ws_g3 : Cond.eq (.static "java/lang/String" "COMPACT_STRINGS" "Z") (.int 1) ∈ fl_gv := by decide +kernel
theorem ws_g4 : Cond.isRef (.static "jdk/internal/util/Preconditions" "SIOOBE_FORMATTER" "Ljava/util/function/BiFunction;") ∈ fl_gv := by decide +kernel
theorem ws_g5 : Cond.isRef (.mirror "[Ljava/lang/Object;") ∈ fl_gv := by decide +kernel
theorem st_cZ {A : Nat → Prop} (hA : ∀ a : Nat, a < s.heap.size → ¬ A a) (hts : ∀ w ∈ lw_tbl, w.before #[Value.ref b] s = true) (hgv : (Jvm.Cond.and given_1 narrow_1).before #[Value.ref b] s = true) : ∃ t0 : TS, cZ t0 A s s.heap ∧ t0.1 < s.heap.size := by
  have hs : ∀ w ∈ fl_gv, w.before #[Value.ref b] s = true := flat_of_before _ hgv
  obtain ⟨t, ht, hT⟩ := va_Tof (N := 0) (f := fun _ => .null) (A := A) (by decide) (hs _ ws_g1) (va_eqt (hs _ ws_g2)) (fun j hj => absurd hj (Nat.not_lt_zero j)) hA
  obtain ⟨mi, hmi⟩ := va_Mi.of (hs _ ws_g5)
  have hc := va_Zof (A := A) (hts _ ws_d3) (hts _ ws_d4) (va_eqi (hs _ ws_g3)) hA
  have hf : ∃ fo : Option Nat, va_Z "jdk/internal/util/Preconditions" "SIOOBE_FORMATTER" "Ljava/util/function/BiFunction;" (va_rf fo) A s s.heap := by
    rcases va_Zqof (A := A) (hts _ ws_d5) (hts _ ws_d6) (hs _ ws_g4) hA with h | ⟨t, h⟩
    · exact ⟨none, h⟩
    · exact ⟨some t, h⟩
  obtain ⟨fo, hf⟩ := hf
  obtain ⟨adK, adV, hS, hE⟩ := vk_Sof (N := 11) (tm := tmS) (len := strL) (byt := strB) (A := A) (by decide) (fun i hi => hs _ (ws_ex i hi)) (fun i hi => hs _ (ws_co i hi)) (fun i hi => hs _ (ws_ar i hi)) (fun i hi => hs _ (ws_le i hi)) (fun i hi j hj => hs _ (ws_el i hi j hj)) (fun i j hi hj hij => (ws_ne i hi j hj hij).elim (fun h => Or.inl (hs _ h)) (fun h => Or.inr (hs _ h))) hA
  refine ⟨(t, mi, adK, adV, fo), ⟨st_pNw hts, va_Zref (hts _ ws_d1) (hts _ ws_d2) ht hA, hT, hmi, hc, hf, hS, fun i q hq => ?_⟩, ?_⟩
  · have hi : i < 11 := (List.getElem?_eq_some_iff.mp hq).1
    have e : strT.getD i (0, "") = q := by rw [List.getD_eq_getElem?_getD, hq]; rfl
    have h1 := hts _ (ws_sr i hi)
    have h2 : (tmS i).eval #[Value.ref b] s none [] s = some (.ref (adK i)) := hE i hi
    unfold tmS at h2
    rw [e] at h1 h2
    exact vk_R.of h1 h2
  · obtain ⟨cell, h1, -⟩ := hT
    exact (Array.getElem?_eq_some_iff.mp h1).1
theorem st_all {l : List Loc} (hl : l = []) (hts : ∀ w ∈ lw_tbl, w.before #[Value.ref b] s = true) (hgv : (Jvm.Cond.and given_1 narrow_1).before #[Value.ref b] s = true) : ∃ (D : va_G) (cs : Nat → ClassId) (t0 : TS) (P : PS), cWd D cs t0 (fun q : Nat => s.heap.size ≤ q) s P s.heap l ∧ CZ t0 P ∧ pZ P = s.heap.size := by
  subst hl
  obtain ⟨D, hD⟩ := st_D hts
  obtain ⟨cs, hC⟩ := st_cs hts
  obtain ⟨t0, hZ, hlt⟩ := st_cZ (A := fun q : Nat => s.heap.size ≤ q) (fun a h => Nat.not_le.mpr h) hts hgv
  refine ⟨D, cs, t0, ([], fun _ => 0, fun _ => 0, fun _ _ => 0, fun _ _ => 0, fun _ _ => none, s.heap.size), ⟨rfl, fun k q h => ?_, ⟨hD, hC⟩, ⟨fun i j p q h => ?_, fun k q h => ?_⟩, va_S.rf, fun q h => h, hZ⟩, ⟨fun a h => ?_, hlt, fun h => ?_⟩, rfl⟩
  · cases h
  · cases h
  · cases h
  · cases h
  · cases h
end PWD
