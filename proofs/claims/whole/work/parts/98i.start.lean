-- behind the two constructors: the class's pool and the reference's memory
section PST
variable {D : va_G} {cs : Nat → ClassId} {t0 : TS} {A : Nat → Prop} {P P1 P2 : PS} {H : Heap} {th : Nat} {da : DD} {ws ws' : va_W}
def adm (th k : Nat) : Nat := if k = 100 then th else th + 1 + mSl.idxOf k
def mst0 (P : PS) (th : Nat) : MS := (pI P th, fun k => pI P (adm th k), fun k => pJ P (adm th k))
def p3 (P1 P2 : PS) : PS := (pL P1, pK P2, pN P2, pI P2, pJ P2, pR P2, pZ P2)
theorem ix_k : ∀ j, j < 27 → mSl[j]? = some (mSl.getD j 0) ∧ mSl.idxOf (mSl.getD j 0) = j ∧ mSl.getD j 0 < 40 := by decide +kernel
theorem kf_k : ∀ k, k < 40 → (kF 10)[k]? = some (mIsR k) := by decide +kernel
theorem mk_k : ∀ j, j < 27 → mIsR (mSl.getD j 0) = true ∧ (mKd (mSl.getD j 0) = 13 ↔ mTy (mSl.getD j 0) = 2) ∧ (mKd (mSl.getD j 0) = 14 ↔ mTy (mSl.getD j 0) = 1) ∧ (mKd (mSl.getD j 0) = 13 ∨ mKd (mSl.getD j 0) = 14 ∨ mKd (mSl.getD j 0) = 12) := by decide +kernel
theorem adm_100 : adm th 100 = th := rfl
theorem adm_j {j k : Nat} (hj : mSl[j]? = some k) : j < 27 ∧ k < 40 ∧ adm th k = th + 1 + j := by
  have h1 : j < 27 := (List.getElem?_eq_some_iff.mp hj).1
  obtain ⟨a, b, c⟩ := ix_k j h1
  obtain rfl : mSl.getD j 0 = k := Option.some.inj (a.symm.trans hj)
  refine ⟨h1, c, ?_⟩
  unfold adm
  rw [if_neg (by omega), b]
theorem mSl_of {k : Nat} (hk : k ∈ mSl) : ∃ j : Nat, mSl[j]? = some k := List.getElem?_of_mem hk
theorem isR_of {k : Nat} (h : mIsR k = true) : k ∈ mSl := List.contains_iff_mem.mp h
theorem mF_p (hi : AF P th 27) : mF (adm th) (mst0 P th) = pFs P th 10 := by
  unfold mF pFs
  rw [show (kF 10).length = 40 from rfl]
  refine List.map_congr_left (fun k hk => ?_)
  have hk' : k < 40 := List.mem_range.mp hk
  unfold mV pV
  rw [kf_k k hk']
  by_cases c : mIsR k = true
  · rw [if_pos c, if_pos (by rw [c])]
    obtain ⟨j, hj⟩ := mSl_of (isR_of c)
    obtain ⟨a1, a2, a3⟩ := adm_j (th := th) hj
    rw [(hi j k a1 hj).1, a3]
    rfl
  · rw [if_neg c, if_neg (by rw [Option.some.injEq]; exact c)]
    rfl
theorem mE_p {j k : Nat} (hi : AF P th 27) (hj : mSl[j]? = some k) : mE cs (mst0 P th) k = pE cs P (th + 1 + j) ∧ th + 1 + j ∈ pL P := by
  obtain ⟨a1, a2, a3⟩ := adm_j (th := th) hj
  obtain ⟨b1, b2, b3, -, -, -⟩ := hi j k a1 hj
  obtain ⟨c1, c2⟩ := kk_e b2
  refine ⟨?_, c1⟩
  obtain ⟨e1, e2, e3, e4⟩ := mk_k j a1
  obtain rfl : mSl.getD j 0 = k := Option.some.inj ((ix_k j a1).1.symm.trans hj)
  generalize mSl.getD j 0 = k at *
  have hI : (mst0 P th).2.1 k = pI P (th + 1 + j) := by
    show pI P (adm th k) = _
    rw [a3]
  have hJ : (mst0 P th).2.2 k = pJ P (th + 1 + j) := by
    show pJ P (adm th k) = _
    rw [a3]
  unfold mE
  rcases e4 with q | q | q
  · rw [if_pos (e2.mp q), pE_l (c2.trans q), b3, hJ]
  · rw [if_neg (fun w => by rw [e2.mpr w] at q; cases q), if_pos (e3.mp q), pE_z (c2.trans q), b3, hI]
  · rw [if_neg (fun w => by rw [e2.mpr w] at q; cases q), if_neg (fun w => by rw [e3.mpr w] at q; cases q), pE_i (c2.trans q), b3, hI]
theorem mW_p (hk : kk P th 10 = true) (hi : AF P th 27) (i : Nat) (q : Nat × va_E) (h : (mW cs (adm th) (mst0 P th))[i]? = some q) : i < 28 ∧ q.1 = th + i ∧ q ∈ pW cs P := by
  obtain ⟨k1, k2⟩ := kk_e hk
  cases i with
  | zero =>
    obtain rfl := Option.some.inj (mW_0.symm.trans h)
    refine ⟨by omega, rfl, ?_⟩
    rw [mF_p hi, ← pE_obj k2 (by decide)]
    exact List.mem_map.mpr ⟨th, k1, rfl⟩
  | succ j =>
    have h' : (mSl.map (fun k => (adm th k, mE cs (mst0 P th) k)))[j]? = some q := h
    rw [List.getElem?_map] at h'
    cases hj : mSl[j]? with
    | none => rw [hj] at h'; cases h'
    | some k =>
      rw [hj] at h'
      obtain rfl := Option.some.inj h'
      obtain ⟨a1, a2, a3⟩ := adm_j (th := th) hj
      obtain ⟨c1, c2⟩ := mE_p (cs := cs) hi hj
      refine ⟨by omega, ?_, ?_⟩
      · show adm th k = _
        rw [a3]; omega
      · show (adm th k, mE cs (mst0 P th) k) ∈ pW cs P
        rw [c1, a3]
        exact List.mem_map.mpr ⟨_, c2, rfl⟩
theorem mA_p {q : Nat} (h : mA (adm th) q) : ∃ i, i < 28 ∧ q = th + i := by
  rcases h with h | ⟨k, hk, h⟩
  · exact ⟨0, by omega, h⟩
  · obtain ⟨j, hj⟩ := mSl_of hk
    obtain ⟨a1, a2, a3⟩ := adm_j (th := th) hj
    exact ⟨j + 1, by omega, by rw [h, a3]; omega⟩
theorem va_P_mem {cl : List vw_C} (h : va_P D cl ws H) (hs : ∀ x ∈ ws', x ∈ ws) : va_P D cl ws' H := fun k q hk => by
  obtain ⟨i, hi⟩ := List.getElem?_of_mem (hs q (List.mem_of_getElem? hk))
  exact h i q hi
theorem p3_mem (f : ∀ a c, kk P1 a c = true → kk P2 a c = true) {a : Nat} (h : a ∈ pL P1) : a ∈ pL P2 := (kk_e (f a (pK P1 a) (kk_of h rfl))).1
theorem p3_W (f : ∀ a c, kk P1 a c = true → kk P2 a c = true) : ∀ x ∈ pW cs (p3 P1 P2), x ∈ pW cs P2 := by
  intro x hx
  obtain ⟨a, ha, rfl⟩ := List.mem_map.mp hx
  exact List.mem_map.mpr ⟨a, p3_mem f ha, by rw [pE_off (P := P2) (T := p3 P1 P2) rfl rfl rfl rfl rfl]⟩
theorem p3_D (hD : va_D A (pW cs P1)) : va_D A (pW cs (p3 P1 P2)) := by
  have e : ∀ (i : Nat) (q : Nat × va_E), (pW cs (p3 P1 P2))[i]? = some q → ∃ q', (pW cs P1)[i]? = some q' ∧ q'.1 = q.1 := by
    intro i q h
    have h' : ((pL P1).map (fun a => (a, pE cs (p3 P1 P2) a)))[i]? = some q := h
    rw [List.getElem?_map] at h'
    cases hj : (pL P1)[i]? with
    | none => rw [hj] at h'; cases h'
    | some a =>
      rw [hj] at h'
      obtain rfl := Option.some.inj h'
      refine ⟨(a, pE cs P1 a), ?_, rfl⟩
      show ((pL P1).map (fun a => (a, pE cs P1 a)))[i]? = _
      rw [List.getElem?_map, hj]
      rfl
  refine ⟨fun i j p q hi hj hpq => ?_, fun k q hk => ?_⟩
  · obtain ⟨p', a1, a2⟩ := e i p hi
    obtain ⟨q', b1, b2⟩ := e j q hj
    exact hD.1 i j p' q' a1 b1 (by rw [a2, b2, hpq])
  · obtain ⟨q', b1, b2⟩ := e k q hk
    rw [← b2]
    exact hD.2 k q' b1
theorem p3_SAM {Pn : PS} (hz : CZ t0 P1) (ht : th = pZ P1) (hn : Pn = pNew P1 10 0) (f : SFM th Pn P2) : SAM t0 (pZ P1) (fun _ => False) (fun _ => False) P1 (p3 P1 P2) := by
  subst ht
  have zz : pZ Pn = pZ P1 + 1 := by rw [hn, pNew_Z]
  have i1 : ∀ a, a < pZ P1 → pI Pn a = pI P1 a := fun a ha => by rw [hn, pNew_I (by omega)]
  have r1 : ∀ a, a < pZ P1 → pR Pn a = pR P1 a := fun a ha => by rw [hn, pNew_R (by omega)]
  have j1 : ∀ a, a < pZ P1 → pJ Pn a = pJ P1 a := fun a ha => by rw [hn, pNew_J (by omega)]
  have n1 : ∀ a, a < pZ P1 → pN Pn a = pN P1 a := fun a ha => by rw [hn, pNew_N (by omega)]
  have k1 : ∀ a d, kk P1 a d = true → kk Pn a d = true := fun a d h => by rw [hn]; exact pNew_kk hz.1 h
  have z2 : pZ P1 ≤ pZ P2 := by have := f.2.2.2.2.2; omega
  refine ⟨fun a ha _ => ?_, fun a ha _ => ?_, fun a ha => ?_, fun a ha => ?_, fun a d h => ?_, z2, ?_, ?_, hz.2.2⟩
  · exact (f.1 a (by omega) (by omega)).trans (i1 a ha)
  · exact (f.2.1 a (by omega) (by omega)).trans (r1 a ha)
  · exact (f.2.2.1 a (by omega)).trans (j1 a ha)
  · exact (f.2.2.2.1 a (by omega)).trans (n1 a ha)
  · exact kk_of (kk_e h).1 (kk_e (f.2.2.2.2.1 a d (k1 a d h))).2
  · exact fun a ha => Nat.lt_of_lt_of_le (hz.1 a ha) z2
  · exact Nat.lt_of_lt_of_le hz.2.1 z2
theorem mm00 (hi : AF P th 27) (h0 : ∀ k, k ≠ 26 → pI P th k = 0) : MM A00 (mst0 P th) := by
  have row : ∀ j k, mSl[j]? = some k → k ≠ 36 → (mst0 P th).2.1 k = fun _ => 0 := fun j k hj hk => by
    obtain ⟨a1, a2, a3⟩ := adm_j (th := th) hj
    show pI P (adm th k) = _
    rw [a3]
    exact (hi j k a1 hj).2.2.2.1 hk
  refine ⟨⟨h0 0 (by decide), fun w hw => ⟨fun h => absurd h (Nat.not_lt_zero _), ?_, fun k hk => absurd hk (Nat.not_lt_zero _)⟩⟩, ⟨h0 9 (by decide), fun r hr => absurd hr (Nat.not_lt_zero _)⟩, fun p hp => ?_, h0 1 (by decide), h0 2 (by decide), h0 10 (by decide), fun i c h => (by cases h), h0 34 (by decide), fun i _ h => absurd h (Nat.not_lt_zero _), fun t ht => ⟨?_, ?_, fun i hi' => ?_⟩⟩
  · rw [row 4 7 rfl (by decide)]; rfl
  · rw [row 0 3 rfl (by decide)]; rfl
  · obtain ⟨a1, a2, a3⟩ := adm_j (th := th) (j := 23) (k := 36) rfl
    show pI P (adm th 36) t = _
    rw [a3]
    exact (hi 23 36 a1 rfl).2.2.2.2.1 rfl t ht
  · rw [row 24 37 rfl (by decide)]; rfl
  · obtain ⟨a1, a2, a3⟩ := adm_j (th := th) (j := 25) (k := 38) rfl
    show pJ P (adm th 38) _ = _
    rw [a3, (hi 25 38 a1 rfl).2.2.2.2.2 rfl]
    rfl
-- both worlds, with their first states
theorem p3_all {s : State} {locs : List Loc} {Pn : PS} (hD1 : va_D A (pW cs P1)) (hz : CZ t0 P1) (ht : th = pZ P1) (hs : s.heap.size ≤ pZ P1) (hn : Pn = pNew P1 10 0) (hk : kk P2 th 10 = true) (hZ : pZ P2 = th + 1 + 27) (f : SFM th Pn P2) (h0 : ∀ k, k ≠ 26 → pI P2 th k = 0) (hi : AF P2 th 27) (hc : CC t0 da A00 P1) (w : cWd D cs t0 A s P2 H locs) : cWd D cs t0 A s (p3 P1 P2) H locs ∧ mX D cs (adm th) A (mst0 P2 th) (p3 P1 P2) H ∧ CC t0 da A00 (p3 P1 P2) ∧ MM A00 (mst0 P2 th) := by
  obtain ⟨w1, w2, w3, w4, w5, w6, w7⟩ := w
  have k1 : ∀ a d, kk P1 a d = true → kk P2 a d = true := fun a d h => f.2.2.2.2.1 a d (by rw [hn]; exact pNew_kk hz.1 h)
  have sm : SAM t0 (pZ P1) (fun _ => False) (fun _ => False) P1 (p3 P1 P2) := p3_SAM hz ht hn f
  refine ⟨⟨w1, va_P_mem w2 (p3_W k1), w3, p3_D hD1, w5, w6, w7⟩, ⟨va_P_mem w2 (fun x hx => ?_), ⟨fun i j p q a b c => ?_, fun i q a => ?_⟩, fun q hq => ?_⟩, hc.keep wf00 sm, mm00 hi h0⟩
  · obtain ⟨i, hx'⟩ := List.getElem?_of_mem hx
    exact (mW_p hk hi i x hx').2.2
  · have a1 := (mW_p hk hi i p a).2.1
    have b1 := (mW_p hk hi j q b).2.1
    omega
  · obtain ⟨a1, a2, -⟩ := mW_p hk hi i q a
    cases i with
    | zero => exact Or.inl a2
    | succ j =>
      refine Or.inr ⟨mSl.getD j 0, ?_, ?_⟩
      · exact List.mem_of_getElem? (ix_k j (by omega)).1
      · rw [(adm_j (th := th) (ix_k j (by omega)).1).2.2, a2]; omega
  · obtain ⟨i, h1, rfl⟩ := mA_p hq
    refine ⟨w6 _ (by omega), fun h => ?_, ?_⟩
    · have := hz.1 _ h
      omega
    · show th + i < pZ P2
      omega
end PST
