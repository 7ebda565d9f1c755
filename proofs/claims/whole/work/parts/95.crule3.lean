-- the class: a rule's clauses
section PCR5
variable {t0 : TS} {P P' P'' P0 P1 : PS} {r b s g p q c z n l : Nat} {T o : List Nat} {X Y : Nat → Prop} {z0 : Nat}
theorem c_rinit {a1 a2 : Int32} (hz : CZ t0 P) (kz : kk P z 5 = true) (h3 : ∀ k, 3 ≤ k → pI P z k = 0) : ∃ P', hm_X4_init t0 P z a1 a2 = some (0, P') ∧ SAM t0 z (fun _ => False) (fun _ => False) P P' ∧ pI P' z 0 = a1 ∧ pI P' z 1 = a2 ∧ (∀ k, 3 ≤ k → pI P' z k = 0) ∧ pR P' z 2 = some (pZ P) ∧ LW t0 P' (pZ P) t0.1 0 ∧ pZ P' = pZ P + 1 := by
  have hzl := (kk_lt hz kz).1
  have hne : z ≠ pZ P := by omega
  have hne' : pZ P ≠ z := Ne.symm hne
  have s1 : SAM t0 z (fun _ => False) (fun _ => False) P (pNew P 0 0) := SAM.new hz (by omega)
  have hnz : pI (pNew P 0 0) z = pI P z := pNew_I hne
  have hni : pI (pNew P 0 0) (pZ P) = fun _ => 0 := pNew_Iz
  have k0 : kk (pNew P 0 0) (pZ P) 0 = true := pNew_kz
  have kz1 : kk (pNew P 0 0) z 5 = true := pNew_kk hz.1 kz
  have zN : pZ (pNew P 0 0) = pZ P + 1 := pNew_Z
  unfold hm_X4_init
  generalize pNew P 0 0 = N at *
  have e1 := c_linit (t0 := t0) k0
  have q : z < z → (fun _ : Nat => False) z := fun h => absurd h (Nat.lt_irrefl z)
  have q2 : pZ P < z → (fun _ : Nat => False) (pZ P) := fun h => by omega
  refine ⟨pIu (pIu (pRu (pRu (pIu N (pZ P) 0 0) (pZ P) 1 (some t0.1)) z 2 (some (pZ P))) z 0 a1) z 1 a2, ?_, ((((s1.aI q2).aR q2).aR q).aI q).aI q, ?_, ?_, fun k hk => ?_, ?_, ⟨?_, ?_, ?_, by decide, Or.inr ⟨rfl, rfl⟩⟩, ?_⟩
  · simp only [ck_t, nn_s, bd_s, lt_t, e1, kkI, kkR, RI, IR, NI, NR, ZI, ZR, kz1]
  · simp [pIu_eq, IR, upd]
  · simp [pIu_eq, IR, upd]
  · rw [pIu_eq, upd, if_neg (by omega), pIu_eq, upd, if_neg (by omega), IR, IR, pIu_ne hne, hnz]
    exact h3 k hk
  · simp [RI, pRu_eq, va_up]
  · simp only [kkI, kkR, RI, IR, NI, NR, ZI, ZR]; exact k0
  · simp [RI, pRu_ne hne', pRu_eq, va_up]
  · simp [pIu_ne hne', IR, pIu_eq, upd, hni]
    rfl
  · simp only [kkI, kkR, RI, IR, NI, NR, ZI, ZR]; exact zN
def RUQ (P1 P' : PS) (zr n : Nat) (v : Int32) : Prop := pR P' = pR P1 ∧ pJ P' = pJ P1 ∧ pN P' = pN P1 ∧ pK P' = pK P1 ∧ pL P' = pL P1 ∧ pZ P' = pZ P1 ∧ (∀ a, a ≠ zr → pI P' a = pI P1 a) ∧ ∀ k, pI P' zr k = if (k = 3 ∧ v = 0) ∨ (k = 4 ∧ v = 1) ∨ (k = 5 ∧ v = 3) then pI P1 zr k ||| nI (2 ^ n) else pI P1 zr k
theorem RUQ.k2 {zr : Nat} {v : Int32} (h : RUQ P1 P' zr n v) (a c : Nat) : kk P' a c = kk P1 a c := by
  unfold kk
  rw [h.2.2.2.1, h.2.2.2.2.1]
theorem c_radd {zr zl zb x : Nat} (kr : kk P zr 5 = true) (hr2 : pR P zr 2 = some zl) (hl : LW t0 P zl zb n) (hn : n ≤ 30) (e1 : hm_Jx4a65c_add_9ea2d t0 P zl x = some (1, P1)) (kr1 : kk P1 zr 5 = true) (kx : kk P1 x 2 = true) : ∃ P', hm_X4_add t0 P zr x = some (0, P') ∧ RUQ P1 P' zr n (pI P1 x 0) := by
  have e9 : (1 : Int32) <<< (nI n &&& 31) = nI (2 ^ n) := shl_n (by omega)
  unfold hm_X4_add
  simp only [ck_t, nn_s, bd_s, lt_t, kr, hr2, hl.sz, hl.1, e1, kx, e9]
  have up : ∀ (k : Nat) (v : Int32), (k = 3 ∧ v = 0) ∨ (k = 4 ∧ v = 1) ∨ (k = 5 ∧ v = 3) → RUQ P1 (pIu P1 zr k (pI P1 zr k ||| nI (2 ^ n))) zr n v := by
    intro k v hk
    refine ⟨rfl, rfl, rfl, rfl, rfl, rfl, fun a ha => pIu_ne ha, fun j => ?_⟩
    rw [pIu_eq, upd]
    by_cases c : j = k
    · subst c
      rw [if_pos rfl, if_pos hk]
    · rw [if_neg c, if_neg ?_]
      rintro (⟨y1, y2⟩ | ⟨y1, y2⟩ | ⟨y1, y2⟩)
      · rcases hk with ⟨k1, k2⟩ | ⟨k1, k2⟩ | ⟨k1, k2⟩
        · omega
        · rw [y2] at k2; exact absurd k2 (by decide)
        · rw [y2] at k2; exact absurd k2 (by decide)
      · rcases hk with ⟨k1, k2⟩ | ⟨k1, k2⟩ | ⟨k1, k2⟩
        · rw [y2] at k2; exact absurd k2 (by decide)
        · omega
        · rw [y2] at k2; exact absurd k2 (by decide)
      · rcases hk with ⟨k1, k2⟩ | ⟨k1, k2⟩ | ⟨k1, k2⟩
        · rw [y2] at k2; exact absurd k2 (by decide)
        · rw [y2] at k2; exact absurd k2 (by decide)
        · omega
  generalize pI P1 x 0 = v at *
  by_cases c0 : v = 0
  · rw [if_pos c0, kr1, ck_t]
    exact ⟨_, rfl, up 3 v (Or.inl ⟨rfl, c0⟩)⟩
  · rw [if_neg c0]
    by_cases c1 : v = 1
    · rw [if_pos c1, kr1, ck_t]
      exact ⟨_, rfl, up 4 v (Or.inr (Or.inl ⟨rfl, c1⟩))⟩
    · rw [if_neg c1]
      by_cases c3 : v = 3
      · rw [if_pos c3, kr1, ck_t]
        exact ⟨_, rfl, up 5 v (Or.inr (Or.inr ⟨rfl, c3⟩))⟩
      · rw [if_neg c3]
        refine ⟨P1, rfl, rfl, rfl, rfl, rfl, rfl, rfl, fun _ _ => rfl, fun k => ?_⟩
        rw [if_neg ?_]
        rintro (⟨y1, y2⟩ | ⟨y1, y2⟩ | ⟨y1, y2⟩)
        · exact c0 y2
        · exact c1 y2
        · exact c3 y2
-- where its parts stand
def fcC (z0 k : Nat) : Nat := if k = 0 then z0 + 2 else z0 + 3 + 2 * k
def zbC (t0 : TS) (z0 n : Nat) : Nat := if n = 0 then t0.1 else z0 + 4
def zpC (z0 n : Nat) : Nat := if n = 0 then z0 + 2 else z0 + 3 + 2 * n
def CLa (P : PS) (fc : Nat) (cl : Nat × Nat × List Nat) : Prop := kk P fc 2 = true ∧ kk P (fc + 1) 12 = true ∧ pI P fc 0 = nI cl.1 ∧ pI P fc 1 = nI cl.2.1 ∧ pR P fc 2 = some (fc + 1) ∧ pN P (fc + 1) = cl.2.2.length ∧ ∀ i t, cl.2.2[i]? = some t → pI P (fc + 1) i = nI t
def RUI (t0 : TS) (P : PS) (z0 nu l : Nat) (acc : List (Nat × Nat × List Nat)) : Prop := kk P z0 5 = true ∧ pI P z0 0 = nI nu ∧ pI P z0 1 = nI l ∧ pI P z0 3 = nI (smk acc 0) ∧ pI P z0 4 = nI (smk acc 1) ∧ pI P z0 5 = nI (smk acc 3) ∧ pR P z0 2 = some (z0 + 1) ∧ LSt t0 P (z0 + 1) (zbC t0 z0 acc.length) acc.length (fcC z0) ∧ pZ P = zpC z0 acc.length ∧ ∀ k cl, acc[k]? = some cl → CLa P (fcC z0 k) cl
theorem smk_app {acc : List (Nat × Nat × List Nat)} {cl : Nat × Nat × List Nat} {v : Nat} : smk (acc ++ [cl]) v = smk acc v ||| (if cl.1 = v then 2 ^ acc.length else 0) := by
  apply Nat.eq_of_testBit_eq
  intro i
  unfold smk
  rw [Nat.testBit_or, msk_t, msk_t, List.length_append, List.length_singleton]
  rcases Nat.lt_trichotomy i acc.length with c | c | c
  · rw [decide_eq_true (show i < acc.length + 1 by omega), decide_eq_true c, List.getElem?_append_left c]
    have : (if cl.1 = v then 2 ^ acc.length else 0).testBit i = false := by
      split
      · rw [Nat.testBit_two_pow]; exact decide_eq_false (by omega)
      · exact Nat.zero_testBit _
    rw [this, Bool.or_false]
  · subst c
    rw [decide_eq_true (show acc.length < acc.length + 1 by omega), decide_eq_false (Nat.lt_irrefl _), List.getElem?_append_right (Nat.le_refl _), Nat.sub_self, Bool.true_and, Bool.false_and, Bool.false_or]
    show isS v cl = _
    unfold isS
    by_cases q : cl.1 = v
    · rw [if_pos q, Nat.testBit_two_pow, decide_eq_true rfl]
      exact beq_iff_eq.mpr q
    · rw [if_neg q, Nat.zero_testBit]
      exact beq_eq_false_iff_ne.mpr q
  · rw [decide_eq_false (show ¬ i < acc.length + 1 by omega), decide_eq_false (show ¬ i < acc.length by omega)]
    have : (if cl.1 = v then 2 ^ acc.length else 0).testBit i = false := by
      split
      · rw [Nat.testBit_two_pow]; exact decide_eq_false (by omega)
      · exact Nat.zero_testBit _
    rw [this]
    rfl
theorem fas_app {acc : List (Nat × Nat × List Nat)} {cl : Nat × Nat × List Nat} (h : cl.2.1 < 10) : msk (fasB (acc ++ [cl])) 10 = msk (fasB acc) 10 ||| (if cl.1 = 2 then 2 ^ cl.2.1 else 0) ||| fsm cl.2.2 := by
  apply Nat.eq_of_testBit_eq
  intro i
  unfold fsm
  rw [Nat.testBit_or, Nat.testBit_or, msk_t, msk_t, msk_t]
  have e : fasB (acc ++ [cl]) i = (fasB acc i || ((isS 2 cl && cl.2.1 == i) || cl.2.2.contains (190 + i))) := by
    unfold fasB
    rw [List.any_append]
    congr 1
    show ((isS 2 cl && cl.2.1 == i) || cl.2.2.contains (190 + i) || false) = _
    rw [Bool.or_false]
  rw [e]
  have e2 : (if cl.1 = 2 then 2 ^ cl.2.1 else 0).testBit i = (isS 2 cl && cl.2.1 == i) := by
    unfold isS
    by_cases q : cl.1 = 2
    · rw [if_pos q, Nat.testBit_two_pow, beq_iff_eq.mpr q, Bool.true_and]
      by_cases y : cl.2.1 = i
      · rw [decide_eq_true y, beq_iff_eq.mpr y]
      · rw [decide_eq_false y, beq_eq_false_iff_ne.mpr y]
    · rw [if_neg q, Nat.zero_testBit, beq_eq_false_iff_ne.mpr q, Bool.false_and]
  rw [e2]
  rcases Nat.lt_or_ge i 10 with c | c
  · rw [decide_eq_true c, Bool.true_and, Bool.true_and, Bool.true_and, Bool.or_assoc]
  · rw [decide_eq_false (show ¬ i < 10 by omega), Bool.false_and, Bool.false_and, Bool.false_and]
    have : (cl.2.1 == i) = false := beq_eq_false_iff_ne.mpr (by omega)
    rw [this, Bool.and_false]
    rfl
theorem CLa.sam {fc : Nat} {cl : Nat × Nat × List Nat} (h : CLa P fc cl) (g : SAM t0 z0 X Y P P') (hf : fc + 1 < z0) (h1 : ¬ X fc) (h2 : ¬ X (fc + 1)) (h3 : ¬ Y fc) : CLa P' fc cl := by
  obtain ⟨a1, a2, a3, a4, a5, a6, a7⟩ := h
  refine ⟨g.kp a1, g.kp a2, by rw [g.1 _ (by omega) h1]; exact a3, by rw [g.1 _ (by omega) h1]; exact a4, by rw [g.2.1 _ (by omega) h3]; exact a5, by rw [g.2.2.2.1 _ hf]; exact a6, fun i t hi => by rw [g.1 _ hf h2]; exact a7 i t hi⟩
-- one clause more
theorem c_step {nu : Nat} {acc : List (Nat × Nat × List Nat)} (hU : RUI t0 P z0 nu l acc) (h : RDR P r b s T) (hz : CZ t0 P) (hrz : r < z0) (hbz : b < z0) (hsz : s < z0) (htz : t0.1 < z0) (hq : RB P r g p) (hp : p ≤ T.length) (hn : acc.length < 6) : ∃ P1 P', hm_X3_readClause t0 P r = some (some (pZ P), P1) ∧ kk P1 r 4 = true ∧ hm_X4_add t0 P1 z0 (pZ P) = some (0, P') ∧ kk P1 z0 5 = true ∧ SAM t0 z0 (fun a => a = r ∨ a = s) (fun _ => False) P P' ∧ RDR P' r b s T ∧ kk P' z0 5 = true ∧ match rdK T p with
    | (q, some cl) => RB P' r (g ||| (if cl.1 = 2 then 2 ^ cl.2.1 else 0) ||| fsm cl.2.2) q ∧ RUI t0 P' z0 nu l (acc ++ [cl])
    | (q, none) => q ≤ T.length ∧ pI P' r 3 = nI q ∧ pI P' r 4 = 1 := by
  obtain ⟨u1, u2, u3, u4, u5, u6, u7, u8, u9, u10⟩ := hU
  have hz0 := (kk_lt hz u1).1
  have hl1 := (kk_lt hz u8.1.1).1
  have hzP : z0 + 2 ≤ pZ P := by rw [u9]; unfold zpC; split <;> omega
  have hfcn : pZ P = fcC z0 acc.length := u9
  have hfc : ∀ k, k < acc.length → z0 + 2 ≤ fcC z0 k ∧ fcC z0 k + 1 < pZ P ∧ fcC z0 k ≠ z0 + 4 ∧ fcC z0 k + 1 ≠ z0 + 4 := fun k hk => by
    rw [u9]
    unfold fcC zpC
    rw [if_neg (show ¬ acc.length = 0 by omega)]
    split <;> omega
  obtain ⟨P1, e1, s1, i2, k2, k12, z2, hx⟩ := c_rK (t0 := t0) h hz hq hp
  have hz1 := s1.cz
  have kr1 : kk P1 r 4 = true := s1.kp h.1
  have kz1 : kk P1 z0 5 = true := s1.kp u1
  have xz0 : ¬ (z0 = r ∨ z0 = s) := by omega
  have xzl : ¬ (z0 + 1 = r ∨ z0 + 1 = s) := by omega
  have zb : zbC t0 z0 acc.length < pZ P := by
    unfold zbC
    by_cases c : acc.length = 0
    · rw [if_pos c]; omega
    · rw [if_neg c]
      have : pZ P = z0 + 3 + 2 * acc.length := by rw [u9]; unfold zpC; rw [if_neg c]
      omega
  have hls1 : LSt t0 P1 (z0 + 1) (zbC t0 z0 acc.length) acc.length (fcC z0) := u8.sam s1 hl1 zb xzl id id
  -- the list takes it
  have hadd : ∃ P2, hm_Jx4a65c_add_9ea2d t0 P1 (z0 + 1) (pZ P) = some (1, P2) ∧ AddR t0 P1 P2 (z0 + 1) (zbC t0 z0 acc.length) (z0 + 4) acc.length (pZ P) ∧ pZ P2 = zpC z0 (acc.length + 1) := by
    have hx1 : isO P1 (pZ P) = true := by unfold isO; rw [k2, Bool.or_true]
    by_cases c : acc.length = 0
    · have hb0 : zbC t0 z0 acc.length = t0.1 := by unfold zbC; rw [if_pos c]
      obtain ⟨P2, b', e, a⟩ := c_add hls1.1 hz1 hx1 (by omega) (fun _ k hk => by omega)
      have hb' : b' = pZ P1 := by
        rcases a.2.2.2.1 with z | z
        · exfalso
          rcases a.1.2.2.2.2 with y | y
          · have := (kk_lt a.2.2.2.2.2.2.2.2.2.2.1 y.1).2
            rw [z, hb0] at this
            exact this rfl
          · omega
        · exact z
      have hz4 : pZ P1 = z0 + 4 := by rw [z2, u9]; unfold zpC; rw [if_pos c]
      have hz5 := (a.2.2.2.2.2.2.2.2.2.2.2.2.2 hb').1
      rw [hb', hz4] at a
      exact ⟨P2, e, a, by rw [hz5, hz4]; unfold zpC; rw [if_neg (by omega), c]⟩
    · have hb0 : zbC t0 z0 acc.length = z0 + 4 := by unfold zbC; rw [if_neg c]
      obtain ⟨l1, l2, l3, l4, l5⟩ := hls1.1
      rw [hb0] at l2 l5
      have l6 : kk P1 (z0 + 4) 17 = true ∧ acc.length ≤ pN P1 (z0 + 4) ∧ pN P1 (z0 + 4) ≤ 64 ∧ 10 ≤ pN P1 (z0 + 4) := by
        rcases l5 with z | z
        · exact z
        · exact absurd z.2 c
      obtain ⟨P2, e, a, ez⟩ := c_addB (x := pZ P) l1 l2 l3 l6.1 (by omega) l6.2.2.1 l6.2.2.2 hz1 hx1 (by omega)
      refine ⟨P2, e, by rw [hb0]; exact a, ?_⟩
      rw [ez, z2, u9]
      unfold zpC
      rw [if_neg c, if_neg (by omega)]
      omega
  obtain ⟨P2, e2, a2, ez2⟩ := hadd
  obtain ⟨a2a, a2b, a2c, a2d, a2e, a2f, a2g, a2h, a2i, a2j, a2k, a2l, a2m, a2n⟩ := id a2
  obtain ⟨P', e3, ru⟩ := c_radd (t0 := t0) kz1 (by rw [s1.2.1 z0 hz0 id]; exact u7) hls1.1 (by omega) e2 (a2e _ _ kz1) (a2e _ _ k2)
  obtain ⟨r1, r2, r3, r4, r5, r6, r7, r8⟩ := id ru
  have hz1Z : pZ P ≤ pZ P1 := by omega
  -- the cells below the list
  have keepI : ∀ a, a ≠ z0 → a ≠ z0 + 1 → a < pZ P1 → pI P' a = pI P1 a := fun a x y w => by rw [r7 a x, a2g a y w]
  have keepR : ∀ a, a ≠ z0 + 1 → a ≠ z0 + 4 → a < pZ P1 → pR P' a = pR P1 a := fun a x y w => by
    rw [r1]
    refine a2h a x ?_ w
    unfold zbC
    by_cases c : acc.length = 0
    · right; rw [if_pos c]
    · left; rw [if_neg c]; exact y
  have hzb : z0 + 4 < z0 → False := fun w => by omega
  have czP' : CZ t0 P' := by
    unfold CZ at *
    rw [r5, r6]
    exact a2k
  have sf : SAM t0 z0 (fun a => a = r ∨ a = s) (fun _ => False) P1 P' := ⟨fun a x _ => keepI a (by omega) (by omega) (by omega), fun a x _ => keepR a (by omega) (by omega) (by omega), fun a x => by rw [r2]; exact a2i a (by omega), fun a x => by rw [r3]; exact a2j a (by omega), fun a c w => (ru.k2 a c).trans (a2e a c w), by rw [r6]; exact a2m, czP'⟩
  have s1' : SAM t0 z0 (fun a => a = r ∨ a = s) (fun _ => False) P P1 := ⟨fun a x w => s1.1 a (by omega) w, fun a x w => s1.2.1 a (by omega) w, fun a x => s1.2.2.1 a (by omega), fun a x => s1.2.2.2.1 a (by omega), s1.2.2.2.2⟩
  have sAll := s1'.tr sf
  have hI' : pI P' r = pI P1 r := keepI r (by omega) (by omega) (by omega)
  have hRD : RDR P' r b s T := by
    obtain ⟨d1, d2, d3, d4, d5, d6, d7, d8, d9, d10, d11, d12, d13⟩ := h
    refine ⟨sAll.kp d1, sAll.kp d2, sAll.kp d3, by rw [sAll.2.1 r hrz id]; exact d4, by rw [sAll.2.1 r hrz id]; exact d5, by rw [sAll.2.2.2.1 b hbz]; exact d6, by rw [sAll.2.2.2.1 s hsz]; exact d7, by rw [hI', i2]; exact d8, fun i c hc => by rw [sAll.1 b hbz (fun w => w.elim (fun y => d10 y.symm) d12)]; exact d9 i c hc, d10, d11, d12, d13⟩
  have kz' : kk P' z0 5 = true := (ru.k2 _ _).trans (a2e _ _ kz1)
  refine ⟨P1, P', e1, kr1, e3, kz1, sAll, hRD, kz', ?_⟩
  cases hr : rdK T p with
  | mk qq x =>
    rw [hr] at hx
    cases x with
    | none => exact ⟨hx.1, by rw [hI']; exact hx.2.1, by rw [hI']; exact hx.2.2⟩
    | some cl =>
      obtain ⟨x1, x2, x3, x4, x5, x6⟩ := hx
      obtain ⟨y1, y2, hcl, y4⟩ := rdK_s h.tk.1 hr hp
      have hc4 := hcl.1
      refine ⟨⟨by rw [hI']; exact x1.1, by rw [hI']; exact x1.2.1, by rw [hI']; exact x1.2.2⟩, kz', ?_, ?_, ?_, ?_, ?_, ?_, ?_, ?_, ?_⟩
      · rw [r8 0, if_neg (by omega), a2g z0 (by omega) (by omega), s1.1 z0 hz0 xz0]; exact u2
      · rw [r8 1, if_neg (by omega), a2g z0 (by omega) (by omega), s1.1 z0 hz0 xz0]; exact u3
      all_goals have hv : pI P2 (pZ P) 0 = nI cl.1 := by rw [a2g _ (by omega) (by omega)]; exact x2
      all_goals have e0 : nI cl.1 = 0 ↔ cl.1 = 0 := by rw [q0, ne_n (by omega) (by decide)]
      all_goals have e01 : nI cl.1 = 1 ↔ cl.1 = 1 := by rw [q1, ne_n (by omega) (by decide)]
      all_goals have e03 : nI cl.1 = 3 ↔ cl.1 = 3 := by rw [show (3 : Int32) = nI 3 from rfl, ne_n (by omega) (by decide)]
      · rw [r8 3, hv, a2g z0 (by omega) (by omega), s1.1 z0 hz0 xz0, u4, smk_app]
        by_cases c : cl.1 = 0
        · rw [if_pos (Or.inl ⟨rfl, e0.mpr c⟩), if_pos c, or_n]
        · rw [if_neg (fun w => by rcases w with ⟨w1, w2⟩ | ⟨w1, w2⟩ | ⟨w1, w2⟩ <;> first | omega | exact c (e0.mp w2)), if_neg c, Nat.or_zero]
      · rw [r8 4, hv, a2g z0 (by omega) (by omega), s1.1 z0 hz0 xz0, u5, smk_app]
        by_cases c : cl.1 = 1
        · rw [if_pos (Or.inr (Or.inl ⟨rfl, e01.mpr c⟩)), if_pos c, or_n]
        · rw [if_neg (fun w => by rcases w with ⟨w1, w2⟩ | ⟨w1, w2⟩ | ⟨w1, w2⟩ <;> first | omega | exact c (e01.mp w2)), if_neg c, Nat.or_zero]
      · rw [r8 5, hv, a2g z0 (by omega) (by omega), s1.1 z0 hz0 xz0, u6, smk_app]
        by_cases c : cl.1 = 3
        · rw [if_pos (Or.inr (Or.inr ⟨rfl, e03.mpr c⟩)), if_pos c, or_n]
        · rw [if_neg (fun w => by rcases w with ⟨w1, w2⟩ | ⟨w1, w2⟩ | ⟨w1, w2⟩ <;> first | omega | exact c (e03.mp w2)), if_neg c, Nat.or_zero]
      · rw [keepR z0 (by omega) (by omega) (by omega), s1.2.1 z0 hz0 id]; exact u7
      · have ezb : zbC t0 z0 (acc ++ [cl]).length = z0 + 4 := by unfold zbC; rw [List.length_append, List.length_singleton, if_neg (by omega)]
        rw [ezb, List.length_append, List.length_singleton]
        obtain ⟨b1, b2, b3, b4, b5⟩ := a2a
        refine ⟨⟨(ru.k2 _ _).trans b1, by rw [r1]; exact b2, by rw [r7 _ (by omega)]; exact b3, b4, ?_⟩, fun k hk => ?_⟩
        · rcases b5 with w | w
          · exact Or.inl ⟨(ru.k2 _ _).trans w.1, by rw [r3]; exact w.2⟩
          · exact Or.inr w
        · rw [r1]
          by_cases c : k = acc.length
          · rw [c, a2c, hfcn]
          · rw [a2b k (by omega)]
            exact hls1.2 k (by omega)
      · rw [r6, ez2, List.length_append, List.length_singleton]
      · intro k cl' hk
        by_cases c : k = acc.length
        · subst c
          rw [List.getElem?_append_right (Nat.le_refl _), Nat.sub_self] at hk
          obtain rfl : cl = cl' := Option.some.inj hk
          rw [← hfcn]
          have h41 : pZ P ≠ z0 + 4 := by
            rw [u9]; unfold zpC; split <;> omega
          refine ⟨(ru.k2 _ _).trans (a2e _ _ k2), (ru.k2 _ _).trans (a2e _ _ k12), ?_, ?_, ?_, ?_, fun i t hi => ?_⟩
          · rw [keepI _ (by omega) (by omega) (by omega)]; exact x2
          · rw [keepI _ (by omega) (by omega) (by omega)]; exact x3
          · rw [keepR _ (by omega) h41 (by omega)]; exact x4
          · rw [r3, a2j _ (by omega)]; exact x5
          · rw [keepI _ (by omega) (by omega) (by omega)]; exact x6 i t hi
        · have hl := (List.getElem?_eq_some_iff.mp hk).1
          rw [List.length_append, List.length_singleton] at hl
          have hk2 : k < acc.length := by omega
          rw [List.getElem?_append_left hk2] at hk
          obtain ⟨f1, f2, f3, f4⟩ := hfc k hk2
          have c1 := (u10 k cl' hk).sam s1 f2 (by omega) (by omega) id
          obtain ⟨g1, g2, g3, g4, g5, g6, g7⟩ := c1
          refine ⟨(ru.k2 _ _).trans (a2e _ _ g1), (ru.k2 _ _).trans (a2e _ _ g2), ?_, ?_, ?_, ?_, fun i t hi => ?_⟩
          · rw [keepI _ (by omega) (by omega) (by omega)]; exact g3
          · rw [keepI _ (by omega) (by omega) (by omega)]; exact g4
          · rw [keepR _ (by omega) f3 (by omega)]; exact g5
          · rw [r3, a2j _ (by omega)]; exact g6
          · rw [keepI _ (by omega) (by omega) (by omega)]; exact g7 i t hi
end PCR5
