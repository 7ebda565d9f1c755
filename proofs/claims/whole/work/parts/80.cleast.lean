section PCL
variable {t0 : TS} {ad : DD} {A : AA} {P : PS} {e l w : Nat}
def faF (A : AA) (l : Nat) : Nat → Nat
  | 0 => 0
  | k + 1 => if aL A k = l then faF A l k ||| msk (fasB (aC A k)) 10 else faF A l k
theorem faF_lt : ∀ n, faF A l n < 1024
  | 0 => by show 0 < 1024; decide
  | n + 1 => by
    show (if _ then _ else _) < 1024
    split
    · exact or1024 (faF_lt n) (msk_lt _ 10)
    · exact faF_lt n
theorem faF_t {r f : Nat} (hl : aL A r = l) (hf : f < 10) (hb : fasB (aC A r) f = true) : ∀ n, r < n → (faF A l n).testBit f = true
  | n + 1, h => by
    show (if aL A n = l then faF A l n ||| msk (fasB (aC A n)) 10 else faF A l n).testBit f = true
    by_cases c : r = n
    · subst c
      rw [if_pos hl, Nat.testBit_or, msk_t, decide_eq_true hf, hb]
      simp
    · have := faF_t hl hf hb n (by omega)
      split
      · rw [Nat.testBit_or, this, Bool.true_or]
      · exact this
theorem c_fal (hW : WF A) (h : CC t0 ad A P) (hl : l < 2) : ∀ (n k fuel : Nat), k + n = aR A → n < fuel → hm_X8_factsAsked_4L fuel (ad 0) (nI l) (nI (faF A l k)) (nI k) P = some (nI (faF A l (aR A)), P) := by
  have hR := wfR hW
  obtain ⟨-, -, f2, -⟩ := h.r
  have ls := h.rs
  intro n
  induction n with
  | zero =>
    intro k fuel hk hf
    obtain ⟨fu, rfl⟩ : ∃ fu, fuel = fu + 1 := ⟨fuel - 1, by omega⟩
    obtain rfl : k = aR A := by omega
    have hle : nI (aR A) ≤ nI (aR A) := by rw [le_n (by omega) (by omega)]; exact Nat.le_refl _
    show hm_X8_factsAsked_4 _ _ _ _ _ _ = _
    unfold hm_X8_factsAsked_4
    simp only [ck_t, nn_s, bd_s, lt_t, h.k0, f2, ls.k, ls.sz, if_pos hle]
  | succ n ih =>
    intro k fuel hk hf
    obtain ⟨fu, rfl⟩ : ∃ fu, fuel = fu + 1 := ⟨fuel - 1, by omega⟩
    have hk' : k < aR A := (by omega); have hle : ¬ nI (aR A) ≤ nI k := by rw [le_n (by omega) (by omega)]; omega
    have ih' := ih (k + 1) fu (by omega) (by omega)
    have e1 : nI k + (1 : Int32) = nI (k + 1) := by rw [q1, nI_add]
    have hL := wfL hW hk'
    obtain ⟨-, r1, -, -, -, r6, -⟩ := h.ru hk'
    have e2 : nI (aL A k) = nI l ↔ aL A k = l := by rw [ne_n (by omega) (by omega)]
    have hs : faF A l (k + 1) = if aL A k = l then faF A l k ||| msk (fasB (aC A k)) 10 else faF A l k := rfl
    rw [hs] at ih'
    show hm_X8_factsAsked_4 _ _ _ _ _ _ = _
    unfold hm_X8_factsAsked_4 hm_X8_factsAsked_45
    simp only [ck_t, nn_s, bd_s, lt_t, h.k0, f2, ls.k, ls.sz, if_neg hle, ls.gt hk', h.kR hR hk', r1, r6, or_n, e1]
    by_cases z : aL A k = l
    · rw [if_pos z] at ih'
      rw [if_pos (e2.mpr z)]
      exact ih'
    · rw [if_neg z] at ih'
      rw [if_neg (fun y => z (e2.mp y))]
      exact ih'
theorem evl_ask (hW : WF A) {v v' : VV} (h3 : v.2.2.1 = v'.2.2.1) {w e : Nat} : ∀ {ts : List Nat} {st : List Bool} , (∀ f, f < 10 → (190 + f) ∈ ts → v.1.testBit f = v'.1.testBit f) → evl A v w e ts st = evl A v' w e ts st
  | [], _, _ => rfl
  | t :: ts, st, ha => by
    show evl A v w e ts (stp A v w e t st) = evl A v' w e ts (stp A v' w e t st)
    have ht : tst A v w e t = tst A v' w e t := by
      have h19 : t / 10 = 19 → v.1.testBit (t % 10) = v'.1.testBit (t % 10) := fun q => ha (t % 10) (Nat.mod_lt _ (by decide)) (by
        have : 190 + t % 10 = t := by omega
        rw [this]
        exact List.mem_cons_self)
      unfold tst
      rw [h3]
      split
      all_goals first
        | rfl
        | exact h19 (by assumption)
    have : stp A v w e t st = stp A v' w e t st := by
      unfold stp
      rw [ht]
    rw [this]
    exact evl_ask hW h3 (fun f hf hm => ha f hf (List.mem_cons_of_mem _ hm))
theorem kpr_ask (hW : WF A) {v v' : VV} (h2 : v.2.1 = v'.2.1) (h3 : v.2.2.1 = v'.2.2.1) (ha : ∀ r, r < aR A → aL A r = l → ∀ f, f < 10 → fasB (aC A r) f = true → v.1.testBit f = v'.1.testBit f) {w e : Nat} : kpr A v w e l = kpr A v' w e l := by
  unfold kpr
  refine find_cong (fun r hr => ?_)
  have hr' := List.mem_range.mp hr
  by_cases z : aL A r = l
  · rw [beq_iff_eq.mpr z, Bool.true_and, Bool.true_and]
    have hh : ∀ c ∈ aC A r, hc A v w e c = hc A v' w e c := by
      intro c hc'
      unfold hc hld
      rw [evl_ask hW h3 (fun f hf hm => ha r hr' z f hf (by
        unfold fasB
        rw [List.any_eq_true]
        exact ⟨c, hc', by rw [Bool.or_eq_true]; right; exact List.contains_iff_mem.mpr hm⟩))]
    unfold kps anyS lcks
    rw [h2]
    congr 1
    · congr 1
      · congr 1
        · exact any_cong (fun c hc' => by rw [hh c hc'])
        · rw [any_cong (g := fun c => isS 1 c && hc A v' w e c) (fun c hc' => by rw [hh c hc'])]
      · refine any_cong (fun c hc' => ?_)
        rw [hh c hc']
        cases q : isS 2 c with
        | false => rfl
        | true =>
          have h10 := (wfC hW hr' c hc').2.1
          rw [ha r hr' z c.2.1 h10 (by
            unfold fasB
            rw [List.any_eq_true]
            exact ⟨c, hc', by rw [q, Bool.true_and, beq_self_eq_true, Bool.true_or]⟩)]
    · congr 1
      exact any_cong (fun c hc' => by rw [hh c hc'])
  · have : (aL A r == l) = false := by simp [z]
    rw [this, Bool.false_and, Bool.false_and]
theorem hrE_ask (hW : WF A) {v v' : VV} (hv : nob v) (hv' : nob v') (hw : w < aN A) (hk : ∀ w e, kpr A v w e l = kpr A v' w e l) : hrE A v l e w = hrE A v' l e w := by
  have hrd_e : ∀ w, w < aN A → hrd A v l w = hrd A v' l w := by
    intro w
    induction w using Nat.strongRecOn with
    | ind w ih =>
      intro hw
      rw [hrd_n hW hv hw, hrd_n hW hv' hw, hk]
      congr 1
      exact all_cong (fun p hp => by have := wfP hW hw p hp; exact ih p this (by omega))
  unfold hrE
  rw [hk]
  congr 2
  exact all_cong (fun p hp => by have := wfP hW hw p hp; exact hrd_e p (by omega))
def opF (A : AA) (l : Nat) : Nat := sd (faF A l (aR A)) (aSh A)
def okC (A : AA) (l w e s : Nat) : Bool := decide (sd s (opF A l) = 0) && hrE A (vL A s) l e w
theorem lsz10 {s : Nat} (hs : s < 1024) : lsz s ≤ 10 := by
  have h1 := msk_of (a := s) (n := 10) hs
  have h2 := cn_msk (f := s.testBit) (N := 10) (by decide)
  rw [h1] at h2
  show cn s.testBit 14 ≤ 10
  rw [h2]
  exact cn_le _ 10
theorem okC_lok {s : Nat} (h : okC A l w e s = true) : lok A l w e s = true := by
  obtain ⟨h1, h2⟩ := Bool.and_eq_true_iff.mp h
  have h1' := of_decide_eq_true h1
  show (decide (s &&& aSh A = 0) && _) = true
  rw [h2, Bool.and_true]
  apply decide_eq_true
  rw [eq0_of] at h1' ⊢
  intro i
  have := h1' i
  rw [sd_t, opF, sd_t] at this
  rw [Nat.testBit_and]
  cases q1 : s.testBit i with
  | false => rfl
  | true =>
    rw [q1] at this
    cases q2 : (aSh A).testBit i with
    | false => rfl
    | true => rw [q2] at this; simp at this
theorem lok_okC (hW : WF A) (hw : w < aN A) {s : Nat} (hs : s < 1024) (h : lok A l w e s = true) : ∃ s', s' < 1024 ∧ okC A l w e s' = true ∧ (s' = s ∨ lsz s' < lsz s) := by
  obtain ⟨h1, h2⟩ := Bool.and_eq_true_iff.mp h
  have h1' : s &&& aSh A = 0 := of_decide_eq_true h1
  rw [eq0_of] at h1'
  have hlt : s &&& faF A l (aR A) < 1024 := Nat.lt_of_le_of_lt Nat.and_le_left hs
  refine ⟨s &&& faF A l (aR A), hlt, ?_, ?_⟩
  · show (decide (sd (s &&& faF A l (aR A)) (opF A l) = 0) && hrE A (vL A (s &&& faF A l (aR A))) l e w) = true
    rw [Bool.and_eq_true]
    constructor
    · apply decide_eq_true
      rw [eq0_of]
      intro i
      have := h1' i
      rw [Nat.testBit_and] at this
      rw [sd_t, Nat.testBit_and, opF, sd_t]
      cases q1 : s.testBit i with
      | false => rfl
      | true =>
        rw [q1, Bool.true_and] at this
        rw [this]
        cases (faF A l (aR A)).testBit i <;> rfl
    · rw [← h2]
      refine hrE_ask hW (fun _ => rfl) (fun _ => rfl) hw (fun w e => kpr_ask (v := vL A (s &&& faF A l (aR A))) (v' := vL A s) hW rfl rfl (fun r hr hl f hf hb => ?_))
      show (aSh A ||| (s &&& faF A l (aR A))).testBit f = (aSh A ||| s).testBit f
      rw [Nat.testBit_or, Nat.testBit_or, Nat.testBit_and, faF_t hl hf hb (aR A) hr, Bool.and_true]
  · by_cases c : s &&& faF A l (aR A) = s
    · exact Or.inl c
    · right
      have : ∃ i, (s &&& faF A l (aR A)).testBit i = false ∧ s.testBit i = true := by
        refine Classical.byContradiction fun hn => c ?_
        apply Nat.eq_of_testBit_eq
        intro i
        cases q1 : s.testBit i with
        | false => rw [Nat.testBit_and, q1, Bool.false_and]
        | true =>
          cases q2 : (s &&& faF A l (aR A)).testBit i with
          | true => rfl
          | false => exact absurd ⟨i, q2, q1⟩ hn
      obtain ⟨i, i1, i2⟩ := this
      have hi : i < 14 := by have := of_lt (n := 10) hs i2; omega
      exact cn_lt hi i1 i2 (fun j _ hj => by rw [Nat.testBit_and] at hj; exact (Bool.and_eq_true_iff.mp hj).1)
def few (A : AA) (l w e : Nat) : Nat → Nat
  | 0 => 11
  | k + 1 => if (okC A l w e k && decide (lsz k < few A l w e k)) = true then lsz k else few A l w e k
def pC (A : AA) (l w e n s : Nat) : Bool := decide (lsz s = n) && okC A l w e s
theorem few_le : ∀ k, few A l w e k ≤ 11 ∧ (∀ s, s < k → okC A l w e s = true → few A l w e k ≤ lsz s) ∧ (k ≤ 1024 → few A l w e k = 11 ∨ ∃ s, s < k ∧ okC A l w e s = true ∧ lsz s = few A l w e k)
  | 0 => ⟨Nat.le_refl _, fun s h => absurd h (Nat.not_lt_zero _), fun _ => Or.inl rfl⟩
  | k + 1 => by
    obtain ⟨h1, h2, h3⟩ := few_le k
    show (if (okC A l w e k && decide (lsz k < few A l w e k)) = true then lsz k else few A l w e k) ≤ 11 ∧ (∀ s, s < k + 1 → okC A l w e s = true → (if (okC A l w e k && decide (lsz k < few A l w e k)) = true then lsz k else few A l w e k) ≤ lsz s) ∧ (k + 1 ≤ 1024 → (if (okC A l w e k && decide (lsz k < few A l w e k)) = true then lsz k else few A l w e k) = 11 ∨ ∃ s, s < k + 1 ∧ okC A l w e s = true ∧ lsz s = (if (okC A l w e k && decide (lsz k < few A l w e k)) = true then lsz k else few A l w e k))
    by_cases c : (okC A l w e k && decide (lsz k < few A l w e k)) = true
    · rw [if_pos c]
      obtain ⟨c1, c2⟩ := Bool.and_eq_true_iff.mp c
      have c2' := of_decide_eq_true c2
      refine ⟨by omega, fun s hs ho => ?_, fun _ => Or.inr ⟨k, by omega, c1, rfl⟩⟩
      by_cases q : s = k
      · rw [q]; exact Nat.le_refl _
      · have := h2 s (by omega) ho; omega
    · rw [if_neg c]
      refine ⟨h1, fun s hs ho => ?_, fun hk => ?_⟩
      · by_cases q : s = k
        · subst q
          rw [ho, Bool.true_and] at c
          have : ¬ lsz s < few A l w e s := fun z => c (decide_eq_true z)
          omega
        · exact h2 s (by omega) ho
      · rcases h3 (by omega) with z | ⟨s, s1, s2, s3⟩
        · exact Or.inl z
        · exact Or.inr ⟨s, by omega, s2, s3⟩
theorem c_lsl (hW : WF A) (hw : w < aN A) (he : e < 4) (hl : l < 2) {q : Nat} (hq : q < 2) : ∀ (n k fuel : Nat) (P : PS), CC t0 ad A P → k + n = 1024 → n < fuel → ∃ P', hm_X8_least_62L fuel (ad 0) (nI e) (nI l) (nI q) (ad (50 + w)) (nI (opF A l)) (nI (few A l w e k)) (o5 ((List.range k).find? (pC A l w e (few A l w e k)))) (nI ((List.range k).countP (pC A l w e (few A l w e k)))) (nI k) P = some (if q = 0 then o5 ((List.range 1024).find? (pC A l w e (few A l w e 1024))) else nI ((List.range 1024).countP (pC A l w e (few A l w e 1024))), P') ∧ CC t0 ad A P' := by
  have hqz : nI q = 0 ↔ q = 0 := by rw [q0, ne_n (by omega) (by decide)]
  intro n
  induction n with
  | zero =>
    intro k fuel P h hk hf
    obtain ⟨fu, rfl⟩ : ∃ fu, fuel = fu + 1 := ⟨fuel - 1, by omega⟩
    obtain rfl : k = 1024 := by omega
    refine ⟨P, ?_, h⟩
    show hm_X8_least_62 _ _ _ _ _ _ _ _ _ _ _ _ = _
    unfold hm_X8_least_62
    rw [if_pos (show (1024 : Int32) ≤ nI 1024 by decide)]
    by_cases z : q = 0
    · rw [if_pos (hqz.mpr z), if_pos z]
    · rw [if_neg (fun y => z (hqz.mp y)), if_neg z]
  | succ n ih =>
    intro k fuel P h hk hf
    obtain ⟨fu, rfl⟩ : ∃ fu, fuel = fu + 1 := ⟨fuel - 1, by omega⟩
    have hk' : k < 1024 := by omega
    obtain ⟨-, -, -, -, f4, -⟩ := h.r
    have hle : ¬ (1024 : Int32) ≤ nI k := by rw [q1024, le_n (by omega) (by omega)]; omega
    have e1 : nI k + (1 : Int32) = nI (k + 1) := by rw [q1, nI_add]
    have hsz := lsz10 hk'
    obtain ⟨fw1, fw2, fw3⟩ := few_le (A := A) (l := l) (w := w) (e := e) k
    have eb := c_bits P (a := k) (by omega)
    have hop : opF A l < 1024 := Nat.lt_of_le_of_lt (sd_le _ _) (faF_lt _)
    have hsdl := sd_le k (opF A l)
    have hsd : nI (sd k (opF A l)) = 0 ↔ sd k (opF A l) = 0 := by rw [q0, ne_n (by omega) (by decide)]
    have hsl : nI (cn k.testBit 14) ≤ nI (few A l w e k) ↔ lsz k ≤ few A l w e k := by
      have : cn k.testBit 14 ≤ 10 := hsz
      rw [le_n (by omega) (by omega)]
      rfl
    have hor := or1024 (wfS hW) hk'
    have h' := h.sup (nI (aSh A ||| k)) (nI (aJu A)) 0
    have hsv : SVw A (sup ad P (nI (aSh A ||| k)) (nI (aJu A)) 0) (ad 6) (aSh A ||| k) (aJu A) 0 := c_supv h hor (wfJ' hW) (Nat.two_pow_pos _)
    have hh := c_isH hW h' hsv hw he hl
    rw [vS_p] at hh
    have hh' : hm_X8_isHeard (sup ad P (nI (aSh A ||| k)) (nI (aJu A)) 0) (ad 0) (ad (50 + w)) (nI e) (nI l) (ad 6) = some (nI (hrE A (vL A k) l e w).toNat, sup ad P (nI (aSh A ||| k)) (nI (aJu A)) 0) := hh
    have hskip : okC A l w e k = false ∨ few A l w e k < lsz k → ∀ P2, CC t0 ad A P2 → ∃ P', hm_X8_least_62L fu (ad 0) (nI e) (nI l) (nI q) (ad (50 + w)) (nI (opF A l)) (nI (few A l w e k)) (o5 ((List.range k).find? (pC A l w e (few A l w e k)))) (nI ((List.range k).countP (pC A l w e (few A l w e k)))) (nI (k + 1)) P2 = some (if q = 0 then o5 ((List.range 1024).find? (pC A l w e (few A l w e 1024))) else nI ((List.range 1024).countP (pC A l w e (few A l w e 1024))), P') ∧ CC t0 ad A P' := by
      intro hc P2 h2
      have hfw : few A l w e (k + 1) = few A l w e k := by
        show (if (okC A l w e k && decide (lsz k < few A l w e k)) = true then lsz k else few A l w e k) = _
        rw [if_neg]
        intro z
        obtain ⟨z1, z2⟩ := Bool.and_eq_true_iff.mp z
        have := of_decide_eq_true z2
        rcases hc with y | y
        · rw [y] at z1; cases z1
        · omega
      have hp : pC A l w e (few A l w e k) k = false := by
        unfold pC
        rcases hc with y | y
        · rw [y, Bool.and_false]
        · rw [decide_eq_false (by omega), Bool.false_and]
      obtain ⟨g1, g2⟩ := rg_f hp
      have := ih (k + 1) fu P2 h2 (by omega) (by omega)
      rw [hfw, g1, g2] at this
      exact this
    show ∃ P', hm_X8_least_62 _ _ _ _ _ _ _ _ _ _ _ _ = _ ∧ _
    unfold hm_X8_least_62 hm_X8_least_151 hm_X8_least_154
    simp only [if_neg hle, ck_t, nn_s, bd_s, lt_t, eb, sd_n, h.k0, h'.k0, f4, h.k5, h.now.1, h.now.2.1, or_n, c_sup h, hh', e1]
    by_cases c1 : sd k (opF A l) = 0
    · rw [if_pos (hsd.mpr c1)]
      by_cases c2 : lsz k ≤ few A l w e k
      · rw [if_pos (hsl.mpr c2)]
        cases hb : hrE A (vL A k) l e w with
        | false =>
          rw [if_pos (show nI false.toNat = 0 from rfl)]
          exact hskip (Or.inl (by unfold okC; rw [hb, Bool.and_false])) _ h'
        | true =>
          have hok : okC A l w e k = true := by unfold okC; rw [hb, decide_eq_true c1]; rfl
          rw [if_neg (show ¬ nI true.toNat = 0 by decide)]
          have hge : nI (few A l w e k) ≤ nI (cn k.testBit 14) ↔ few A l w e k ≤ lsz k := by
            have : cn k.testBit 14 ≤ 10 := hsz
            rw [le_n (by omega) (by omega)]
            rfl
          by_cases c3 : few A l w e k ≤ lsz k
          · rw [if_pos (hge.mpr c3)]
            have heq : lsz k = few A l w e k := by omega
            have hfw : few A l w e (k + 1) = few A l w e k := by
              show (if (okC A l w e k && decide (lsz k < few A l w e k)) = true then lsz k else few A l w e k) = _
              rw [hok, decide_eq_false (by omega)]
              rfl
            have hp : pC A l w e (few A l w e k) k = true := by
              unfold pC
              rw [hok, decide_eq_true heq]
              rfl
            obtain ⟨g1, g2⟩ := rg_t hp
            have := ih (k + 1) fu _ h' (by omega) (by omega)
            rw [hfw, g1, g2] at this
            rcases fw3 (by omega) with z | ⟨s, s1, s2, s3⟩
            · omega
            · have hfs : ((List.range k).find? (pC A l w e (few A l w e k))).isSome = true := by
                rw [List.find?_isSome]
                exact ⟨s, List.mem_range.mpr s1, by unfold pC; rw [s2, decide_eq_true s3]; rfl⟩
              obtain ⟨x, hx⟩ := Option.isSome_iff_exists.mp hfs
              rw [hx] at this ⊢
              rw [q1, nI_add]
              exact this
          · rw [if_neg (fun z => c3 (hge.mp z))]
            have hfw : few A l w e (k + 1) = lsz k := by
              show (if (okC A l w e k && decide (lsz k < few A l w e k)) = true then lsz k else few A l w e k) = _
              rw [hok, decide_eq_true (show lsz k < few A l w e k by omega)]
              rfl
            have hp : pC A l w e (lsz k) k = true := by
              unfold pC
              rw [hok, decide_eq_true rfl]
              rfl
            obtain ⟨g1, g2⟩ := rg_t hp
            have hnone : ∀ s ∈ List.range k, ¬ pC A l w e (lsz k) s = true := by
              intro s hs z
              obtain ⟨z1, z2⟩ := Bool.and_eq_true_iff.mp z
              have := fw2 s (List.mem_range.mp hs) z2
              have := of_decide_eq_true z1
              omega
            have g3 : (List.range k).find? (pC A l w e (lsz k)) = none := List.find?_eq_none.mpr hnone
            have g4 : (List.range k).countP (pC A l w e (lsz k)) = 0 := List.countP_eq_zero.mpr hnone
            have := ih (k + 1) fu _ h' (by omega) (by omega)
            rw [hfw, g1, g2, g3, g4] at this
            exact this
      · rw [if_neg (fun z => c2 (hsl.mp z))]
        exact hskip (Or.inr (by omega)) _ h
    · rw [if_neg (fun z => c1 (hsd.mp z))]
      exact hskip (Or.inl (by unfold okC; rw [decide_eq_false c1, Bool.false_and])) _ h
theorem few_lmn (hW : WF A) (hw : w < aN A) {q : Nat} : (if q = 0 then o5 ((List.range 1024).find? (pC A l w e (few A l w e 1024))) else nI ((List.range 1024).countP (pC A l w e (few A l w e 1024)))) = lsA A l w e q := by
  obtain ⟨fw1, fw2, fw3⟩ := few_le (A := A) (l := l) (w := w) (e := e) 1024
  have hmin : ∀ s, s < 1024 → lok A l w e s = true → few A l w e 1024 ≤ lsz s := by
    intro s hs ho
    obtain ⟨s', a1, a2, a3⟩ := lok_okC hW hw hs ho
    have := fw2 s' a1 a2
    rcases a3 with rfl | a3 <;> omega
  unfold lsA
  by_cases c : few A l w e 1024 = 11
  · have hno : ∀ s, s < 1024 → lok A l w e s = false := by
      intro s hs
      cases z : lok A l w e s with
      | false => rfl
      | true => have := hmin s hs z; have := lsz10 hs; omega
    have hl : lmn A l w e = none := by
      unfold lmn
      rw [List.find?_range_eq_none]
      intro i hi
      have : (List.range 1024).any (lpk A l w e i) = false := by
        rw [List.any_eq_false]
        intro s hs z
        have := hno s (List.mem_range.mp hs)
        have z2 := (Bool.and_eq_true_iff.mp z).2
        rw [this] at z2
        cases z2
      rw [this]
      rfl
    have hnone : ∀ s ∈ List.range 1024, ¬ pC A l w e (few A l w e 1024) s = true := by
      intro s hs z
      have z2 := okC_lok (Bool.and_eq_true_iff.mp z).2
      rw [hno s (List.mem_range.mp hs)] at z2
      cases z2
    rw [hl, List.find?_eq_none.mpr hnone, List.countP_eq_zero.mpr hnone]
    rfl
  · rcases fw3 (Nat.le_refl _) with z | ⟨s, s1, s2, s3⟩
    · exact absurd z c
    · have hpp : ∀ x ∈ List.range 1024, pC A l w e (few A l w e 1024) x = lpk A l w e (few A l w e 1024) x := by
        intro x hx
        have hx' := List.mem_range.mp hx
        apply Bool.eq_iff_iff.mpr
        constructor
        · intro z
          obtain ⟨z1, z2⟩ := Bool.and_eq_true_iff.mp z
          exact Bool.and_eq_true_iff.mpr ⟨z1, okC_lok z2⟩
        · intro z
          obtain ⟨z1, z2⟩ := Bool.and_eq_true_iff.mp z
          obtain ⟨x', a1, a2, a3⟩ := lok_okC hW hw hx' z2
          have b1 := fw2 x' a1 a2
          have b2 := of_decide_eq_true z1
          rcases a3 with rfl | a3
          · exact Bool.and_eq_true_iff.mpr ⟨z1, a2⟩
          · omega
      have hl : lmn A l w e = some (few A l w e 1024) := by
        unfold lmn
        rw [List.find?_range_eq_some]
        refine ⟨?_, List.mem_range.mpr (by omega), fun j hj => ?_⟩
        · rw [List.any_eq_true]
          exact ⟨s, List.mem_range.mpr s1, Bool.and_eq_true_iff.mpr ⟨decide_eq_true s3, okC_lok s2⟩⟩
        · have : (List.range 1024).any (lpk A l w e j) = false := by
            rw [List.any_eq_false]
            intro x hx z
            obtain ⟨z1, z2⟩ := Bool.and_eq_true_iff.mp z
            have := hmin x (List.mem_range.mp hx) z2
            have := of_decide_eq_true z1
            omega
          rw [this]
          rfl
      rw [hl]
      simp only
      rw [find_cong hpp, List.countP_congr (fun x hx => by rw [hpp x hx])]
theorem cq_least (hW : WF A) (h : CC t0 ad A P) (a b c d : Int32) : ∃ P', hm_X8_least P (ad 0) a b c d = some (sLeast A a b c d, P') ∧ CC t0 ad A P' := by
  have hN := wfN hW
  obtain ⟨-, -, -, -, f4, -⟩ := h.r
  unfold hm_X8_least hm_X8_least_29 sLeast
  simp only [ck_t, nn_s, bd_s, lt_t, c_wordAt hW h, h.k0, c_offer, show (2 : Int32) = nI 2 from rfl, c_within P d (show 2 < 2 ^ 31 by decide)]
  cases h1 : ix (aN A) a with
  | none => exact ⟨P, rfl, h⟩
  | some w =>
  cases h2 : ix 4 b with
  | none => exact ⟨P, rfl, h⟩
  | some e =>
  cases h3 : ix 2 c with
  | none => exact ⟨P, rfl, h⟩
  | some l =>
  cases h4 : ix 2 d with
  | none => exact ⟨P, rfl, h⟩
  | some q =>
  obtain ⟨hw, rfl⟩ := ix_s (by omega) h1
  obtain ⟨he, rfl⟩ := ix_s (by decide) h2
  obtain ⟨hl, rfl⟩ := ix_s (by decide) h3
  obtain ⟨hq, rfl⟩ := ix_s (by decide) h4
  have n1 : ¬ nI (Option.isSome (some e) && Option.isSome (some l)).toNat = 0 := by show ¬ nI 1 = 0; decide
  have n2 : ¬ nI (Option.isSome (some q)).toNat = 0 := by show ¬ nI 1 = 0; decide
  have efa : hm_X8_factsAsked P (ad 0) (nI l) = some (nI (faF A l (aR A)), P) := by
    unfold hm_X8_factsAsked
    rw [lt_t, lt_t]
    exact c_fal hW h hl (aR A) 0 4000 (by omega) (by have := wfR hW; omega)
  obtain ⟨P', e2, h'⟩ := c_lsl (t0 := t0) (ad := ad) hW hw he hl hq 1024 0 4000 P h rfl (by decide)
  rw [few_lmn hW hw] at e2
  refine ⟨P', ?_, h'⟩
  simp only [Option.map_some, nlS, if_neg n1, if_neg n2, ck_t, nn_s, bd_s, lt_t, h.k0, efa, f4, h.k5, h.now.1, sd_n]
  exact e2
end PCL
