-- the class: orders
section PCPL
variable {t0 : TS} {ad : DD} {A : AA} {P : PS} {s l n : Nat}
-- words at places
theorem c_wapl {p : Nat} (hs : s < 2 ^ 14) (hp : p < 2 ^ 30) (P : PS) : ∀ (m i seen fuel : Nat), i + m = 14 → m < fuel → seen ≤ p → hm_X8_wordAtPlace_4L fuel (nI s) (nI p) (nI seen) (nI i) P = some (oI (((List.range' i m).filter fun w => s.testBit w)[p - seen]?), P) := by
  intro m
  induction m with
  | zero =>
    intro i seen fuel hi hf hq
    obtain ⟨fu, rfl⟩ : ∃ fu, fuel = fu + 1 := ⟨fuel - 1, by omega⟩
    show hm_X8_wordAtPlace_4 _ _ _ _ _ _ = _
    unfold hm_X8_wordAtPlace_4
    rw [if_pos (by rw [q14, le_n (by decide) (by omega)]; omega)]
    rfl
  | succ m ih =>
    intro i seen fuel hi hf hq
    obtain ⟨fu, rfl⟩ : ∃ fu, fuel = fu + 1 := ⟨fuel - 1, by omega⟩
    have hle : ¬ (14 : Int32) ≤ nI i := by rw [q14, le_n (by decide) (by omega)]; omega
    have e1 : nI i + (1 : Int32) = nI (i + 1) := by rw [q1, nI_add]
    have e2 : nI seen + (1 : Int32) = nI (seen + 1) := by rw [q1, nI_add]
    have eh := c_has P (a := s) (k := i) (by omega) (by omega)
    show hm_X8_wordAtPlace_4 _ _ _ _ _ _ = _
    unfold hm_X8_wordAtPlace_4 hm_X8_wordAtPlace_28
    simp only [ck_t, nn_s, bd_s, lt_t, if_neg hle, eh, e1, e2]
    rw [List.range'_succ, List.filter_cons]
    cases q : s.testBit i with
    | false =>
      rw [if_pos (show nI false.toNat = 0 from rfl), if_neg (by decide)]
      exact ih (i + 1) seen fu (by omega) (by omega) hq
    | true =>
      rw [if_neg (show ¬ nI true.toNat = 0 by decide), if_pos rfl]
      by_cases c : seen = p
      · subst c
        rw [if_pos rfl, Nat.sub_self]
        rfl
      · rw [if_neg (by rw [ne_n (by omega) (by omega)]; exact c), ih (i + 1) (seen + 1) fu (by omega) (by omega) (by omega)]
        rw [show p - seen = (p - (seen + 1)) + 1 by omega, List.getElem?_cons_succ]
theorem rwl14 (hN : aN A ≤ 14) (hs : s < 2 ^ aN A) : (List.range' 0 14).filter (fun w => s.testBit w) = rwl A s := by
  have e : List.range' 0 14 = List.range' 0 (aN A) ++ List.range' (aN A) (14 - aN A) := by
    have := List.range'_append (s := 0) (m := aN A) (n := 14 - aN A) (step := 1)
    rw [Nat.one_mul, Nat.zero_add, show aN A + (14 - aN A) = 14 by omega] at this
    exact this.symm
  unfold rwl
  rw [e, List.filter_append, List.range_eq_range']
  have : (List.range' (aN A) (14 - aN A)).filter (fun w => s.testBit w) = [] := by
    rw [List.filter_eq_nil_iff]
    intro w hw z
    have h1 := (List.mem_range'_1.mp hw).1
    have := of_lt hs z
    omega
  rw [this, List.append_nil]
theorem c_wap (hN : aN A ≤ 14) (hs : s < 2 ^ aN A) {p : Nat} (hp : p < 2 ^ 30) (P : PS) : hm_X8_wordAtPlace P (nI s) (nI p) = some (oI ((rwl A s)[p]?), P) := by
  unfold hm_X8_wordAtPlace
  have := c_wapl (pw14 hN hs) hp P 14 0 0 4000 rfl (by decide) (Nat.zero_le _)
  rw [rwl14 hN hs, Nat.sub_zero] at this
  exact this
theorem rw_some {k : Nat} (hk : k < (rwl A s).length) : (rwl A s)[k]? = some (rwf A s k) := by
  rw [List.getElem?_eq_getElem hk, rwf_get hk]
theorem wmk_min {r : Nat → Nat} {come k : Nat} (h : n ≤ k) : wmk r (min (k + 1) n) come = wmk r (min k n) come := by
  rw [Nat.min_eq_right h, Nat.min_eq_right (by omega)]
theorem c_wapsl (hN : aN A ≤ 14) (hs : s < 2 ^ aN A) (hn : n = (rwl A s).length) {come : Nat} (hc : come < 32) (P : PS) : ∀ (m k fuel : Nat), k + m = 5 → m < fuel → hm_X8_wordsAtPlaces_4L fuel (nI s) (nI come) (nI (wmk (rwf A s) (min k n) come)) (nI k) P = some (nI (wmk (rwf A s) (min 5 n) come), P) := by
  intro m
  induction m with
  | zero =>
    intro k fuel hk hf
    obtain ⟨fu, rfl⟩ : ∃ fu, fuel = fu + 1 := ⟨fuel - 1, by omega⟩
    obtain rfl : k = 5 := by omega
    rfl
  | succ m ih =>
    intro k fuel hk hf
    obtain ⟨fu, rfl⟩ : ∃ fu, fuel = fu + 1 := ⟨fuel - 1, by omega⟩
    have hle : ¬ (5 : Int32) ≤ nI k := by rw [q5, le_n (by decide) (by omega)]; omega
    have e1 : nI k + (1 : Int32) = nI (k + 1) := by rw [q1, nI_add]
    have eh := c_has P (a := come) (k := k) (by omega) (by omega)
    have i1 := ih (k + 1) fu (by omega) (by omega)
    have ew := c_wap hN hs (p := k) (by omega) P
    show hm_X8_wordsAtPlaces_4 _ _ _ _ _ _ = _
    unfold hm_X8_wordsAtPlaces_4 hm_X8_wordsAtPlaces_36
    simp only [ck_t, nn_s, bd_s, lt_t, if_neg hle, ew, eh, e1]
    by_cases c : k < n
    · rw [rw_some (hn ▸ c)]
      have hr := rwf_lt (A := A) (s := s) (k := k) (hn ▸ c)
      show (if nI (rwf A s k) < 0 then _ else _) = _
      rw [if_neg (nI_pos (n := rwf A s k) (by omega))]
      have em : wmk (rwf A s) (min (k + 1) n) come = wmk (rwf A s) (min k n) come ||| (if come.testBit k = true then 2 ^ rwf A s k else 0) := by
        rw [Nat.min_eq_left (show k + 1 ≤ n by omega), Nat.min_eq_left (show k ≤ n by omega)]
        rfl
      rw [em] at i1
      have e9 : (1 : Int32) <<< (nI (rwf A s k) &&& 31) = nI (2 ^ rwf A s k) := shl_n (by omega)
      show (if nI (come.testBit k).toNat = 0 then _ else hm_X8_wordsAtPlaces_4L fu (nI s) (nI come) (nI (wmk (rwf A s) (min k n) come) ||| ((1 : Int32) <<< (nI (rwf A s k) &&& 31))) (nI (k + 1)) P) = _
      rw [e9, or_n]
      cases q : come.testBit k with
      | false =>
        rw [q, if_neg (by decide), Nat.or_zero] at i1
        rw [if_pos (show nI false.toNat = 0 from rfl)]
        exact i1
      | true =>
        rw [q, if_pos rfl] at i1
        rw [if_neg (show ¬ nI true.toNat = 0 by decide)]
        exact i1
    · rw [List.getElem?_eq_none (show (rwl A s).length ≤ k by omega)]
      rw [wmk_min (by omega)] at i1
      exact i1
theorem c_waps (hN : aN A ≤ 14) (hs : s < 2 ^ aN A) (hn : n = (rwl A s).length) (hn5 : n ≤ 5) {come : Nat} (hc : come < 32) (P : PS) : hm_X8_wordsAtPlaces P (nI s) (nI come) = some (nI (wmk (rwf A s) n come), P) := by
  have := c_wapsl hN hs hn hc P 5 0 4000 rfl (by decide)
  rw [Nat.min_eq_right hn5] at this
  unfold hm_X8_wordsAtPlaces
  exact this
-- the table
def hdo (n : Nat) (hd : Nat → Nat → Bool) (come : Nat) : Option Nat := (nxF n hd (n - cn come.testBit n) come).bind List.head?
theorem fst_find {c : Nat → Bool} {g : Nat → Option (List Nat)} : ∀ n, (fst_ (fun k => if c k = true then (g k).map (k :: ·) else none) n).bind List.head? = (List.range n).find? (fun k => c k && (g k).isSome)
  | 0 => rfl
  | n + 1 => by
    have ih := fst_find (c := c) (g := g) n
    rw [List.range_succ, List.find?_append, ← ih]
    show ((fst_ _ n).or (if c n = true then (g n).map (n :: ·) else none)).bind List.head? = _
    have hx : ∀ z, fst_ (fun k => if c k = true then (g k).map (k :: ·) else none) n = some z → z.head? ≠ none := by
      intro z hz
      obtain ⟨k, -, hk, -⟩ := fst_s hz
      by_cases q : c k = true
      · rw [if_pos q] at hk
        cases q2 : g k with
        | none => rw [q2] at hk; cases hk
        | some y => rw [q2] at hk; rw [← Option.some.inj hk]; simp
      · rw [if_neg q] at hk
        cases hk
    cases q : fst_ (fun k => if c k = true then (g k).map (k :: ·) else none) n with
    | some z =>
      show z.head? = Option.or z.head? _
      cases q2 : z.head? with
      | none => exact absurd q2 (hx z q)
      | some y => rfl
    | none =>
      show Option.bind (if c n = true then (g n).map (n :: ·) else none) List.head? = Option.or none _
      rw [Option.none_or, List.find?_cons]
      cases c n with
      | false => rfl
      | true =>
        rw [if_pos rfl, Bool.true_and]
        cases g n with
        | none => rfl
        | some y => rfl
theorem hdo_n {hd : Nat → Nat → Bool} {come j : Nat} (h : n - cn come.testBit n = j + 1) : hdo n hd come = (List.range n).find? (fun k => (!come.testBit k && hd come k) && (nxF n hd j (come ||| 2 ^ k)).isSome) := by
  unfold hdo
  rw [h]
  exact fst_find n
theorem nx_hd {hd : Nat → Nat → Bool} {come j : Nat} : (nxF n hd (j + 1) come).isSome = ((nxF n hd (j + 1) come).bind List.head?).isSome := by
  cases q : nxF n hd (j + 1) come with
  | none => rfl
  | some z =>
    obtain ⟨k, -, hk, -⟩ := fst_s (show fst_ _ n = some z from q)
    by_cases q3 : (!come.testBit k && hd come k) = true
    · rw [if_pos q3] at hk
      cases q2 : nxF n hd j (come ||| 2 ^ k) with
      | none => rw [q2] at hk; cases hk
      | some y => rw [q2] at hk; rw [← Option.some.inj hk]; rfl
    · rw [if_neg q3] at hk
      cases hk
def onF (n : Nat) (hd : Nat → Nat → Bool) (come : Nat) : Bool := (nxF n hd (n - cn come.testBit n) come).isSome
theorem cn_true : ∀ m, cn (fun _ => true) m = m
  | 0 => rfl
  | m + 1 => by show cn (fun _ => true) m + 1 = _; rw [cn_true m]
theorem cn_all : cn (2 ^ n - 1).testBit n = n := by
  have : cn (2 ^ n - 1).testBit n = cn (fun _ => true) n := cn_cong (fun i hi => by rw [Nat.testBit_two_pow_sub_one]; exact decide_eq_true hi)
  rw [this, cn_true]
theorem cn_zer : ∀ m, cn (0 : Nat).testBit m = 0
  | 0 => rfl
  | m + 1 => by show cn (0 : Nat).testBit m + ((0 : Nat).testBit m).toNat = 0; rw [cn_zer m, Nat.zero_testBit]; rfl
theorem onF_all {hd : Nat → Nat → Bool} : onF n hd (2 ^ n - 1) = true := by
  unfold onF
  rw [cn_all, Nat.sub_self]
  rfl
theorem cnlt2 {come : Nat} (h : come < 2 ^ n - 1) : cn come.testBit n < n := by
  have h1 := cn_le come.testBit n
  rcases Nat.lt_or_ge (cn come.testBit n) n with c | c
  · exact c
  · exfalso
    have hall : ∀ m, m ≤ n → cn come.testBit m = m := by
      intro m hm
      obtain ⟨d, rfl⟩ : ∃ d, n = m + d := ⟨n - m, by omega⟩
      have h2 : cn come.testBit (m + d) ≤ cn come.testBit m + d := by
        clear h1 c hm h
        induction d with
        | zero => exact Nat.le_refl _
        | succ d ih =>
          show cn come.testBit (m + d) + (come.testBit (m + d)).toNat ≤ _
          have := Bool.toNat_le (come.testBit (m + d))
          omega
      have := cn_le come.testBit m
      omega
    have hb : ∀ i, i < n → come.testBit i = true := by
      intro i hi
      have h3 := hall i (by omega)
      have h4 : cn come.testBit i + (come.testBit i).toNat = i + 1 := hall (i + 1) (by omega)
      cases q : come.testBit i with
      | true => rfl
      | false => rw [q] at h4; simp at h4; omega
    have : come = 2 ^ n - 1 := by
      apply Nat.eq_of_testBit_eq
      intro i
      rw [Nat.testBit_two_pow_sub_one]
      rcases Nat.lt_or_ge i n with z | z
      · rw [hb i z, decide_eq_true z]
      · rw [decide_eq_false (by omega)]
        cases q : come.testBit i with
        | false => rfl
        | true => have := of_lt (show come < 2 ^ n by omega) q; omega
    omega
theorem onF_hd {hd : Nat → Nat → Bool} {come : Nat} (h : come < 2 ^ n - 1) : onF n hd come = (hdo n hd come).isSome := by
  have := cnlt2 h
  unfold onF hdo
  rw [show n - cn come.testBit n = (n - cn come.testBit n - 1) + 1 by omega]
  exact nx_hd
theorem or_lt2 {come k : Nat} (hc : come < 2 ^ n) (hk : k < n) : come ||| 2 ^ k < 2 ^ n := Nat.or_lt_two_pow hc (Nat.pow_lt_pow_right (by decide) hk)
theorem or_gt {come k : Nat} (h : come.testBit k = false) : come < come ||| 2 ^ k := by
  have h1 : come ≤ come ||| 2 ^ k := Nat.left_le_or
  have h2 : come ≠ come ||| 2 ^ k := fun z => by
    have : (come ||| 2 ^ k).testBit k = true := by rw [t_or]; simp
    rw [← z, h] at this
    cases this
  omega
theorem hdo_lt {hd : Nat → Nat → Bool} {come k : Nat} (h : come < 2 ^ n - 1) (hk : hdo n hd come = some k) : k < n := by
  have := cnlt2 h
  rw [hdo_n (j := n - cn come.testBit n - 1) (by omega)] at hk
  exact List.mem_range.mp (List.mem_of_find?_eq_some hk)
-- the row next
def NXR (ad : DD) (P : PS) (n : Nat) (hd : Nat → Nat → Bool) (lo : Nat) : Prop := ∀ c, lo ≤ c → c < 2 ^ n - 1 → pI P (ad 10) c = oI (hdo n hd c)
theorem c_oo (h : CC t0 ad A P) {hd : Nat → Nat → Bool} (hn5 : n ≤ 5) {c : Nat} (hc : c < 2 ^ n) (hr : c < 2 ^ n - 1 → pI P (ad 10) c = oI (hdo n hd c)) : hm_X8_ordersOn P (ad 0) (nI c) (nI (2 ^ n - 1)) = some (nI (onF n hd c).toNat, P) := by
  have hp5 : 2 ^ n ≤ 32 := Nat.pow_le_pow_right (n := 2) (j := 5) (by decide) hn5
  have f9 := h.r.2.2.2.2.2.2.2.2.2
  have n10 := h.1.2.2.2.2.2.2.2.2.1
  unfold hm_X8_ordersOn hm_X8_ordersOn_27 hm_X8_ordersOn_31
  by_cases q : c = 2 ^ n - 1
  · rw [if_pos (by rw [q]), q, onF_all]
    rfl
  · have hlt : c < 2 ^ n - 1 := by omega
    have hne : ¬ nI c = nI (2 ^ n - 1) := by rw [ne_n (by omega) (by omega)]; exact q
    have hneg : ¬ nI c < 0 := nI_pos (n := c) (by omega)
    have hle : ¬ nI 32 ≤ nI c := by rw [le_n (by decide) (by omega)]; omega
    rw [if_neg hne, if_neg hneg, h.k0, ck_t, f9, nn_s, h.k10, ck_t, n10, if_neg hle, nn_s, h.k10, ck_t, vin_n (by omega), n10, decide_eq_true (show c < 32 by omega), ck_t, nI_clamp (by omega), hr hlt, onF_hd hlt]
    have hx : (oI (hdo n hd c) < 0) = ((hdo n hd c).isSome = false) := oI_lt (fun k hk => by have := hdo_lt hlt hk; omega)
    simp only [hx]
    cases (hdo n hd c).isSome <;> rfl
theorem CC.fX (h : CC t0 ad A P) {c : Nat} {v : Int32} : CC t0 ad A (pIu P (ad 10) c v) := h.f6 (h.fI (lv_i (by decide)) (Or.inr (Or.inl rfl)))
theorem c_fol6 (hW : WF A) {x2 x9 : Int32} (hs : s < 2 ^ aN A) (hn : n = (rwl A s).length) (hn5 : n ≤ 5) {hd : Nat → Nat → Bool} {come j hm : Nat} (hc : come < 2 ^ n - 1) (hj : n - cn come.testBit n = j + 1) (hx9 : x9 = nI hm) (hm14 : hm < 2 ^ 14) (hhd : ∀ k, k < n → come.testBit k = false → hm.testBit (rwf A s k) = hd come k) {k18 : Nat → Int32 → Int32 → Int32 → Int32 → Int32 → PS → Option (Int32 × PS)} : ∀ (k fuel : Nat) (P : PS), CC t0 ad A P → NXR ad P n hd (come + 1) → pI P (ad 10) come = oI ((List.range' k (n - k)).find? (fun k => (!come.testBit k && hd come k) && (nxF n hd j (come ||| 2 ^ k)).isSome)) → k ≤ n → k < fuel → ∃ P', hm_X8_findOrder_106L k18 fuel (ad 0) (nI s) x2 (nI n) (nI (2 ^ n - 1)) (nI come) x9 (nI k - nI 1) P = k18 (ad 0) (nI s) x2 (nI n) (nI (2 ^ n - 1)) (nI come - nI 1) P' ∧ CC t0 ad A P' ∧ NXR ad P' n hd come := by
  have hN := wfN hW
  have hp5 : 2 ^ n ≤ 32 := Nat.pow_le_pow_right (n := 2) (j := 5) (by decide) hn5
  intro k
  induction k with
  | zero =>
    intro fuel P h hx hp hk hf
    obtain ⟨fu, rfl⟩ : ∃ fu, fuel = fu + 1 := ⟨fuel - 1, by omega⟩
    refine ⟨P, ?_, h, fun c h1 h2 => ?_⟩
    · show hm_X8_findOrder_106 _ _ _ _ _ _ _ _ _ _ _ = _
      unfold hm_X8_findOrder_106
      rw [if_pos (show nI 0 - nI 1 < 0 by decide), lt_t, ← Int32.sub_eq_add_neg]
      rfl
    · by_cases q : c = come
      · subst q
        rw [hp, hdo_n hj, List.range_eq_range']
        rfl
      · exact hx c (by omega) h2
  | succ k ih =>
    intro fuel P h hx hp hk hf
    obtain ⟨fu, rfl⟩ : ∃ fu, fuel = fu + 1 := ⟨fuel - 1, by omega⟩
    have e0 : nI (k + 1) - nI 1 = nI k := by rw [pk_sub (by omega)]; rfl
    have e3 : nI k + (-1 : Int32) = nI k - nI 1 := (Int32.sub_eq_add_neg _ _).symm
    have hneg : ¬ nI k < 0 := nI_pos (n := k) (by omega)
    have eh := c_has P (a := come) (k := k) (by omega) (by omega)
    have ew := c_wap hN hs (p := k) (by omega) P
    rw [rw_some (by omega)] at ew
    have hr := rwf_lt (A := A) (s := s) (k := k) (by omega)
    have eh2 := c_has P (a := hm) (k := rwf A s k) (by omega) (by omega)
    have hrg : List.range' k (n - k) = k :: List.range' (k + 1) (n - (k + 1)) := by
      rw [show n - k = (n - (k + 1)) + 1 by omega, List.range'_succ]
    show ∃ P', hm_X8_findOrder_106 _ _ _ _ _ _ _ _ _ _ _ = _ ∧ _
    unfold hm_X8_findOrder_106 hm_X8_findOrder_139 hm_X8_findOrder_140 hm_X8_findOrder_172
    have ew' : hm_X8_wordAtPlace P (nI s) (nI k) = some (nI (rwf A s k), P) := ew
    simp only [ck_t, nn_s, bd_s, lt_t, e0, if_neg hneg, eh, ew', hx9, eh2, e3, if_true]
    have skip : ((!come.testBit k && hd come k) && (nxF n hd j (come ||| 2 ^ k)).isSome) = false → ∃ P', hm_X8_findOrder_106L k18 fu (ad 0) (nI s) x2 (nI n) (nI (2 ^ n - 1)) (nI come) (nI hm) (nI k - nI 1) P = k18 (ad 0) (nI s) x2 (nI n) (nI (2 ^ n - 1)) (nI come - nI 1) P' ∧ CC t0 ad A P' ∧ NXR ad P' n hd come := by
      intro z
      rw [← hx9]
      refine ih fu P h hx ?_ (by omega) (by omega)
      rw [hp, hrg, List.find?_cons, z]
    cases qb : come.testBit k with
    | true =>
      rw [if_neg (show ¬ nI true.toNat = 0 by decide)]
      exact skip (by rw [qb]; rfl)
    | false =>
      rw [if_pos (show nI false.toNat = 0 from rfl), hhd k (by omega) qb]
      cases qh : hd come k with
      | false =>
        rw [if_pos (show nI false.toNat = 0 from rfl)]
        exact skip (by rw [qb, qh]; rfl)
      | true =>
        rw [if_neg (show ¬ nI true.toNat = 0 by decide)]
        have e9 : (1 : Int32) <<< (nI k &&& 31) = nI (2 ^ k) := shl_n (by omega)
        have hgt := or_gt qb
        have hlt := or_lt2 (n := n) (show come < 2 ^ n by omega) (show k < n by omega)
        have eo := c_oo h (hd := hd) hn5 hlt (fun z => hx _ (by omega) z)
        have hon : onF n hd (come ||| 2 ^ k) = (nxF n hd j (come ||| 2 ^ k)).isSome := by
          unfold onF
          rw [cn_or2 (show k < n by omega) qb, show n - (cn come.testBit n + 1) = j by omega]
        rw [hon] at eo
        rw [if_neg (show ¬ (1 : Int32) = 0 by decide), e9, or_n, eo, bd_s, h.k0, ck_t]
        cases qn : (nxF n hd j (come ||| 2 ^ k)).isSome with
        | false =>
          rw [if_pos (show nI false.toNat = 0 from rfl)]
          exact skip (by rw [qb, qh, qn]; rfl)
        | true =>
          rw [if_neg (show ¬ nI true.toNat = 0 by decide)]
          have f9 := h.r.2.2.2.2.2.2.2.2.2
          have n10 := h.1.2.2.2.2.2.2.2.2.1
          rw [ck_t, f9, nn_s, h.k10, ck_t, vin_n (by omega), n10, decide_eq_true (show come < 32 by omega), ck_t, nI_clamp (by omega), ← hx9]
          refine ih fu (pIu P (ad 10) come (nI k)) h.fX (fun c h1 h2 => ?_) ?_ (by omega) (by omega)
          · rw [pIu_eq, upd, if_neg (by omega)]
            exact hx c h1 h2
          · rw [pIu_eq, upd, if_pos rfl, hrg, List.find?_cons, qb, qh, qn]
            rfl
theorem c_fo18 (hW : WF A) (hl : l < 2) (hs : s < 2 ^ aN A) (hn : n = (rwl A s).length) (hn5 : n ≤ 5) (hn0 : 0 < n) : ∀ (m fuel : Nat) (P : PS), CC t0 ad A P → NXR ad P n (hdP A l s n) m → m < 2 ^ n → m < fuel → ∃ P', hm_X8_findOrder_18L fuel (ad 0) (nI s) (nI l) (nI n) (nI (2 ^ n - 1)) (nI m - nI 1) P = some (nI (onF n (hdP A l s n) 0).toNat, P') ∧ CC t0 ad A P' ∧ NXR ad P' n (hdP A l s n) 0 := by
  have hN := wfN hW
  have hp5 : 2 ^ n ≤ 32 := Nat.pow_le_pow_right (n := 2) (j := 5) (by decide) hn5
  have hp1 : 1 ≤ 2 ^ n := Nat.two_pow_pos n
  intro m
  induction m with
  | zero =>
    intro fuel P h hx hm hf
    obtain ⟨fu, rfl⟩ : ∃ fu, fuel = fu + 1 := ⟨fuel - 1, by omega⟩
    refine ⟨P, ?_, h, hx⟩
    show hm_X8_findOrder_18 _ _ _ _ _ _ _ _ = _
    unfold hm_X8_findOrder_18 hm_X8_findOrder_184
    rw [if_pos (show nI 0 - nI 1 < 0 by decide), q0, c_oo h hn5 (by omega) (fun z => hx 0 (Nat.zero_le _) z), bd_s, h.k0, ck_t]
    cases onF n (hdP A l s n) 0 <;> rfl
  | succ m ih =>
    intro fuel P h hx hm hf
    obtain ⟨fu, rfl⟩ : ∃ fu, fuel = fu + 1 := ⟨fuel - 1, by omega⟩
    have e0 : nI (m + 1) - nI 1 = nI m := by rw [pk_sub (by omega)]; rfl
    have hneg : ¬ nI m < 0 := nI_pos (n := m) (by omega)
    have hle : ¬ nI 32 ≤ nI m := by rw [le_n (by decide) (by omega)]; omega
    have f4 := h.r.2.2.2.2.1
    have f9 := h.r.2.2.2.2.2.2.2.2.2
    have n10 := h.1.2.2.2.2.2.2.2.2.1
    have ew := c_waps hN hs hn hn5 (come := m) (by omega) P
    have hB : wmk (rwf A s) n m < 2 ^ aN A := by
      apply lt_pow
      intro i hi
      obtain ⟨k, h1, -, h3⟩ := wmk_t.mp hi
      rw [← h3]
      exact rwf_lt (by omega)
    have ef := c_fo hW h hB
    have hsh : aSh A ||| fcs A (wmk (rwf A s) n m).testBit (aN A) < 1024 := Nat.or_lt_two_pow (n := 10) (wfS hW) (fcs_lt hW _ _ (Nat.le_refl _))
    have h1 := h.sup (nI (aSh A ||| fcs A (wmk (rwf A s) n m).testBit (aN A))) (nI (aJu A)) (nI (wmk (rwf A s) n m))
    have es := c_sup h (nI (aSh A ||| fcs A (wmk (rwf A s) n m).testBit (aN A))) (nI (aJu A)) (nI (wmk (rwf A s) n m))
    have sv := c_supv h hsh (wfJ' hW) hB
    have hL : sd s (wmk (rwf A s) n m) < 2 ^ aN A := Nat.lt_of_le_of_lt (sd_le _ _) hs
    have ewp := c_wp hW h1 hL
    have ehp := c_hpc hW h1 sv hl hL
    have evq : vS A (aSh A ||| fcs A (wmk (rwf A s) n m).testBit (aN A)) (aJu A) (wmk (rwf A s) n m) = vq A (wmk (rwf A s) n m) := rfl
    rw [evq] at ehp
    obtain ⟨i0, i1, i2⟩ := h.now
    have f4' := h1.r.2.2.2.2.1
    have f9' := h1.r.2.2.2.2.2.2.2.2.2
    have n10' := h1.1.2.2.2.2.2.2.2.2.1
    have hcn := cnlt2 (n := n) (come := m) (by omega)
    have hhd : ∀ k, k < n → m.testBit k = false → (msk (fun i => (wpF A (aN A) (sd s (wmk (rwf A s) n m))).testBit i && hrd A (vq A (wmk (rwf A s) n m)) l i) (aN A)).testBit (rwf A s k) = hdP A l s n m k := by
      intro k hk hb
      have hr := rwf_lt (A := A) (s := s) (k := k) (by omega)
      have hsb : s.testBit (rwf A s k) = true := by
        rw [rwf_get (by omega)]
        exact (rwl_mem (List.getElem_mem _)).2
      have hw : (wpF A (aN A) (sd s (wmk (rwf A s) n m))).testBit (rwf A s k) = true := wpF_sup (by rw [sd_t, hsb, wmk_no hn hk hb]; rfl)
      rw [msk_t, decide_eq_true hr, hw, Bool.true_and, Bool.true_and]
      unfold hdP
      rw [hrE_0 hW (fun _ => rfl) hr]
    have h2 : CC t0 ad A (pIu (sup ad P (nI (aSh A ||| fcs A (wmk (rwf A s) n m).testBit (aN A))) (nI (aJu A)) (nI (wmk (rwf A s) n m))) (ad 10) m (-1)) := h1.fX
    have hx2 : NXR ad (pIu (sup ad P (nI (aSh A ||| fcs A (wmk (rwf A s) n m).testBit (aN A))) (nI (aJu A)) (nI (wmk (rwf A s) n m))) (ad 10) m (-1)) n (hdP A l s n) (m + 1) := by
      intro c c1 c2
      rw [pIu_eq, upd, if_neg (by omega)]
      have e610 : ad 10 ≠ ad 6 := h.ne (lv_i (by decide)) (lv_i (by decide)) (by decide)
      unfold sup
      rw [pIu_ne e610, pIu_ne e610, pIu_ne e610]
      exact hx c c1 c2
    obtain ⟨P3, e3, h3, hx3⟩ := c_fol6 (t0 := t0) (ad := ad) (x2 := nI l) hW hs hn hn5 (hd := hdP A l s n) (come := m) (j := n - cn m.testBit n - 1) (by omega) (by omega) rfl (pw14 hN (msk_lt _ _)) hhd (k18 := hm_X8_findOrder_18L fu) n 4000 _ h2 hx2 (by rw [pIu_eq, upd, if_pos rfl, Nat.sub_self]; rfl) (Nat.le_refl _) (by omega)
    obtain ⟨P4, e4, h4, hx4⟩ := ih fu P3 h3 hx3 (by omega) (by omega)
    refine ⟨P4, ?_, h4, hx4⟩
    rw [← e4, ← e3]
    show hm_X8_findOrder_18 _ _ _ _ _ _ _ _ = _
    unfold hm_X8_findOrder_18
    rw [e0]
    simp only [ck_t, nn_s, bd_s, lt_t, if_neg hneg, h.k0, f9, h.k10, n10, if_neg hle, ew, sd_n, f4, h.k5, ef, i0, i1, or_n, es, ewp, h1.k0, ehp, f9', h1.k10, n10', vin_n (show m < 2 ^ 31 by omega), decide_eq_true (show m < 32 by omega), nI_clamp (show m < 2 ^ 31 by omega), show nI n - (1 : Int32) = nI n - nI 1 from rfl]
theorem c_find (hW : WF A) (h : CC t0 ad A P) (hl : l < 2) (hs : s < 2 ^ aN A) (hn : n = (rwl A s).length) (hn5 : n ≤ 5) (hn0 : 0 < n) : ∃ P', hm_X8_findOrder P (ad 0) (nI s) (nI l) = some (nI (onF n (hdP A l s n) 0).toNat, P') ∧ CC t0 ad A P' ∧ NXR ad P' n (hdP A l s n) 0 := by
  have hN := wfN hW
  have hp5 : 2 ^ n ≤ 32 := Nat.pow_le_pow_right (n := 2) (j := 5) (by decide) hn5
  have hp1 : 1 ≤ 2 ^ n := Nat.two_pow_pos n
  have hcn : cn s.testBit 14 = n := by
    have h1 := flt_len (f := fun w => s.testBit w) (n := 14)
    rw [List.range_eq_range', rwl14 hN hs] at h1
    rw [hn, h1]
  obtain ⟨P', e, h', hx⟩ := c_fo18 (t0 := t0) (ad := ad) hW hl hs hn hn5 hn0 (2 ^ n - 1) 4000 P h (fun c h1 h2 => by omega) (by omega) (by omega)
  refine ⟨P', ?_, h', hx⟩
  have eb := c_bits P (pw14 hN hs)
  rw [hcn] at eb
  have e9 : (1 : Int32) <<< (nI n &&& 31) = nI (2 ^ n) := shl_n (by omega)
  have e8 : nI (2 ^ n) - (1 : Int32) = nI (2 ^ n - 1) := pk_sub (b := 1) (by omega)
  have e7 : nI (2 ^ n - 1) - (1 : Int32) = nI (2 ^ n - 1) - nI 1 := rfl
  unfold hm_X8_findOrder
  simp only [eb, ck_t, nn_s, bd_s, lt_t, e9, e8, e7]
  exact e
theorem nx_cons {hd : Nat → Nat → Bool} {j come d : Nat} {ds : List Nat} (h : nxF n hd (j + 1) come = some (d :: ds)) : d < n ∧ come.testBit d = false ∧ nxF n hd j (come ||| 2 ^ d) = some ds := by
  obtain ⟨k, hk, e, -⟩ := fst_s (show fst_ _ n = some (d :: ds) from h)
  by_cases q : (!come.testBit k && hd come k) = true
  · rw [if_pos q] at e
    cases q2 : nxF n hd j (come ||| 2 ^ k) with
    | none => rw [q2] at e; cases e
    | some y =>
      rw [q2] at e
      have e' := Option.some.inj e
      obtain ⟨rfl, rfl⟩ := List.cons.inj e'
      refine ⟨hk, ?_, q2⟩
      cases z : come.testBit k with
      | false => rfl
      | true => rw [z] at q; cases q
  · rw [if_neg q] at e
    cases e
theorem c_wio (hN : aN A ≤ 14) (h : CC t0 ad A P) (hs : s < 2 ^ aN A) (hn : n = (rwl A s).length) (hn5 : n ≤ 5) {hd : Nat → Nat → Bool} (hx : NXR ad P n hd 0) {i : Nat} (hi : i < n) : ∀ (m k fuel come : Nat) (x4 : Int32) (ds : List Nat), k + m = i → m + 1 < fuel → come < 2 ^ n → cn come.testBit n + ds.length = n → nxF n hd ds.length come = some ds → m < ds.length → hm_X8_wordInOrder_8L fuel (ad 0) (nI s) (nI i) (nI come) x4 (nI k) P = some (nI (rwf A s (ds.getD m 0)), P) := by
  have hp5 : 2 ^ n ≤ 32 := Nat.pow_le_pow_right (n := 2) (j := 5) (by decide) hn5
  have f9 := h.r.2.2.2.2.2.2.2.2.2
  have n10 := h.1.2.2.2.2.2.2.2.2.1
  intro m
  induction m with
  | zero =>
    intro k fuel come x4 ds hk hf hc hcn hnx hm
    obtain ⟨fu, rfl⟩ : ∃ fu, fuel = fu + 1 := ⟨fuel - 1, by omega⟩
    cases ds with
    | nil => exact absurd hm (Nat.lt_irrefl _)
    | cons d ds =>
      obtain ⟨d1, d2, d3⟩ := nx_cons (show nxF n hd (ds.length + 1) come = _ from hnx)
      have hlt : come < 2 ^ n - 1 := by
        rcases Nat.lt_or_ge come (2 ^ n - 1) with z | z
        · exact z
        · obtain rfl : come = 2 ^ n - 1 := by omega
          rw [cn_all] at hcn
          have : (d :: ds).length = ds.length + 1 := rfl
          omega
      have hv := hx come (Nat.zero_le _) hlt
      have hh : hdo n hd come = some d := by
        unfold hdo
        rw [show n - cn come.testBit n = (d :: ds).length by omega, hnx]
        rfl
      rw [hh] at hv
      have ew := c_wap hN hs (p := d) (by omega) P
      rw [rw_some (by omega)] at ew
      have e1 : nI k + (1 : Int32) = nI (k + 1) := by rw [q1, nI_add]
      obtain ⟨f2, rfl⟩ : ∃ f2, fu = f2 + 1 := ⟨fu - 1, by omega⟩
      have hneg : ¬ nI come < 0 := nI_pos (n := come) (by omega)
      have hle : ¬ nI 32 ≤ nI come := by rw [le_n (by decide) (by omega)]; omega
      have h1 : ¬ nI i < nI k := by rw [lt_n (by omega) (by omega)]; omega
      have h2 : nI i < nI (k + 1) := by rw [lt_n (by omega) (by omega)]; omega
      show hm_X8_wordInOrder_8 _ _ _ _ _ _ _ _ = _
      unfold hm_X8_wordInOrder_8
      simp only [ck_t, nn_s, bd_s, lt_t, if_neg h1, if_neg hneg, h.k0, f9, h.k10, n10, if_neg hle, vin_n (show come < 2 ^ 31 by omega), decide_eq_true (show come < 32 by omega), nI_clamp (show come < 2 ^ 31 by omega), hv, e1]
      show hm_X8_wordInOrder_8 _ _ _ _ _ _ _ _ = _
      unfold hm_X8_wordInOrder_8 hm_X8_wordInOrder_48
      rw [if_pos h2]
      have ew' : hm_X8_wordAtPlace P (nI s) (oI (some d)) = some (nI (rwf A s d), P) := ew
      rw [ew', bd_s]
      rfl
  | succ m ih =>
    intro k fuel come x4 ds hk hf hc hcn hnx hm
    obtain ⟨fu, rfl⟩ : ∃ fu, fuel = fu + 1 := ⟨fuel - 1, by omega⟩
    cases ds with
    | nil => exact absurd hm (Nat.not_lt_zero _)
    | cons d ds =>
      obtain ⟨d1, d2, d3⟩ := nx_cons (show nxF n hd (ds.length + 1) come = _ from hnx)
      have hlen : (d :: ds).length = ds.length + 1 := rfl
      have hlt : come < 2 ^ n - 1 := by
        rcases Nat.lt_or_ge come (2 ^ n - 1) with z | z
        · exact z
        · obtain rfl : come = 2 ^ n - 1 := by omega
          rw [cn_all] at hcn
          omega
      have hv := hx come (Nat.zero_le _) hlt
      have hh : hdo n hd come = some d := by
        unfold hdo
        rw [show n - cn come.testBit n = (d :: ds).length by omega, hnx]
        rfl
      rw [hh] at hv
      have e1 : nI k + (1 : Int32) = nI (k + 1) := by rw [q1, nI_add]
      have hneg : ¬ nI come < 0 := nI_pos (n := come) (by omega)
      have hle : ¬ nI 32 ≤ nI come := by rw [le_n (by decide) (by omega)]; omega
      have h1 : ¬ nI i < nI k := by rw [lt_n (by omega) (by omega)]; omega
      have e9 : (1 : Int32) <<< (nI d &&& 31) = nI (2 ^ d) := shl_n (by omega)
      have hv' : pI P (ad 10) come = nI d := hv
      show hm_X8_wordInOrder_8 _ _ _ _ _ _ _ _ = _
      unfold hm_X8_wordInOrder_8
      simp only [ck_t, nn_s, bd_s, lt_t, if_neg h1, if_neg hneg, h.k0, f9, h.k10, n10, if_neg hle, vin_n (show come < 2 ^ 31 by omega), decide_eq_true (show come < 32 by omega), nI_clamp (show come < 2 ^ 31 by omega), hv', e1, e9, or_n]
      exact ih (k + 1) fu (come ||| 2 ^ d) (nI d) ds (by omega) (by omega) (or_lt2 hc d1) (by rw [cn_or2 d1 d2]; omega) d3 (by omega)
theorem c_inall {N : Nat} (hN : N ≤ 14) (a : Int32) : (a &&& (nI (2 ^ N - 1) ^^^ (-1 : Int32)) = 0) ↔ ∃ s, s < 2 ^ N ∧ a = nI s := by
  have hp : 2 ^ N ≤ 2 ^ 14 := Nat.pow_le_pow_right (by decide) hN
  have hb : (2 : Nat) ^ 14 = 16384 := rfl
  have hlt := a.toBitVec.isLt
  have ha : nI a.toBitVec.toNat = a := by
    apply Int32.toBitVec_inj.mp
    show BitVec.ofNat 32 a.toBitVec.toNat = a.toBitVec
    apply BitVec.eq_of_toNat_eq
    show a.toBitVec.toNat % 2 ^ 32 = a.toBitVec.toNat
    exact Nat.mod_eq_of_lt hlt
  generalize a.toBitVec.toNat = m at ha hlt
  rw [← ha, sd_n]
  have hsd : sd m (2 ^ N - 1) < 2 ^ 32 := Nat.lt_of_le_of_lt (sd_le _ _) hlt
  constructor
  · intro z
    have z1 : BitVec.ofNat 32 (sd m (2 ^ N - 1)) = 0#32 := congrArg Int32.toBitVec z
    have z2 : sd m (2 ^ N - 1) % 2 ^ 32 = 0 := congrArg BitVec.toNat z1
    rw [Nat.mod_eq_of_lt hsd] at z2
    refine ⟨m, lt_pow (fun i hi => ?_), rfl⟩
    have z3 := eq0_of.mp z2 i
    rw [sd_t, hi, Bool.true_and, Nat.testBit_two_pow_sub_one] at z3
    rcases Nat.lt_or_ge i N with c | c
    · exact c
    · rw [decide_eq_false (by omega)] at z3
      cases z3
  · rintro ⟨s, hs, e⟩
    have e1 : BitVec.ofNat 32 m = BitVec.ofNat 32 s := congrArg Int32.toBitVec e
    have e2 : m % 2 ^ 32 = s % 2 ^ 32 := congrArg BitVec.toNat e1
    rw [Nat.mod_eq_of_lt hlt, Nat.mod_eq_of_lt (by omega)] at e2
    subst e2
    have : sd m (2 ^ N - 1) = 0 := eq0_of.mpr (fun i => by
      rw [sd_t, Nat.testBit_two_pow_sub_one]
      cases q : m.testBit i with
      | false => rfl
      | true => rw [decide_eq_true (of_lt hs q)]; rfl)
    rw [this]
    rfl
theorem c_bitx (P : PS) (a : Int32) : ∃ r, hm_J6_bitCount_0f7a4 P a = some (r, P) := ⟨_, rfl⟩
theorem cq_plan (hW : WF A) (h : CC t0 ad A P) (a b c : Int32) : ∃ P', hm_X8_plan P (ad 0) a b c = some (sPlan A a b c, P') ∧ CC t0 ad A P' := by
  have hN := wfN hW
  have hpw : 2 ^ aN A ≤ 2 ^ 14 := Nat.pow_le_pow_right (by decide) hN
  have hb14 : (2 : Nat) ^ 14 = 16384 := rfl
  unfold hm_X8_plan hm_X8_plan_13 hm_X8_plan_42 hm_X8_plan_88 sPlan
  rw [show (2 : Int32) = nI 2 from rfl, c_within P b (by decide), bd_s]
  cases h2 : ix 2 b with
  | none => exact ⟨P, rfl, h⟩
  | some l =>
  obtain ⟨hl, rfl⟩ := ix_s (by decide) h2
  rw [if_neg (isome_n rfl)]
  by_cases hc : c < -1
  · have : ¬ (-1 : Int32) ≤ c := by
      rw [Int32.le_iff_toInt_le]
      rw [Int32.lt_iff_toInt_lt] at hc
      omega
    rw [if_neg this]
    simp only [if_pos hc]
    exact ⟨P, rfl, h⟩
  have h1 : (-1 : Int32) ≤ c := by
    rw [Int32.le_iff_toInt_le]
    rw [Int32.lt_iff_toInt_lt] at hc
    omega
  rw [if_pos h1]
  simp only [if_neg hc]
  obtain ⟨r, er⟩ := c_bitx P a
  rw [er, bd_s]
  by_cases ca : a = 0
  · subst ca
    rw [if_pos rfl]
    have : ix (2 ^ aN A) 0 = some 0 := ix_i (j := 0) (Nat.two_pow_pos _) (by omega)
    rw [this]
    exact ⟨P, rfl, h⟩
  rw [if_neg ca, c_all hW h, bd_s, h.k0, ck_t]
  have hin := c_inall hN a
  by_cases hq : a &&& (nI (allm A) ^^^ (-1 : Int32)) = 0
  · rw [if_pos hq]
    obtain ⟨s, hs, rfl⟩ := hin.mp hq
    have hs14 := pw14 hN hs
    obtain rfl : r = nI (lsz s) := (Prod.mk.inj (Option.some.inj (er.symm.trans (c_bits P hs14)))).1
    rw [ix_i hs (by omega)]
    have s0 : s ≠ 0 := fun z => ca (by rw [z]; rfl)
    have hcl := cn_le s.testBit 14
    have hlz : lsz s = cn s.testBit 14 := rfl
    by_cases c5 : 5 < lsz s
    · rw [if_neg (show ¬ nI (lsz s) ≤ 5 by rw [q5, le_n (by omega) (by decide)]; omega)]
      simp only [if_pos (show s = 0 ∨ 5 < lsz s from Or.inr c5)]
      exact ⟨P, rfl, h⟩
    rw [if_pos (show nI (lsz s) ≤ 5 by rw [q5, le_n (by omega) (by decide)]; omega)]
    simp only [if_neg (show ¬ (s = 0 ∨ 5 < lsz s) from fun z => z.elim s0 c5)]
    have hcn : (rwl A s).length = lsz s := by
      have h1 := flt_len (f := fun w => s.testBit w) (n := 14)
      rw [List.range_eq_range', rwl14 hN hs] at h1
      exact h1
    have hn0 : 0 < (rwl A s).length := by
      rcases Nat.eq_zero_or_pos (rwl A s).length with z | z
      · exfalso
        apply s0
        rw [eq0_of]
        intro i
        cases q : s.testBit i with
        | false => rfl
        | true =>
          have := cn_0 (hcn.symm.trans z) i (of_lt hs14 q)
          rw [q] at this
          cases this
      · exact z
    obtain ⟨P', e, h', hx⟩ := c_find hW h hl hs rfl (by omega) hn0
    have hon : onF (rwl A s).length (hdP A l s (rwl A s).length) 0 = (nxF (rwl A s).length (hdP A l s (rwl A s).length) (rwl A s).length 0).isSome := by
      unfold onF
      rw [cn_zer, Nat.sub_zero]
    rw [e, bd_s, ck_t, hon]
    unfold plA
    by_cases c0 : (0 : Int32) ≤ c
    · have cm : ¬ c = -1 := fun z => by rw [z] at c0; revert c0; decide
      rw [if_pos c0]
      cases hz : nxF (rwl A s).length (hdP A l s (rwl A s).length) (rwl A s).length 0 with
      | none =>
        simp only [if_neg cm]
        exact ⟨P', rfl, h'⟩
      | some ds =>
        rw [if_neg (show ¬ nI (Option.isSome (some ds)).toNat = 0 from (show ¬ nI 1 = 0 by decide))]
        simp only [if_neg cm]
        rw [← hcn]
        cases hi : ix (rwl A s).length c with
        | none =>
          have hlc : nI (rwl A s).length ≤ c := by
            rcases ix_n hi with z | z
            · exact absurd z (by rw [Int32.lt_iff_toInt_lt]; rw [Int32.le_iff_toInt_le] at c0; omega)
            · exact z
          rw [if_pos hlc]
          exact ⟨P', rfl, h'⟩
        | some i =>
          obtain ⟨hi1, rfl⟩ := ix_s (by omega) hi
          rw [if_neg (show ¬ nI (rwl A s).length ≤ nI i by rw [le_n (by omega) (by omega)]; omega)]
          have hdl : ds.length = (rwl A s).length := by
            have : ∀ (n j come : Nat) (hd : Nat → Nat → Bool) (ds : List Nat), nxF n hd j come = some ds → ds.length = j := by
              intro n j
              induction j with
              | zero => intro come hd ds hz; rw [← Option.some.inj hz]; rfl
              | succ j ih =>
                intro come hd ds hz
                cases ds with
                | nil =>
                  obtain ⟨k, -, e, -⟩ := fst_s (show fst_ _ n = some [] from hz)
                  by_cases q : (!come.testBit k && hd come k) = true
                  · rw [if_pos q] at e
                    cases q2 : nxF n hd j (come ||| 2 ^ k) with
                    | none => rw [q2] at e; cases e
                    | some y => rw [q2] at e; cases e
                  · rw [if_neg q] at e
                    cases e
                | cons d ds => rw [List.length_cons, ih _ _ _ (nx_cons hz).2.2]
            exact this _ _ _ _ _ hz
          have ew := c_wio hN h' hs rfl (by omega) hx hi1 i 0 4000 0 (-1) ds (by omega) (by omega) (Nat.two_pow_pos _) (by rw [cn_zer]; omega) (by rw [hdl]; exact hz) (by omega)
          refine ⟨P', ?_, h'⟩
          unfold hm_X8_wordInOrder
          simp only [lt_t]
          have ew' : hm_X8_wordInOrder_8L 4000 (ad 0) (nI s) (nI i) 0 (-1) 0 P' = _ := ew
          rw [ew', bd_s, h'.k0, ck_t]
    · have cm : c = -1 := by
        apply Int32.toInt_inj.mp
        rw [Int32.le_iff_toInt_le] at c0 h1
        have : (0 : Int32).toInt = 0 := rfl
        have : (-1 : Int32).toInt = -1 := rfl
        omega
      rw [if_neg c0]
      subst cm
      cases hz : nxF (rwl A s).length (hdP A l s (rwl A s).length) (rwl A s).length 0 with
      | none => exact ⟨P', rfl, h'⟩
      | some ds => exact ⟨P', rfl, h'⟩
  · rw [if_neg hq]
    cases hi : ix (2 ^ aN A) a with
    | none => exact ⟨P, rfl, h⟩
    | some s =>
      obtain ⟨hs, e⟩ := ix_s (by omega) hi
      exact absurd (hin.mpr ⟨s, hs, e⟩) hq
end PCPL
