section PMPL
variable {A : AA} {v : VV} {S : MS}
theorem fcs_cong {f g : Nat → Bool} {n : Nat} (h : ∀ i, i < n → f i = g i) : fcs A f n = fcs A g n := by
  induction n with
  | zero => rfl
  | succ n ih =>
    show fcs A f n ||| _ = fcs A g n ||| _
    rw [ih (fun i hi => h i (by omega)), h n (by omega)]
theorem fcs_add {f : Nat → Bool} {w : Nat} : ∀ n, fcs A (fun i => f i || decide (w = i)) n = fcs A f n ||| (if w < n then aF A w else 0)
  | 0 => by show 0 = 0 ||| (if w < 0 then aF A w else 0); simp
  | n + 1 => by
    show fcs A (fun i => f i || decide (w = i)) n ||| (if (f n || decide (w = n)) = true then aF A n else 0) = (fcs A f n ||| (if f n = true then aF A n else 0)) ||| _
    rw [fcs_add n]
    by_cases c : w = n
    · subst c
      rw [if_neg (Nat.lt_irrefl w), if_pos (Nat.lt_succ_self w), if_pos (by simp), Nat.or_zero]
      split
      · rw [Nat.or_assoc, Nat.or_self]
      · rw [Nat.or_zero]
    · have e1 : (f n || decide (w = n)) = f n := by simp [c]
      rw [e1]
      have e2 : (w < n + 1) = (w < n) := by apply propext; omega
      simp only [e2]
      rw [Nat.or_assoc, Nat.or_assoc, Nat.or_comm (if w < n then aF A w else 0)]
theorem fcs_0 : ∀ n, fcs A (0 : Nat).testBit n = 0
  | 0 => rfl
  | n + 1 => by
    show fcs A (0 : Nat).testBit n ||| (if (0 : Nat).testBit n = true then aF A n else 0) = 0
    rw [fcs_0 n, Nat.zero_testBit]
    simp
def rwl (A : AA) (s : Nat) : List Nat := (List.range (aN A)).filter fun w => s.testBit w
def rwf (A : AA) (s k : Nat) : Nat := (rwl A s).getD k 0
def vq (A : AA) (B : Nat) : VV := (aSh A ||| fcs A B.testBit (aN A), aJu A, fun p => cn (fun w => B.testBit w && (aB A w == p)) 14, fun _ => false)
def wmk (r : Nat → Nat) : Nat → Nat → Nat
  | 0, _ => 0
  | n + 1, come => wmk r n come ||| (if come.testBit n = true then 2 ^ r n else 0)
def hdP (A : AA) (l s n come k : Nat) : Bool := hrE A (vq A (wmk (rwf A s) n come)) l 0 (rwf A s k)
def plA (A : AA) (l s : Nat) (c : Int32) : Int32 := match nxF (rwl A s).length (hdP A l s (rwl A s).length) (rwl A s).length 0 with
  | none => if c = -1 then 0 else -1
  | some ds => if c = -1 then 1 else (match ix (rwl A s).length c with
    | some i => nI (rwf A s (ds.getD i 0))
    | none => -1)
def sPlan (A : AA) (a b c : Int32) : Int32 := match ix 2 b with
  | none => -1
  | some l => if c < -1 then -1 else (match ix (2 ^ aN A) a with
    | none => -2
    | some s => if s = 0 ∨ 5 < lsz s then -2 else plA A l s c)
theorem vq_0 : vq A 0 = v0 A := by
  unfold vq v0
  rw [fcs_0, Nat.or_zero]
  have : (fun p => cn (fun w => (0 : Nat).testBit w && (aB A w == p)) 14) = fun _ => 0 := by
    funext p
    have : (fun w => (0 : Nat).testBit w && (aB A w == p)) = fun _ => false := by
      funext w
      rw [Nat.zero_testBit, Bool.false_and]
    rw [this]
    rfl
  rw [this]
theorem wmk_t {r : Nat → Nat} {come i : Nat} : ∀ {n : Nat}, (wmk r n come).testBit i = true ↔ ∃ k, k < n ∧ come.testBit k = true ∧ r k = i
  | 0 => by
    show (0 : Nat).testBit i = true ↔ _
    rw [Nat.zero_testBit]
    simp
  | n + 1 => by
    show (wmk r n come ||| (if come.testBit n = true then 2 ^ r n else 0)).testBit i = true ↔ _
    rw [Nat.testBit_or, Bool.or_eq_true, wmk_t]
    constructor
    · rintro (⟨k, h1, h2, h3⟩ | h)
      · exact ⟨k, by omega, h2, h3⟩
      · by_cases q : come.testBit n = true
        · rw [if_pos q, Nat.testBit_two_pow] at h
          exact ⟨n, by omega, q, of_decide_eq_true h⟩
        · rw [if_neg q, Nat.zero_testBit] at h
          cases h
    · rintro ⟨k, h1, h2, h3⟩
      by_cases q : k = n
      · subst q
        right
        rw [if_pos h2, Nat.testBit_two_pow]
        exact decide_eq_true h3
      · left
        exact ⟨k, by omega, h2, h3⟩
theorem wmk_up {r : Nat → Nat} {n come k : Nat} (hk : k < n) : wmk r n (come ||| 2 ^ k) = wmk r n come ||| 2 ^ r k := by
  apply Nat.eq_of_testBit_eq
  intro i
  apply Bool.eq_iff_iff.mpr
  rw [wmk_t, t_or, Bool.or_eq_true, wmk_t]
  constructor
  · rintro ⟨j, h1, h2, h3⟩
    rw [t_or, Bool.or_eq_true] at h2
    rcases h2 with q | q
    · exact Or.inl ⟨j, h1, q, h3⟩
    · have : k = j := of_decide_eq_true q
      subst this
      exact Or.inr (decide_eq_true h3)
  · rintro (⟨j, h1, h2, h3⟩ | h)
    · exact ⟨j, h1, by rw [t_or, h2, Bool.true_or], h3⟩
    · exact ⟨k, hk, by rw [t_or]; simp, of_decide_eq_true h⟩
theorem rwl_mem {s w : Nat} (h : w ∈ rwl A s) : w < aN A ∧ s.testBit w = true := by
  have := List.mem_filter.mp h
  exact ⟨List.mem_range.mp this.1, this.2⟩
theorem rwf_get {s k : Nat} (hk : k < (rwl A s).length) : rwf A s k = (rwl A s)[k] := by
  unfold rwf
  rw [List.getD_eq_getElem?_getD, List.getElem?_eq_getElem hk]
  rfl
theorem rwf_lt {s k : Nat} (hk : k < (rwl A s).length) : rwf A s k < aN A := by
  rw [rwf_get hk]
  exact (rwl_mem (List.getElem_mem hk)).1
theorem rwf_mono {s i j : Nat} (hi : i < j) (hj : j < (rwl A s).length) : rwf A s i < rwf A s j := by
  have hp : (rwl A s).Pairwise (· < ·) := List.Pairwise.filter _ List.pairwise_lt_range
  rw [rwf_get hj, rwf_get (Nat.lt_trans hi hj)]
  exact List.pairwise_iff_getElem.mp hp i j (Nat.lt_trans hi hj) hj hi
theorem rwf_inj {s i j : Nat} (hi : i < (rwl A s).length) (hj : j < (rwl A s).length) (h : rwf A s i = rwf A s j) : i = j := by
  rcases Nat.lt_trichotomy i j with q | q | q
  · have := rwf_mono q hj; omega
  · exact q
  · have := rwf_mono q hi; omega
theorem wmk_no {s n come k : Nat} (hn : n = (rwl A s).length) (hk : k < n) (h : come.testBit k = false) : (wmk (rwf A s) n come).testBit (rwf A s k) = false := by
  cases q : (wmk (rwf A s) n come).testBit (rwf A s k) with
  | false => rfl
  | true =>
    obtain ⟨j, h1, h2, h3⟩ := wmk_t.mp q
    have := rwf_inj (by omega) (by omega) h3
    rw [this] at h2
    rw [h2] at h
    cases h
theorem vq_up {B w : Nat} (hw : w < aN A) (hN : aN A ≤ 14) (hB : B.testBit w = false) : vq A (B ||| 2 ^ w) = ((vq A B).1 ||| aF A w, aJu A, (fun p => if p = aB A w then (vq A B).2.2.1 p + 1 else (vq A B).2.2.1 p), fun _ => false) := by
  have e1 : (B ||| 2 ^ w).testBit = fun i => B.testBit i || decide (w = i) := by
    funext i
    exact t_or
  unfold vq
  rw [e1, fcs_add, if_pos hw, ← Nat.or_assoc]
  congr 3
  funext p
  by_cases q : p = aB A w
  · subst q
    rw [if_pos rfl]
    show cn (fun x => (B.testBit x || decide (w = x)) && (aB A x == aB A w)) 14 = cn (fun x => B.testBit x && (aB A x == aB A w)) 14 + 1
    rw [← cn_bit (f := fun x => B.testBit x && (aB A x == aB A w)) (k := w) (by omega) (by simp [hB])]
    refine cn_cong (fun i _ => ?_)
    by_cases c : w = i
    · subst c; simp [hB]
    · simp [c]
  · rw [if_neg q]
    refine cn_cong (fun i _ => ?_)
    by_cases c : w = i
    · subst c
      have : (aB A w == p) = false := by simp [Ne.symm q]
      rw [this]
      simp
    · simp [c]
theorem nz_n {n : Nat} (h : 0 < n) (h2 : n < 2 ^ 31) : nz (nI n) = true := by
  unfold nz
  exact decide_eq_true (fun z => by have := (nI_eq h2 (by decide)).mp (show nI n = nI 0 from z); omega)
theorem getD_ap {L : List Nat} {d i : Nat} (h : i < L.length) : (L ++ [d]).getD i 0 = L.getD i 0 := by
  rw [List.getD_eq_getElem?_getD, List.getD_eq_getElem?_getD, List.getElem?_append_left h]
theorem getD_last {L : List Nat} {d : Nat} : (L ++ [d]).getD L.length 0 = d := by
  rw [List.getD_eq_getElem?_getD, List.getElem?_append_right (Nat.le_refl _), Nat.sub_self]
  rfl
theorem m_iol {n : Nat} (hn : 0 < n) (hn5 : n ≤ 5) : ∀ (k v seen fuel : Nat) (S : MS), k ≤ n → v < 2 ^ 20 → seen < 2 ^ 14 → k < fuel → ∃ S', mm_isOrder_10L fuel (nI n) (nI v) (nI seen) (nI k - nI 1) S = some (nI (decide (cn (seen ||| mkl (dgs n k v)).testBit 14 = n)).toNat, S') ∧ Fm [] [31] S S' ∧ (∀ i, i < k → S'.2.1 31 i = nI ((dgs n k v).getD i 0)) ∧ ∀ i, k ≤ i → S'.2.1 31 i = S.2.1 31 i := by
  intro k
  induction k with
  | zero =>
    intro v seen fuel S hk hv hs hf
    obtain ⟨fu, rfl⟩ : ∃ fu, fuel = fu + 1 := ⟨fuel - 1, by omega⟩
    refine ⟨S, ?_, Fm.rf, fun i h => absurd h (Nat.not_lt_zero _), fun _ _ => rfl⟩
    have hc := cn_le seen.testBit 14
    show mm_isOrder_10 _ _ _ _ _ _ = some (nI (decide (cn (seen ||| 0).testBit 14 = n)).toNat, S)
    unfold mm_isOrder_10
    rw [Nat.or_zero, if_pos (show nI 0 - nI 1 < 0 by decide), m_ones S hs, bd_s]
    simp (discharger := omega) only [q0, q1, ne_n]
    exact ite_b
  | succ k ih =>
    intro v seen fuel S hk hv hs hf
    obtain ⟨fu, rfl⟩ : ∃ fu, fuel = fu + 1 := ⟨fuel - 1, by omega⟩
    have hk5 : k < 5 := by omega
    have hvn : v / n ≤ v := Nat.div_le_self _ _
    have hmn : v % n < n := Nat.mod_lt _ hn
    have hs2 : seen ||| 2 ^ (v % n) < 2 ^ 14 := Nat.or_lt_two_pow hs (Nat.pow_lt_pow_right (by decide) (by omega))
    obtain ⟨S', e, f, a1, a2⟩ := ih (v / n) (seen ||| 2 ^ (v % n)) fu (mR S 31 k (nI (v % n))) (by omega) (by omega) hs2 (by omega)
    have hd : dgs n (k + 1) v = dgs n k (v / n) ++ [v % n] := rfl
    refine ⟨S', ?_, (Fm.mR (by decide)).tr f, fun i hi => ?_, fun i hi => ?_⟩
    · show mm_isOrder_10 _ _ _ _ _ _ = _
      unfold mm_isOrder_10
      have e2 : nI (k + 1) - nI 1 = nI k := by rw [pk_sub (by omega)]; rfl
      have e3 : nI k + -1 = nI k - nI 1 := (Int32.sub_eq_add_neg _ _).symm
      have em : nI v - nI (v / n) * nI n = nI (v % n) := by
        have := pk_rem (a := v) (d := n) (by omega) hn (by omega)
        rw [← this, pk_div (by omega) hn (by omega)]
      rw [e2, if_neg (nI_pos (n := k) (by omega)), nz_n hn (by omega), ck_t, vin_n (by omega), decide_eq_true hk5, ck_t, pk_div (a := v) (by omega) hn (by omega), em, nI_clamp (n := k) (by omega), lt_t, ck_t, lt_t, ck_t, mR_s, if_pos rfl]
      rw [show (1 : Int32) <<< (nI (v % n) &&& 31) = nI (2 ^ (v % n)) from shl_n (by omega), or_n, lt_t, lt_t, e3, e]
      rw [hd, mkl_app, Nat.or_assoc, Nat.or_comm (2 ^ (v % n))]
    · rw [hd]
      by_cases c : i = k
      · rw [c, a2 k (Nat.le_refl _), mR_s, if_pos rfl]
        have := getD_last (L := dgs n k (v / n)) (d := v % n)
        rw [dgs_len] at this
        rw [this]
      · rw [a1 i (by omega), getD_ap (by rw [dgs_len]; omega)]
    · rw [a2 i (by omega), mR_s, if_neg (by omega)]
theorem dst_of {hd : Nat → Nat → Bool} : ∀ {ds : List Nat} {come : Nat}, okP hd ds come = true → dst ds come = true
  | [], _, _ => rfl
  | k :: ds, come, h => by
    have h' : ((!come.testBit k && hd come k) && okP hd ds (come ||| 2 ^ k)) = true := h
    rw [Bool.and_eq_true, Bool.and_eq_true] at h'
    show (!come.testBit k && dst ds (come ||| 2 ^ k)) = true
    rw [Bool.and_eq_true]
    exact ⟨h'.1.1, dst_of h'.2⟩
theorem m_ipl {l n s : Nat} (hl : l < 2) (hn : n = (rwl A s).length) (hn5 : n ≤ 5) : ∀ (ds : List Nat) (k fuel come : Nat) (S : MS), MV A (vq A (wmk (rwf A s) n come)) S → k + ds.length = n → ds.length < fuel → (∀ i d, ds[i]? = some d → S.2.1 31 (k + i) = nI d) → (∀ j, j < n → S.2.1 30 j = nI (rwf A s j)) → (∀ d ∈ ds, d < n) → dst ds come = true → ∃ S', mm_isPlan_6L fuel (nI n) (nI l) (nI k) S = some (nI (okP (hdP A l s n) ds come).toNat, S') ∧ Fm [24] [27, 28, 29] S S' ∧ MM A S' := by
  intro ds
  induction ds with
  | nil =>
    intro k fuel come S h hk hf h31 h30 hd hdd
    obtain ⟨fu, rfl⟩ : ∃ fu, fuel = fu + 1 := ⟨fuel - 1, by omega⟩
    rw [List.length_nil] at hk
    obtain rfl : k = n := by omega
    refine ⟨S, ?_, Fm.rf, h.2.1⟩
    show mm_isPlan_6 _ _ _ _ _ = _
    unfold mm_isPlan_6
    rw [if_pos (by rw [le_n (by omega) (by omega)]; exact Nat.le_refl _)]
    rfl
  | cons d ds ih =>
    intro k fuel come S h hk hf h31 h30 hd hdd
    obtain ⟨fu, rfl⟩ : ∃ fu, fuel = fu + 1 := ⟨fuel - 1, by omega⟩
    rw [List.length_cons] at hk hf
    have hN := wfN h.1
    have hdn := hd d List.mem_cons_self
    have hd5 : d < 5 := by omega
    have hk5 : k < 5 := by omega
    have hw := rwf_lt (A := A) (s := s) (k := d) (by omega)
    have hw14 : rwf A s d < 14 := by omega
    have e31 : S.2.1 31 k = nI d := h31 0 d rfl
    have e30 := h30 d hdn
    have hdd' : (!come.testBit d && dst ds (come ||| 2 ^ d)) = true := hdd
    rw [Bool.and_eq_true] at hdd'
    have hcd : come.testBit d = false := by
      have := hdd'.1
      cases q : come.testBit d with
      | false => rfl
      | true => rw [q] at this; cases this
    obtain ⟨S1, e1, f1⟩ := m_hrE h hw (show 0 < 4 by decide) hl
    have h1 := h.f2 f1
    have e1' : mm_isHeard S (nI (rwf A s d)) 0 (nI l) = some (nI (hdP A l s n come d).toNat, S1) := e1
    have fa : Fm [24] [27, 28, 29] S S1 := f1.wk (by decide) (by decide)
    show ∃ S', mm_isPlan_6 _ _ _ _ _ = some (nI ((!come.testBit d && hdP A l s n come d) && okP (hdP A l s n) ds (come ||| 2 ^ d)).toNat, S') ∧ _
    unfold mm_isPlan_6
    have hkn : ¬ (nI n ≤ nI k) := by rw [le_n (by omega) (by omega)]; omega
    rw [if_neg hkn, hcd]
    simp only [vin_n (show k < 2 ^ 31 by omega), nI_clamp (show k < 2 ^ 31 by omega), e31, vin_n (show d < 2 ^ 31 by omega), nI_clamp (show d < 2 ^ 31 by omega), e30, decide_eq_true hk5, decide_eq_true hd5, ck_t, lt_t, e1', bd_s, b2_z, Bool.not_false, Bool.true_and]
    cases hh : hdP A l s n come d with
    | false =>
      rw [if_pos rfl]
      exact ⟨S1, rfl, fa, h1.2.1⟩
    | true =>
      rw [if_neg (by decide), Bool.true_and]
      obtain ⟨g4, -⟩ := h1.2.1.1.2 (rwf A s d) hw14
      obtain ⟨-, g5, g6⟩ := g4 hw
      have hB := wfB h.1 hw
      have hF := wfF h.1 hw
      obtain ⟨v1, v2, v3, v4, v5, v6⟩ := h1.2.2
      obtain ⟨v5a, v5b⟩ := v5 (aB A (rwf A s d)) hB
      have hno := wmk_no hn hdn hcd
      have hup : vq A (wmk (rwf A s) n (come ||| 2 ^ d)) = _ := (congrArg (vq A) (wmk_up hdn)).trans (vq_up hw hN hno)
      have f2 : Fm [24] [27, 28, 29] S1 (mP S1 24 (nI ((vq A (wmk (rwf A s) n come)).1 ||| aF A (rwf A s d)))) := Fm.mP (by decide)
      have f3 : Fm [24] [27, 28, 29] (mP S1 24 (nI ((vq A (wmk (rwf A s) n come)).1 ||| aF A (rwf A s d)))) (mR (mP S1 24 (nI ((vq A (wmk (rwf A s) n come)).1 ||| aF A (rwf A s d)))) 27 (aB A (rwf A s d)) (nI ((vq A (wmk (rwf A s) n come)).2.2.1 (aB A (rwf A s d)) + 1))) := Fm.mR (by decide)
      have fb := fa.tr (f2.tr f3)
      have hcl : ∀ p, (vq A (wmk (rwf A s) n come)).2.2.1 p ≤ 14 := fun p => cn_le _ 14
      have hm : MV A (vq A (wmk (rwf A s) n (come ||| 2 ^ d))) (mR (mP S1 24 (nI ((vq A (wmk (rwf A s) n come)).1 ||| aF A (rwf A s d)))) 27 (aB A (rwf A s d)) (nI ((vq A (wmk (rwf A s) n come)).2.2.1 (aB A (rwf A s d)) + 1))) := by
        refine ⟨h.1, h1.2.1.fm ((f2.tr f3).wk (by decide) (by decide)), ?_⟩
        rw [hup]
        refine ⟨?_, ?_, or1024 v3 hF, v4, fun p hp => ?_, fun w hw => ?_⟩
        · rw [mR_i, mP_s]
        · rw [mR_i, mP_n (by decide)]; exact v2
        · rw [mR_s]
          have := hcl p
          by_cases q : p = aB A (rwf A s d)
          · simp only [if_pos q]
            rw [q] at this ⊢
            exact ⟨rfl, by omega⟩
          · simp only [if_neg q]
            rw [mP_r]
            exact ⟨(v5 p hp).1, by omega⟩
        · rw [mR_i, mP_n (by decide)]; exact v6 w hw
      obtain ⟨S2, e2, f4, g2⟩ := ih (k + 1) fu (come ||| 2 ^ d) _ hm (by omega) (by omega) (fun i x hx => by
        rw [fb.2.1 31 (by decide), Nat.add_assoc, Nat.add_comm 1 i]
        exact h31 (i + 1) x hx) (fun j hj => by rw [fb.2.1 30 (by decide)]; exact h30 j hj) (fun x hx => hd x (List.mem_cons_of_mem _ hx)) hdd'.2
      refine ⟨S2, ?_, fb.tr f4, g2⟩
      rw [← e2]
      have hB31 : aB A (rwf A s d) < 2 ^ 31 := by omega
      have hw31 : rwf A s d < 2 ^ 31 := by omega
      simp only [vin_n hw31, nI_clamp hw31, decide_eq_true hw14, ck_t, v1, g6, or_n, mP_r, g5, vin_n hB31, nI_clamp hB31, decide_eq_true hB, v5a, q1, nI_add]
theorem okP_dst {l s n v : Nat} (hn : 0 < n) (hn5 : n ≤ 5) : (decide (cn (0 ||| mkl (dgs n n v)).testBit 14 = n)) = dst (dgs n n v) 0 := by
  have := dst_cn (ds := dgs n n v) (come := 0) (fun d hd => by have := dgs_lt hn d hd; omega)
  have h0 : cn (0 : Nat).testBit 14 = 0 := by decide
  rw [h0, dgs_len, Nat.zero_add] at this
  cases q : dst (dgs n n v) 0 with
  | true => exact decide_eq_true (this.2.mp q)
  | false =>
    apply decide_eq_false
    intro z
    rw [this.2.mpr z] at q
    cases q
theorem m_isP {l n s : Nat} (h : WF A) (g : MM A S) (hl : l < 2) (hn : n = (rwl A s).length) (hn5 : n ≤ 5) {ds : List Nat} (hds : ds.length = n) (h31 : ∀ i d, ds[i]? = some d → S.2.1 31 i = nI d) (h30 : ∀ j, j < n → S.2.1 30 j = nI (rwf A s j)) (hd : ∀ d ∈ ds, d < n) (hdd : dst ds 0 = true) : ∃ S', mm_isPlan S (nI n) (nI l) = some (nI (okP (hdP A l s n) ds 0).toNat, S') ∧ MM A S' ∧ S'.2.1 30 = S.2.1 30 ∧ S'.2.1 31 = S.2.1 31 := by
  obtain ⟨S0, x, e0, f0, v0'⟩ := m_asIs h g
  have hw0 : wmk (rwf A s) n 0 = 0 := by
    rw [eq0_of]
    intro i
    cases q : (wmk (rwf A s) n 0).testBit i with
    | false => rfl
    | true =>
      obtain ⟨k, -, h2, -⟩ := wmk_t.mp q
      rw [Nat.zero_testBit] at h2
      cases h2
  obtain ⟨S1, e1, f1, g1⟩ := m_ipl (A := A) (s := s) hl hn hn5 ds 0 4000 0 S0 (by rw [hw0, vq_0]; exact v0') (by omega) (by omega) (fun i d q => by rw [f0.2.1 31 (by decide), Nat.zero_add]; exact h31 i d q) (fun j hj => by rw [f0.2.1 30 (by decide)]; exact h30 j hj) hd hdd
  refine ⟨S1, ?_, g1, by rw [f1.2.1 30 (by decide), f0.2.1 30 (by decide)], by rw [f1.2.1 31 (by decide), f0.2.1 31 (by decide)]⟩
  unfold mm_isPlan
  rw [e0, bd_s, lt_t]
  exact e1
end PMPL
