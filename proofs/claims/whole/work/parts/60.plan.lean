-- orders: digits, masks of lists, the first order
section PPL
theorem t_or {a k i : Nat} : (a ||| 2 ^ k).testBit i = (a.testBit i || decide (k = i)) := by rw [Nat.testBit_or, Nat.testBit_two_pow]
theorem cn_bit {f : Nat → Bool} {k n : Nat} (hk : k < n) (hf : f k = false) : cn (fun i => f i || decide (k = i)) n = cn f n + 1 := cn_rm (f := f) (g := fun i => f i || decide (k = i)) hk hf (by simp) (fun i hi => by simp [Ne.symm hi])
theorem cn_or2 {a k n : Nat} (hk : k < n) (h : a.testBit k = false) : cn (a ||| 2 ^ k).testBit n = cn a.testBit n + 1 := by
  rw [← cn_bit hk h]
  exact cn_cong (fun i _ => t_or)
theorem or_bit {a k : Nat} (h : a.testBit k = true) : a ||| 2 ^ k = a := by
  apply Nat.eq_of_testBit_eq
  intro i
  rw [t_or]
  by_cases q : k = i
  · subst q; simp [h]
  · simp [q]
def mkl : List Nat → Nat
  | [] => 0
  | d :: L => 2 ^ d ||| mkl L
theorem mkl_app : ∀ {L : List Nat} {d : Nat}, mkl (L ++ [d]) = mkl L ||| 2 ^ d
  | [], d => by show 2 ^ d ||| 0 = 0 ||| 2 ^ d; rw [Nat.or_zero, Nat.zero_or]
  | e :: L, d => by show 2 ^ e ||| mkl (L ++ [d]) = (2 ^ e ||| mkl L) ||| 2 ^ d; rw [mkl_app, Nat.or_assoc]
theorem mkl_lt : ∀ {L : List Nat} {n : Nat}, (∀ d ∈ L, d < n) → mkl L < 2 ^ n
  | [], n, _ => Nat.two_pow_pos n
  | d :: L, n, h => Nat.or_lt_two_pow (Nat.pow_lt_pow_right (by decide) (h d List.mem_cons_self)) (mkl_lt fun x hx => h x (List.mem_cons_of_mem _ hx))
def dgs (n : Nat) : Nat → Nat → List Nat
  | 0, _ => []
  | j + 1, v => dgs n j (v / n) ++ [v % n]
theorem dgs_len {n : Nat} : ∀ {j v : Nat}, (dgs n j v).length = j
  | 0, _ => rfl
  | j + 1, v => by show (dgs n j (v / n) ++ [v % n]).length = _; rw [List.length_append, dgs_len]; rfl
theorem dgs_lt {n : Nat} (hn : 0 < n) : ∀ {j v : Nat}, ∀ d ∈ dgs n j v, d < n
  | 0, _, _, h => nomatch h
  | j + 1, v, d, h => by
    rcases List.mem_append.mp h with q | q
    · exact dgs_lt hn d q
    · rw [List.mem_singleton.mp q]
      exact Nat.mod_lt _ hn
theorem dgs_blk {n m x : Nat} (hn : 0 < n) : ∀ {j y : Nat}, y < n ^ j → dgs n (m + j) (x * n ^ j + y) = dgs n m x ++ dgs n j y
  | 0, y, h => by
    have : y = 0 := by rw [Nat.pow_zero] at h; omega
    subst this
    rw [Nat.pow_zero, Nat.mul_one]
    exact (List.append_nil _).symm
  | j + 1, y, h => by
    have e : x * n ^ (j + 1) + y = n * (x * n ^ j) + y := by rw [Nat.pow_succ, ← Nat.mul_assoc, Nat.mul_comm n]
    have e1 : (x * n ^ (j + 1) + y) / n = x * n ^ j + y / n := by rw [e, Nat.mul_add_div hn]
    have e2 : (x * n ^ (j + 1) + y) % n = y % n := by rw [e, Nat.mul_add_mod]
    have h2 : y / n < n ^ j := by rw [Nat.div_lt_iff_lt_mul hn, ← Nat.pow_succ]; exact h
    show dgs n (m + j) (_ / n) ++ [_ % n] = dgs n m x ++ (dgs n j (y / n) ++ [y % n])
    rw [e1, e2, dgs_blk hn h2, List.append_assoc]
def fst_ {β : Type} (f : Nat → Option β) : Nat → Option β
  | 0 => none
  | k + 1 => (fst_ f k).or (f k)
theorem fst_n {β : Type} {f : Nat → Option β} : ∀ {n : Nat}, fst_ f n = none → ∀ k, k < n → f k = none
  | n + 1, h, k, hk => by
    have h' : (fst_ f n).or (f n) = none := h
    cases q : fst_ f n with
    | some z => rw [q] at h'; cases h'
    | none =>
      rw [q] at h'
      rcases Nat.lt_or_ge k n with c | c
      · exact fst_n q k c
      · have : k = n := by omega
        rw [this]
        exact h'
theorem fst_s {β : Type} {f : Nat → Option β} {z : β} : ∀ {n : Nat}, fst_ f n = some z → ∃ k, k < n ∧ f k = some z ∧ ∀ k', k' < k → f k' = none
  | n + 1, h => by
    have h' : (fst_ f n).or (f n) = some z := h
    cases q : fst_ f n with
    | some y =>
      rw [q] at h'
      have : y = z := Option.some.inj h'
      subst this
      obtain ⟨k, a, b, c⟩ := fst_s q
      exact ⟨k, by omega, b, c⟩
    | none =>
      rw [q] at h'
      exact ⟨n, by omega, h', fun k' hk => fst_n q k' hk⟩
def nxF (n : Nat) (hd : Nat → Nat → Bool) : Nat → Nat → Option (List Nat)
  | 0, _ => some []
  | j + 1, come => fst_ (fun k => if (!come.testBit k && hd come k) = true then (nxF n hd j (come ||| 2 ^ k)).map (k :: ·) else none) n
def okP (hd : Nat → Nat → Bool) : List Nat → Nat → Bool
  | [], _ => true
  | k :: ds, come => (!come.testBit k && hd come k) && okP hd ds (come ||| 2 ^ k)
def dst : List Nat → Nat → Bool
  | [], _ => true
  | k :: ds, come => !come.testBit k && dst ds (come ||| 2 ^ k)
theorem dst_cn : ∀ {ds : List Nat} {come : Nat}, (∀ d ∈ ds, d < 14) → cn (come ||| mkl ds).testBit 14 ≤ cn come.testBit 14 + ds.length ∧ (dst ds come = true ↔ cn (come ||| mkl ds).testBit 14 = cn come.testBit 14 + ds.length)
  | [], come, _ => by
    show cn (come ||| 0).testBit 14 ≤ _ ∧ (true = true ↔ _)
    rw [Nat.or_zero]
    simp [mkl]
  | k :: ds, come, h => by
    have ih := dst_cn (ds := ds) (come := come ||| 2 ^ k) (fun x hx => h x (List.mem_cons_of_mem _ hx))
    have e : come ||| mkl (k :: ds) = (come ||| 2 ^ k) ||| mkl ds := (Nat.or_assoc _ _ _).symm
    rw [e, List.length_cons]
    show _ ∧ ((!come.testBit k && dst ds (come ||| 2 ^ k)) = true ↔ _)
    cases q : come.testBit k with
    | true =>
      rw [or_bit q] at ih ⊢
      refine ⟨by omega, ?_⟩
      simp
      omega
    | false =>
      have := cn_or2 (h k List.mem_cons_self) q
      rw [this] at ih
      refine ⟨by omega, ?_⟩
      simp only [Bool.not_false, Bool.true_and]
      rw [ih.2]
      omega
theorem okP_bad {n : Nat} {hd : Nat → Nat → Bool} {pre ds : List Nat} {come : Nat} (h : okP hd pre come = false) : okP hd (pre ++ ds) come = false := by
  induction pre generalizing come with
  | nil => cases h
  | cons k pre ih =>
    have h' : ((!come.testBit k && hd come k) && okP hd pre (come ||| 2 ^ k)) = false := h
    show ((!come.testBit k && hd come k) && okP hd (pre ++ ds) (come ||| 2 ^ k)) = false
    cases q : (!come.testBit k && hd come k) with
    | false => rfl
    | true =>
      rw [q] at h'
      exact ih h'
theorem okP_app {hd : Nat → Nat → Bool} : ∀ {pre ds : List Nat} {come : Nat}, okP hd (pre ++ ds) come = (okP hd pre come && okP hd ds (come ||| mkl pre))
  | [], ds, come => by show okP hd ds come = (true && okP hd ds (come ||| 0)); rw [Nat.or_zero, Bool.true_and]
  | k :: pre, ds, come => by
    show ((!come.testBit k && hd come k) && okP hd (pre ++ ds) (come ||| 2 ^ k)) = (((!come.testBit k && hd come k) && okP hd pre (come ||| 2 ^ k)) && okP hd ds (come ||| (2 ^ k ||| mkl pre)))
    rw [okP_app, Nat.or_assoc]
    simp only [Bool.and_assoc]
theorem nx_blk {n : Nat} {hd : Nat → Nat → Bool} (hn : 0 < n) : ∀ (j m x : Nat), m + j = n → okP hd (dgs n m x) 0 = true → match nxF n hd j (mkl (dgs n m x)) with
    | none => ∀ y, y < n ^ j → okP hd (dgs n n (x * n ^ j + y)) 0 = false
    | some ds => ds.length = j ∧ ∃ y, y < n ^ j ∧ dgs n n (x * n ^ j + y) = dgs n m x ++ ds ∧ okP hd (dgs n n (x * n ^ j + y)) 0 = true ∧ ∀ y', y' < y → okP hd (dgs n n (x * n ^ j + y')) 0 = false := by
  intro j
  induction j with
  | zero =>
    intro m x hm hv
    obtain rfl : m = n := by omega
    refine ⟨rfl, 0, by rw [Nat.pow_zero]; decide, ?_, ?_, fun y' h => absurd h (Nat.not_lt_zero _)⟩
    · rw [Nat.pow_zero, Nat.mul_one, Nat.add_zero, List.append_nil]
    · rw [Nat.pow_zero, Nat.mul_one, Nat.add_zero]
      exact hv
  | succ j ih =>
    intro m x hm hv
    have hpos : 0 < n ^ j := Nat.pow_pos hn
    have edg : ∀ k, k < n → dgs n (m + 1) (x * n + k) = dgs n m x ++ [k] := by
      intro k hk
      have := dgs_blk (m := m) (x := x) hn (j := 1) (y := k) (by rw [Nat.pow_one]; exact hk)
      rw [Nat.pow_one] at this
      rw [this]
      show _ ++ ([] ++ [k % n]) = _
      rw [Nat.mod_eq_of_lt hk]
      rfl
    have eix : ∀ k y, x * n ^ (j + 1) + (k * n ^ j + y) = (x * n + k) * n ^ j + y := by
      intro k y
      rw [Nat.pow_succ, Nat.add_mul, Nat.mul_assoc x n, Nat.mul_comm n, Nat.add_assoc]
    have hlt : ∀ k y, k < n → y < n ^ j → k * n ^ j + y < n ^ (j + 1) := by
      intro k y hk hy
      rw [Nat.pow_succ, Nat.mul_comm (n ^ j)]
      calc k * n ^ j + y < k * n ^ j + n ^ j := by omega
        _ = (k + 1) * n ^ j := by rw [Nat.add_mul, Nat.one_mul]
        _ ≤ n * n ^ j := Nat.mul_le_mul_right _ hk
    have hsp : ∀ y, y < n ^ (j + 1) → ∃ k y', k < n ∧ y' < n ^ j ∧ y = k * n ^ j + y' := by
      intro y hy
      refine ⟨y / n ^ j, y % n ^ j, ?_, Nat.mod_lt _ hpos, ?_⟩
      · rw [Nat.div_lt_iff_lt_mul hpos, Nat.mul_comm, ← Nat.pow_succ]
        exact hy
      · rw [Nat.mul_comm]
        exact (Nat.div_add_mod _ _).symm
    have hok : ∀ k, k < n → okP hd (dgs n (m + 1) (x * n + k)) 0 = (!(mkl (dgs n m x)).testBit k && hd (mkl (dgs n m x)) k) := by
      intro k hk
      rw [edg k hk, okP_app, hv, Bool.true_and, Nat.zero_or]
      show (_ && true) = _
      rw [Bool.and_true]
    have hbad : ∀ k, k < n → (!(mkl (dgs n m x)).testBit k && hd (mkl (dgs n m x)) k) = false → ∀ y, y < n ^ j → okP hd (dgs n n (x * n ^ (j + 1) + (k * n ^ j + y))) 0 = false := by
      intro k hk hc y hy
      rw [eix]
      have := dgs_blk (m := m + 1) (x := x * n + k) hn hy
      rw [show m + 1 + j = n by omega] at this
      rw [this]
      exact okP_bad (n := n) (by rw [hok k hk]; exact hc)
    have hrec : ∀ k, k < n → (!(mkl (dgs n m x)).testBit k && hd (mkl (dgs n m x)) k) = true → match nxF n hd j (mkl (dgs n m x) ||| 2 ^ k) with
        | none => ∀ y, y < n ^ j → okP hd (dgs n n (x * n ^ (j + 1) + (k * n ^ j + y))) 0 = false
        | some ds => ds.length = j ∧ ∃ y, y < n ^ j ∧ dgs n n (x * n ^ (j + 1) + (k * n ^ j + y)) = dgs n m x ++ (k :: ds) ∧ okP hd (dgs n n (x * n ^ (j + 1) + (k * n ^ j + y))) 0 = true ∧ ∀ y', y' < y → okP hd (dgs n n (x * n ^ (j + 1) + (k * n ^ j + y'))) 0 = false := by
      intro k hk hc
      have h1 := ih (m + 1) (x * n + k) (by omega) (by rw [hok k hk]; exact hc)
      rw [edg k hk, mkl_app] at h1
      simp only [eix]
      cases hx : nxF n hd j (mkl (dgs n m x) ||| 2 ^ k) with
      | none => rw [hx] at h1; exact h1
      | some ds =>
        rw [hx] at h1
        obtain ⟨a, y, b, c, d, e⟩ := h1
        refine ⟨a, y, b, ?_, d, e⟩
        rw [c, List.append_assoc]
        rfl
    have hfail : ∀ k, k < n → (if (!(mkl (dgs n m x)).testBit k && hd (mkl (dgs n m x)) k) = true then (nxF n hd j (mkl (dgs n m x) ||| 2 ^ k)).map (k :: ·) else none) = none → ∀ y, y < n ^ j → okP hd (dgs n n (x * n ^ (j + 1) + (k * n ^ j + y))) 0 = false := by
      intro k hk hz
      cases hc : (!(mkl (dgs n m x)).testBit k && hd (mkl (dgs n m x)) k) with
      | false => exact hbad k hk hc
      | true =>
        have h2 := hrec k hk hc
        rw [hc, if_pos rfl] at hz
        cases hx : nxF n hd j (mkl (dgs n m x) ||| 2 ^ k) with
        | none => rw [hx] at h2; exact h2
        | some ds => rw [hx] at hz; cases hz
    show match fst_ (fun k => if (!(mkl (dgs n m x)).testBit k && hd (mkl (dgs n m x)) k) = true then (nxF n hd j (mkl (dgs n m x) ||| 2 ^ k)).map (k :: ·) else none) n with
      | none => _
      | some ds => _
    cases hf : fst_ (fun k => if (!(mkl (dgs n m x)).testBit k && hd (mkl (dgs n m x)) k) = true then (nxF n hd j (mkl (dgs n m x) ||| 2 ^ k)).map (k :: ·) else none) n with
    | none =>
      intro y hy
      obtain ⟨k, y', hk, hy', rfl⟩ := hsp y hy
      exact hfail k hk (fst_n hf k hk) y' hy'
    | some z =>
      obtain ⟨k, hk, hz, hb⟩ := fst_s hf
      cases hc : (!(mkl (dgs n m x)).testBit k && hd (mkl (dgs n m x)) k) with
      | false => rw [hc] at hz; cases hz
      | true =>
        have h2 := hrec k hk hc
        rw [hc, if_pos rfl] at hz
        cases hx : nxF n hd j (mkl (dgs n m x) ||| 2 ^ k) with
        | none => rw [hx] at hz; cases hz
        | some ds =>
          rw [hx] at hz h2
          obtain rfl : k :: ds = z := Option.some.inj hz
          obtain ⟨a, y, b, c, d, e⟩ := h2
          refine ⟨by rw [List.length_cons, a], k * n ^ j + y, hlt k y hk b, c, d, fun y' hy' => ?_⟩
          obtain ⟨k2, y2, hk2, hy2, rfl⟩ := hsp y' (Nat.lt_trans hy' (hlt k y hk b))
          rcases Nat.lt_trichotomy k2 k with q | q | q
          · exact hfail k2 hk2 (hb k2 q) y2 hy2
          · subst q
            exact e y2 (by omega)
          · exfalso
            have : (k + 1) * n ^ j ≤ k2 * n ^ j := Nat.mul_le_mul_right _ q
            rw [Nat.add_mul, Nat.one_mul] at this
            omega
end PPL
