section PMU3
variable {A A' : AA} {S S' : MS}
-- feed
def byt (y : Int32) : Nat := y.toBitVec.toNat % 256
theorem byt_lt (y : Int32) : byt y < 256 := Nat.mod_lt _ (by decide)
theorem byt_ok (y : Int32) : (nI (byt y)).toInt8.toInt32 = y.toInt8.toInt32 := by
  have e : (nI (byt y)).toInt8 = y.toInt8 := by
    apply Int8.toBitVec_inj.mp
    apply BitVec.eq_of_toNat_eq
    rw [Int32.toBitVec_toInt8, Int32.toBitVec_toInt8, BitVec.signExtend_eq_setWidth_of_le _ (by decide), BitVec.signExtend_eq_setWidth_of_le _ (by decide)]
    show ((BitVec.ofNat 32 (byt y)).setWidth 8).toNat = (y.toBitVec.setWidth 8).toNat
    rw [BitVec.toNat_setWidth, BitVec.toNat_setWidth, BitVec.toNat_ofNat]
    unfold byt
    omega
  rw [e]
def fdL (x : Int32) : Nat → List Nat
  | 0 => []
  | k + 1 => byt (x >>> (nI (8 * k) &&& 31)) :: fdL x k
theorem fdL_len (x : Int32) : ∀ n, (fdL x n).length = n
  | 0 => rfl
  | n + 1 => by show (fdL x n).length + 1 = _; rw [fdL_len x n]
theorem fdL_lt (x : Int32) : ∀ n, ∀ c ∈ fdL x n, c < 256
  | 0, c, h => nomatch h
  | n + 1, c, h => by
    rcases List.mem_cons.mp h with e | e
    · rw [e]; exact byt_lt _
    · exact fdL_lt x n c e
def sFeed (A : AA) (a b : Int32) : Int32 × AA := match ix 5 b with
  | some n => if (aTx A).length + n ≤ 100 then (nI ((aTx A).length + n), uT A (aTx A ++ fdL a n)) else (-4, A)
  | none => (-2, A)
theorem MM_tx (g : MM A S) {T : List Nat} {i : Nat} {c : Nat} (hi : i = (aTx A).length) (hT : T = aTx A ++ [c]) : MM (uT A T) (mP (mR S 12 i ((nI c).toInt8.toInt32)) 10 (nI (i + 1))) := by
  obtain ⟨gW, gR, gK, gS, gJ, gT, gt, gB, gb, gP⟩ := g
  subst hT
  subst hi
  refine ⟨gW.fr rfl (mP_n (by decide)) (fun k hk => mR_n (fun e => by subst e; revert hk; decide)), gR.fr rfl (mP_n (by decide)) (fun k hk => mR_n (fun e => by subst e; revert hk; decide)), fun p hp => ?_, ?_, ?_, ?_, fun j d hd => ?_, ?_, fun j hj hk => ?_, gP.fr rfl (fun k hk => mR_n (fun e => by subst e; revert hk; decide)) rfl⟩
  · exact gK p hp
  · rw [mP_n (by decide)]; exact gS
  · rw [mP_n (by decide)]; exact gJ
  · rw [mP_s]
    show _ = nI (aTx A ++ [c]).length
    rw [List.length_append]
    rfl
  · have hd' : (aTx A ++ [c])[j]? = some d := hd
    rw [mP_r, mR_s]
    by_cases q : j = (aTx A).length
    · rw [if_pos q]
      rw [q, List.getElem?_append_right (Nat.le_refl _), Nat.sub_self] at hd'
      have : c = d := by simpa using hd'
      rw [this]
    · rw [if_neg q]
      have hl : j < (aTx A).length := by
        have := (List.getElem?_eq_some_iff.mp hd').1
        simp at this
        omega
      rw [List.getElem?_append_left hl] at hd'
      exact gt j d hd'
  · rw [mP_n (by decide)]; exact gB
  · exact gb j hj hk
theorem m_fdl (x : Int32) : ∀ (k fuel : Nat) (A : AA) (S : MS), MM A S → (aTx A).length + k ≤ 100 → k < fuel → ∃ S', mm_feed_31L fuel x (nI k - nI 1) S = some (nI ((aTx A).length + k), S') ∧ MM (uT A (aTx A ++ fdL x k)) S' := by
  intro k
  induction k with
  | zero =>
    intro fuel A S g hl hf
    obtain ⟨fu, rfl⟩ : ∃ fu, fuel = fu + 1 := ⟨fuel - 1, by omega⟩
    refine ⟨S, ?_, ?_⟩
    · show mm_feed_31 _ _ _ _ = _
      unfold mm_feed_31
      rw [g.2.2.2.2.2.1]
      rfl
    · show MM (uT A (aTx A ++ [])) S
      rw [List.append_nil]
      exact g
  | succ k ih =>
    intro fuel A S g hl hf
    obtain ⟨fu, rfl⟩ : ∃ fu, fuel = fu + 1 := ⟨fuel - 1, by omega⟩
    have hm := MM_tx g (T := aTx A ++ [byt (x >>> (nI (8 * k) &&& 31))]) rfl rfl
    have hlen : (aTx (uT A (aTx A ++ [byt (x >>> (nI (8 * k) &&& 31))]))).length = (aTx A).length + 1 := by
      show (aTx A ++ [byt (x >>> (nI (8 * k) &&& 31))]).length = _
      rw [List.length_append]
      rfl
    obtain ⟨S', e, m⟩ := ih fu _ _ hm (by omega) (by omega)
    have hl100 : (aTx A).length < 100 := by omega
    refine ⟨S', ?_, ?_⟩
    · show mm_feed_31 _ _ _ _ = _
      unfold mm_feed_31
      rw [byt_ok] at e
      have e1 : nI k + -nI 1 = nI k - nI 1 := (Int32.sub_eq_add_neg (a := nI k) (b := nI 1)).symm
      simp (discharger := omega) only [q0, q1, q2, q3, q4, q5, q6, q7, q8, q9, q10, q11, q14, q20, q32, q33, q38, q40, q41, q48, q57, q59, q60, q61, q62, q98, q99, q100, q101, q104, q107, q115, q117, q124, q1000, q1023, q1024, pk_sub (show 1 ≤ k + 1 by omega), Nat.add_sub_cancel, g.2.2.2.2.2.1, nI_add, pk_mul, nI_clamp, ne_n, lt_n, le_n, vin_n, decide_true, decide_false, if_true, if_false, bd_s, ck_t, lt_t, hl100, mR_i, e1, show ¬ k < 0 by omega]
      rw [e, hlen]
      congr 3
      omega
    · have : aTx (uT A (aTx A ++ [byt (x >>> (nI (8 * k) &&& 31))])) ++ fdL x k = aTx A ++ fdL x (k + 1) := by
        show (aTx A ++ [byt (x >>> (nI (8 * k) &&& 31))]) ++ fdL x k = aTx A ++ (byt (x >>> (nI (8 * k) &&& 31)) :: fdL x k)
        rw [List.append_assoc]
        rfl
      rw [this] at m
      exact m
theorem mu_feed (h : WF A) (g : MM A S) (a b : Int32) : ∃ S', mm_feed S a b = some ((sFeed A a b).1, S') ∧ MM (sFeed A a b).2 S' ∧ WF (sFeed A a b).2 := by
  have h100 := h.2.2.2.2.2.1
  unfold mm_feed sFeed
  have i1 := m_in' S 4 b (by decide)
  simp only [q0, q1, q2, q3, q4, q5, q6, q7, q8, q9, q10, q11, q14, q20, q32, q33, q38, q40, q41, q48, q57, q59, q60, q61, q62, q98, q99, q100, q101, q104, q107, q115, q117, q124, q1000, q1023, q1024] at i1 ⊢
  simp only [i1, bd_s, ck_t, lt_t, b2_0]
  cases h1 : ix 5 b with
  | none => exact ⟨S, by simp [q2, h1], g, h⟩
  | some n =>
  have h1' : ix (4 + 1) b = some n := h1
  obtain ⟨hn, rfl⟩ := ix_s (by decide) h1
  simp (discharger := omega) only [h1', Option.isSome_some, reduceCtorEq, if_false, g.2.2.2.2.2.1, nI_add, le_n]
  by_cases c : (aTx A).length + n ≤ 100
  · obtain ⟨S', e, m⟩ := m_fdl a n 4000 A S g c (by omega)
    simp only [c, if_true]
    refine ⟨S', e, m, ⟨h.1, h.2.1, h.2.2.1, h.2.2.2.1, h.2.2.2.2.1, ?_, fun d hd => ?_, h.2.2.2.2.2.2.2⟩⟩
    · show (aTx A ++ fdL a n).length ≤ 100
      rw [List.length_append, fdL_len]
      exact c
    · rcases List.mem_append.mp hd with z | z
      · exact h.2.2.2.2.2.2.1 d z
      · exact fdL_lt a n d z
  · simp only [c, if_false]
    exact ⟨S, rfl, g, h⟩
-- acts
def bap (A : AA) (L : List Nat) : AA := uB A (L.length, fun i => L.getD i 0)
def hrs (A : AA) (w : Nat) (x : Int32) : Int32 × List Nat :=
  if aK A w = 2 ∨ aK A w = 5 then (x * 3 + nI w, [30, 10]) else if aK A w = 3 then (-(x + nI w), [40, 10]) else if aK A w = 6 then ((x + nI w) ^^^ nI (aB A w), [71, 10]) else (x + nI w, [10])
def pkp (A : AA) (w : Nat) (x : Int32) : Int32 × List Nat := ((hrs A w x).1 - nI (aB A w), 11 :: (hrs A w x).2)
def skp (A : AA) (w : Nat) (x : Int32) : Int32 × List Nat := ((pkp A w x).1 ^^^ 5, 20 :: (pkp A w x).2)
def kpv (A : AA) (w : Nat) (x : Int32) : Int32 × List Nat :=
  if aK A w = 5 then ((skp A w x).1 + ((2 : Int32) * 3 + nI w), 60 :: ((skp A w x).2 ++ [30, 10])) else if undr (aK A w) 1 = true then skp A w x else pkp A w x
def ptl (A : AA) (w : Nat) (x : Int32) : Int32 × List Nat := ((kpv A w x).1 * 2, 12 :: (kpv A w x).2)
def tlv (A : AA) (w : Nat) (x : Int32) : Int32 × List Nat :=
  if aK A w = 2 ∨ aK A w = 5 then ((ptl A w x).1 + (kpv A w 1).1, 31 :: ((ptl A w x).2 ++ (kpv A w 1).2)) else if aK A w = 4 then ((ptl A w (x - nI w)).1, 50 :: (ptl A w (x - nI w)).2) else if aK A w = 6 then ((kpv A w x).1 - (ptl A w x).1, 70 :: ((kpv A w x).2 ++ (ptl A w x).2)) else ptl A w x
def sAct (A : AA) (a b x : Int32) : Int32 × AA := match ix (aN A) a, ix 3 b with
  | some w, some q => if q = 0 then ((hrs A w x).1, bap A (hrs A w x).2) else if q = 1 then ((kpv A w x).1, bap A (kpv A w x).2) else ((tlv A w x).1, bap A (tlv A w x).2)
  | _, _ => (0, bap A [])
theorem hrs_len (w : Nat) (x : Int32) : (hrs A w x).2.length ≤ 2 := by unfold hrs; (repeat' split) <;> simp
theorem pkp_len (w : Nat) (x : Int32) : (pkp A w x).2.length ≤ 3 := by have := hrs_len (A := A) w x; show (hrs A w x).2.length + 1 ≤ 3; omega
theorem skp_len (w : Nat) (x : Int32) : (skp A w x).2.length ≤ 4 := by have := pkp_len (A := A) w x; show (pkp A w x).2.length + 1 ≤ 4; omega
theorem kpv_len (w : Nat) (x : Int32) : (kpv A w x).2.length ≤ 7 := by
  have h1 := skp_len (A := A) w x
  have h2 := pkp_len (A := A) w x
  unfold kpv
  repeat' split
  · simp; omega
  · omega
  · omega
theorem ptl_len (w : Nat) (x : Int32) : (ptl A w x).2.length ≤ 8 := by have := kpv_len (A := A) w x; show (kpv A w x).2.length + 1 ≤ 8; omega
theorem tlv_len (w : Nat) (x : Int32) : (tlv A w x).2.length ≤ 16 := by
  have h1 := ptl_len (A := A) w x
  have h2 := kpv_len (A := A) w x
  have h3 := kpv_len (A := A) w 1
  have h4 := ptl_len (A := A) w (x - nI w)
  unfold tlv
  repeat' split
  · simp; omega
  · simp; omega
  · simp; omega
  · omega
theorem m_body' {L : List Nat} {b : Nat} (hL : L.length < 100) (g : MM (bap A L) S) : ∃ S', mm_body S (nI b) = some (nI 0, S') ∧ MM (bap A (L ++ [b])) S' := by
  obtain ⟨gW, gR, gK, gS, gJ, gT, gt, gB, gb, gP⟩ := g
  have gB' : S.1 34 = nI L.length := gB
  have gb' : ∀ i, i < 20 → i < L.length → S.2.1 35 i = nI (L.getD i 0) := gb
  have hlen : (L ++ [b]).length = L.length + 1 := by rw [List.length_append]; rfl
  unfold mm_body mm_body_19
  rw [gB']
  simp (discharger := omega) only [q0, q1, q2, q3, q4, q5, q6, q7, q8, q9, q10, q11, q14, q20, q32, q33, q38, q40, q41, q48, q57, q59, q60, q61, q62, q98, q99, q100, q101, q104, q107, q115, q117, q124, q1000, q1023, q1024, bd_s, ck_t, lt_t, nI_add, pk_mul, nI_clamp, ne_n, lt_n, le_n, vin_n, decide_true, decide_false, if_true, if_false, mR_i, gB']
  by_cases c : 20 ≤ L.length
  · rw [if_pos c]
    refine ⟨_, rfl, gW.fr rfl (mP_n (by decide)) (fun _ _ => rfl), gR.fr rfl (mP_n (by decide)) (fun _ _ => rfl), gK, by rw [mP_n (by decide)]; exact gS, by rw [mP_n (by decide)]; exact gJ, by rw [mP_n (by decide)]; exact gT, gt, ?_, fun i hi hj => ?_, gP.fr rfl (fun _ _ => rfl) rfl⟩
    · rw [mP_s]
      show _ = nI (L ++ [b]).length
      rw [hlen]
    · show S.2.1 35 i = nI ((L ++ [b]).getD i 0)
      rw [gb' i hi (by omega), List.getD_eq_getElem?_getD, List.getD_eq_getElem?_getD, List.getElem?_append_left (by omega)]
  · have c' : L.length < 20 := by omega
    rw [if_neg c]
    simp only [c', decide_true, ck_t]
    refine ⟨_, rfl, gW.fr rfl (mP_n (by decide)) (fun k hk => mR_n (fun e => by subst e; revert hk; decide)), gR.fr rfl (mP_n (by decide)) (fun k hk => mR_n (fun e => by subst e; revert hk; decide)), fun p hp => ?_, by rw [mP_n (by decide)]; exact gS, by rw [mP_n (by decide)]; exact gJ, by rw [mP_n (by decide)]; exact gT, fun i c hc => ?_, ?_, fun i hi hj => ?_, gP.fr rfl (fun k hk => mR_n (fun e => by subst e; revert hk; decide)) rfl⟩
    · exact gK p hp
    · exact gt i c hc
    · rw [mP_s]
      show _ = nI (L ++ [b]).length
      rw [hlen]
    · have hj' : i < (L ++ [b]).length := hj
      rw [hlen] at hj'
      show (mR S 35 L.length (nI b)).2.1 35 i = nI ((L ++ [b]).getD i 0)
      rw [mR_s, List.getD_eq_getElem?_getD]
      by_cases e : i = L.length
      · rw [if_pos e, e, List.getElem?_append_right (Nat.le_refl _), Nat.sub_self]
        rfl
      · rw [if_neg e, gb' i hi (by omega), List.getD_eq_getElem?_getD, List.getElem?_append_left (by omega)]
theorem m_ph {L : List Nat} {w : Nat} {x : Int32} (hL : L.length < 90) (g : MM (bap A L) S) : ∃ S', mm_plainHears S (nI w) x = some (x + nI w, S') ∧ MM (bap A (L ++ [10])) S' := by
  obtain ⟨S1, e1, g1⟩ := m_body' (b := 10) (by omega) g
  refine ⟨S1, ?_, g1⟩
  unfold mm_plainHears
  rw [show (10 : Int32) = nI 10 from rfl, e1]
  rfl
theorem m_wh {L : List Nat} {w : Nat} {x : Int32} (hL : L.length < 89) (g : MM (bap A L) S) : ∃ S', mm_writtenHears S (nI w) x = some (x * 3 + nI w, S') ∧ MM (bap A (L ++ [30, 10])) S' := by
  obtain ⟨S1, e1, g1⟩ := m_body' (b := 30) (by omega) g
  obtain ⟨S2, e2, g2⟩ := m_ph (w := w) (x := x * 3) (by simp; omega) g1
  refine ⟨S2, ?_, by rw [List.append_assoc] at g2; exact g2⟩
  unfold mm_writtenHears
  rw [show (30 : Int32) = nI 30 from rfl, e1, bd_s, e2]
  rfl
theorem m_hrs (h : WF A) {L : List Nat} {w : Nat} {x : Int32} (hw : w < aN A) (hL : L.length < 80) (g : MM (bap A L) S) : ∃ S', mm_hears S (nI w) x = some ((hrs A w x).1, S') ∧ MM (bap A (L ++ (hrs A w x).2)) S' := by
  have hN := wfN h
  have hK := wfK h hw
  have hw14 : w < 14 := by omega
  obtain ⟨g4, g5, -⟩ := (g.1.2 w hw14).1 hw
  have g4' : S.2.1 4 w = nI (aK A w) := g4
  unfold mm_hears mm_hears_40 mm_hears_81 hrs
  simp (discharger := omega) only [q0, q1, q2, q3, q4, q5, q6, q7, q8, q9, q10, q11, q14, q20, q32, q33, q38, q40, q41, q48, q57, q59, q60, q61, q62, q98, q99, q100, q101, q104, q107, q115, q117, q124, q1000, q1023, q1024, nI_add, pk_mul, nI_clamp, ne_n, lt_n, le_n, vin_n, decide_true, decide_false, if_true, if_false, ck_t, hw14, g4']
  by_cases c2 : aK A w = 2 ∨ aK A w = 5
  · obtain ⟨S1, e1, g1⟩ := m_wh (w := w) (x := x) (by omega) g
    rw [if_pos c2]
    refine ⟨S1, ?_, g1⟩
    rw [e1]
    rcases c2 with c | c
    · rw [if_pos c]; rfl
    · rw [if_neg (by omega), if_neg (by omega), if_pos c]; rfl
  · rw [if_neg c2, if_neg (fun z => c2 (Or.inl z))]
    by_cases c3 : aK A w = 3
    · obtain ⟨S1, e1, g1⟩ := m_body' (b := 40) (by omega) g
      obtain ⟨S2, e2, g2⟩ := m_ph (w := w) (x := x) (by simp; omega) g1
      rw [if_pos c3, if_pos c3]
      refine ⟨S2, ?_, by rw [List.append_assoc] at g2; exact g2⟩
      rw [e1, bd_s, e2]
      rfl
    · rw [if_neg c3, if_neg c3, if_neg (fun z => c2 (Or.inr z))]
      by_cases c6 : aK A w = 6
      · obtain ⟨S1, e1, g1⟩ := m_body' (b := 71) (by omega) g
        obtain ⟨S2, e2, g2⟩ := m_ph (w := w) (x := x) (by simp; omega) g1
        have g5' : S2.2.1 5 w = nI (aB A w) := ((g2.1.2 w hw14).1 hw).2.1
        rw [if_pos c6, if_pos c6]
        refine ⟨S2, ?_, by rw [List.append_assoc] at g2; exact g2⟩
        rw [show (71 : Int32) = nI 71 from rfl, e1, bd_s, e2, bd_s]
        simp only [ck_t, g5']
      · obtain ⟨S1, e1, g1⟩ := m_ph (w := w) (x := x) (by omega) g
        rw [if_neg c6, if_neg c6]
        refine ⟨S1, ?_, g1⟩
        rw [e1]
        rfl
theorem m_pkp (h : WF A) {L : List Nat} {w : Nat} {x : Int32} (hw : w < aN A) (hL : L.length < 79) (g : MM (bap A L) S) : ∃ S', mm_plainKeeps S (nI w) x = some ((pkp A w x).1, S') ∧ MM (bap A (L ++ (pkp A w x).2)) S' := by
  have hN := wfN h
  have hw14 : w < 14 := by omega
  obtain ⟨S1, e1, g1⟩ := m_body' (b := 11) (by omega) g
  obtain ⟨S2, e2, g2⟩ := m_hrs h (w := w) (x := x) hw (by simp; omega) g1
  have g5' : S2.2.1 5 w = nI (aB A w) := ((g2.1.2 w hw14).1 hw).2.1
  refine ⟨S2, ?_, by rw [List.append_assoc] at g2; exact g2⟩
  unfold mm_plainKeeps pkp
  rw [show (11 : Int32) = nI 11 from rfl, e1, bd_s, e2, bd_s]
  simp (discharger := omega) only [vin_n, hw14, decide_true, ck_t, nI_clamp, g5']
theorem m_skp (h : WF A) {L : List Nat} {w : Nat} {x : Int32} (hw : w < aN A) (hL : L.length < 78) (g : MM (bap A L) S) : ∃ S', mm_saidKeeps S (nI w) x = some ((skp A w x).1, S') ∧ MM (bap A (L ++ (skp A w x).2)) S' := by
  obtain ⟨S1, e1, g1⟩ := m_body' (b := 20) (by omega) g
  obtain ⟨S2, e2, g2⟩ := m_pkp h (w := w) (x := x) hw (by simp; omega) g1
  refine ⟨S2, ?_, by rw [List.append_assoc] at g2; exact g2⟩
  unfold mm_saidKeeps skp
  rw [show (20 : Int32) = nI 20 from rfl, e1, bd_s, e2]
  rfl
theorem m_kpv (h : WF A) {L : List Nat} {w : Nat} {x : Int32} (hw : w < aN A) (hL : L.length < 70) (g : MM (bap A L) S) : ∃ S', mm_keeps S (nI w) x = some ((kpv A w x).1, S') ∧ MM (bap A (L ++ (kpv A w x).2)) S' := by
  have hN := wfN h
  have hK := wfK h hw
  have hw14 : w < 14 := by omega
  have g4' : S.2.1 4 w = nI (aK A w) := ((g.1.2 w hw14).1 hw).1
  unfold mm_keeps kpv
  simp (discharger := omega) only [q0, q1, q2, q3, q4, q5, q6, q7, q8, q9, q10, q11, q14, q20, q32, q33, q38, q40, q41, q48, q57, q59, q60, q61, q62, q98, q99, q100, q101, q104, q107, q115, q117, q124, q1000, q1023, q1024, nI_add, pk_mul, nI_clamp, ne_n, lt_n, le_n, vin_n, decide_true, decide_false, if_true, if_false, ck_t, hw14, g4', m_und S hK (show 1 < 10 by decide), bd_s, b2_0]
  by_cases c5 : aK A w = 5
  · obtain ⟨S1, e1, g1⟩ := m_body' (b := 60) (by omega) g
    obtain ⟨S2, e2, g2⟩ := m_skp h (w := w) (x := x) hw (by simp; omega) g1
    have hl := skp_len (A := A) w x
    obtain ⟨S3, e3, g3⟩ := m_wh (w := w) (x := nI 2) (by simp; omega) g2
    rw [if_pos c5, if_pos c5]
    refine ⟨S3, ?_, by rw [List.append_assoc, List.append_assoc] at g3; exact g3⟩
    rw [e1, bd_s, e2, bd_s, e3, bd_s, q3, pk_mul, nI_add]
  · rw [if_neg c5, if_neg c5]
    cases hu : undr (aK A w) 1 with
    | true =>
      obtain ⟨S2, e2, g2⟩ := m_skp h (w := w) (x := x) hw (by omega) g
      refine ⟨S2, ?_, g2⟩
      simp only [reduceCtorEq, if_false, if_true, e2, bd_s]
    | false =>
      obtain ⟨S2, e2, g2⟩ := m_pkp h (w := w) (x := x) hw (by omega) g
      refine ⟨S2, ?_, by simp only [reduceCtorEq, if_false]; exact g2⟩
      simp only [if_true, e2, bd_s, reduceCtorEq, if_false]
theorem m_ptl (h : WF A) {L : List Nat} {w : Nat} {x : Int32} (hw : w < aN A) (hL : L.length < 60) (g : MM (bap A L) S) : ∃ S', mm_plainTells S (nI w) x = some ((ptl A w x).1, S') ∧ MM (bap A (L ++ (ptl A w x).2)) S' := by
  obtain ⟨S1, e1, g1⟩ := m_body' (b := 12) (by omega) g
  obtain ⟨S2, e2, g2⟩ := m_kpv h (w := w) (x := x) hw (by simp; omega) g1
  refine ⟨S2, ?_, by rw [List.append_assoc] at g2; exact g2⟩
  unfold mm_plainTells ptl
  rw [show (12 : Int32) = nI 12 from rfl, e1, bd_s, e2]
  rfl
theorem m_tlv (h : WF A) {L : List Nat} {w : Nat} {x : Int32} (hw : w < aN A) (hL : L.length < 30) (g : MM (bap A L) S) : ∃ S', mm_tells S (nI w) x = some ((tlv A w x).1, S') ∧ MM (bap A (L ++ (tlv A w x).2)) S' := by
  have hN := wfN h
  have hK := wfK h hw
  have hw14 : w < 14 := by omega
  have g4' : S.2.1 4 w = nI (aK A w) := ((g.1.2 w hw14).1 hw).1
  unfold mm_tells mm_tells_40 mm_tells_101 tlv
  simp (discharger := omega) only [q0, q1, q2, q3, q4, q5, q6, q7, q8, q9, q10, q11, q14, q20, q32, q33, q38, q40, q41, q48, q57, q59, q60, q61, q62, q98, q99, q100, q101, q104, q107, q115, q117, q124, q1000, q1023, q1024, nI_add, pk_mul, nI_clamp, ne_n, lt_n, le_n, vin_n, decide_true, decide_false, if_true, if_false, ck_t, hw14, g4']
  have hl1 := ptl_len (A := A) w x
  have hl2 := kpv_len (A := A) w x
  by_cases c2 : aK A w = 2 ∨ aK A w = 5
  · obtain ⟨S1, e1, g1⟩ := m_body' (b := 31) (by omega) g
    obtain ⟨S2, e2, g2⟩ := m_ptl h (w := w) (x := x) hw (by simp; omega) g1
    obtain ⟨S3, e3, g3⟩ := m_kpv h (w := w) (x := nI 1) hw (by simp; omega) g2
    rw [if_pos c2]
    refine ⟨S3, ?_, by rw [List.append_assoc, List.append_assoc] at g3; exact g3⟩
    rw [show (31 : Int32) = nI 31 from rfl, e1, bd_s, e2, bd_s, e3]
    rcases c2 with c | c
    · rw [if_pos c]; rfl
    · rw [if_neg (by omega), if_neg (by omega), if_pos c]; rfl
  · rw [if_neg c2, if_neg (fun z => c2 (Or.inl z))]
    by_cases c4 : aK A w = 4
    · obtain ⟨S1, e1, g1⟩ := m_body' (b := 50) (by omega) g
      obtain ⟨S2, e2, g2⟩ := m_ptl h (w := w) (x := x - nI w) hw (by simp; omega) g1
      rw [if_pos c4, if_pos c4]
      refine ⟨S2, ?_, by rw [List.append_assoc] at g2; exact g2⟩
      rw [show (50 : Int32) = nI 50 from rfl, e1, bd_s, e2]
      rfl
    · rw [if_neg c4, if_neg c4, if_neg (fun z => c2 (Or.inr z))]
      by_cases c6 : aK A w = 6
      · obtain ⟨S1, e1, g1⟩ := m_body' (b := 70) (by omega) g
        obtain ⟨S2, e2, g2⟩ := m_kpv h (w := w) (x := x) hw (by simp; omega) g1
        obtain ⟨S3, e3, g3⟩ := m_ptl h (w := w) (x := x) hw (by simp; omega) g2
        rw [if_pos c6, if_pos c6]
        refine ⟨S3, ?_, by rw [List.append_assoc, List.append_assoc] at g3; exact g3⟩
        rw [show (70 : Int32) = nI 70 from rfl, e1, bd_s, e2, bd_s, e3]
        rfl
      · obtain ⟨S1, e1, g1⟩ := m_ptl h (w := w) (x := x) hw (by omega) g
        rw [if_neg c6, if_neg c6]
        refine ⟨S1, ?_, g1⟩
        rw [e1]
        rfl
end PMU3
