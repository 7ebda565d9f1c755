section PCA
variable {t0 : TS} {ad : DD} {A : AA} {P : PS} {w : Nat}
def kab (v : Nat) : Nat := if v = 2 ∨ v = 6 then 1 else if v = 5 then 2 else 0
theorem c_ka (P : PS) {v : Nat} (hv : v < 7) : hm_X8_kindAbove P (nI v) = some (nI (kab v), P) := by
  have : v = 0 ∨ v = 1 ∨ v = 2 ∨ v = 3 ∨ v = 4 ∨ v = 5 ∨ v = 6 := by omega
  rcases this with rfl | rfl | rfl | rfl | rfl | rfl | rfl <;> rfl
theorem c_beg {L : List Nat} {b : Nat} (hL : L.length < 100) (h : CC t0 ad (bap A L) P) : ∃ P', hm_X0_begin P (ad 8) (nI b) = some (0, P') ∧ CC t0 ad (bap A (L ++ [b])) P' := by
  obtain ⟨c1, c2⟩ := h.2.2.2.2.2.2.2.1
  have c1' : pI P (ad 8) 1 = nI L.length := c1
  have r0 := h.1.2.2.2.2.2.2.2.1
  have n13 := h.1.2.2.2.2.2.2.2.2.2.2.2
  have z1 : ¬ nI L.length < 0 := nI_pos (by omega)
  have hne : ad 8 ≠ ad 13 := h.ne (lv_i (by decide)) (lv_i (by decide)) (by decide)
  have e1 : nI L.length + (1 : Int32) = nI (L.length + 1) := by rw [q1, nI_add]
  have hk8 := h.k8
  have hk13 := h.k13
  have hfin : ∀ P1, frI ad (bap A L) P P1 (fun i => i = 8 ∨ i = 13) → pI P1 (ad 8) 1 = nI (L.length + 1) → (∀ i, i < 20 → i < L.length + 1 → pI P1 (ad 13) i = nI ((L ++ [b]).getD i 0)) → CC t0 ad (bap A (L ++ [b])) P1 := by
    intro P1 f x1 x2
    obtain ⟨h1, h2, h3, h4, h5, h6, h7, h8, h9, h10, h11⟩ := h
    refine ⟨h1.fI f, h2.fI f (fun p hp => by omega), h3.fI f (by omega) (fun w hw => ⟨by omega, by omega⟩), h4.fI f (by omega) (fun i hi => by omega), h5.fI f (by omega) (by omega), h6.fI f (by omega), h7.fI f (fun t ht => by omega), ?_, h9.fI f (by omega), h10.fI f, h11.fI f⟩
    have hlen : (L ++ [b]).length = L.length + 1 := by rw [List.length_append]; rfl
    refine ⟨?_, fun i hi hr => ?_⟩
    · show pI P1 (ad 8) 1 = nI (L ++ [b]).length
      rw [hlen]
      exact x1
    · have hr' : i < (L ++ [b]).length := hr
      rw [hlen] at hr'
      exact x2 i hi hr'
  by_cases c : 20 ≤ L.length
  · have z2 : nI 20 ≤ nI L.length := by rw [le_n (by omega) (by omega)]; exact c
    have f : frI ad (bap A L) P (pIu P (ad 8) 1 (nI (L.length + 1))) (fun i => i = 8 ∨ i = 13) := h.fI (lv_i (by decide)) (Or.inl rfl)
    refine ⟨_, ?_, hfin _ f (by rw [pIu_eq]; rfl) (fun i h1 h2 => ?_)⟩
    · unfold hm_X0_begin hm_X0_begin_29
      simp only [ck_t, nn_s, bd_s, lt_t, hk8, c1', if_neg z1, r0, hk13, n13, if_pos z2, e1]
    · rw [pIu_ne (Ne.symm hne), getD_ap (by omega)]
      exact c2 i h1 (by show i < L.length; omega)
  · have z2 : ¬ nI 20 ≤ nI L.length := by rw [le_n (by omega) (by omega)]; exact c
    have f1 : frI ad (bap A L) P (pIu P (ad 13) L.length (nI b)) (fun i => i = 8 ∨ i = 13) := h.fI (lv_i (by decide)) (Or.inr rfl)
    have f2 : frI ad (bap A L) (pIu P (ad 13) L.length (nI b)) (pIu (pIu P (ad 13) L.length (nI b)) (ad 8) 1 (nI (L.length + 1))) (fun i => i = 8 ∨ i = 13) := ⟨rfl, rfl, rfl, rfl, rfl, rfl, fun i hi hn => pIu_ne (h.ne hi (lv_i (by decide)) (fun z => hn (Or.inl z)))⟩
    refine ⟨_, ?_, hfin _ (f1.tr f2) (by rw [pIu_eq]; rfl) (fun i h1 h2 => ?_)⟩
    · unfold hm_X0_begin hm_X0_begin_29
      simp only [ck_t, nn_s, bd_s, lt_t, hk8, c1', if_neg z1, r0, hk13, n13, if_neg z2, vin_n (show L.length < 2 ^ 31 by omega), decide_eq_true (show L.length < 20 by omega), nI_clamp (show L.length < 2 ^ 31 by omega), pIu_kk, pIu_ne hne, e1]
    · rw [pIu_ne (Ne.symm hne), pIu_eq]
      show (if i = L.length then nI b else pI P (ad 13) i) = _
      by_cases q : i = L.length
      · rw [if_pos q, q, getD_last]
      · rw [if_neg q, getD_ap (by omega)]
        exact c2 i h1 (by show i < L.length; omega)
def hK (A : AA) (w v : Nat) (x : Int32) : Int32 × List Nat := if v = 2 ∨ v = 5 then (x * 3 + nI w, [30, 10]) else if v = 3 then (-(x + nI w), [40, 10]) else if v = 6 then ((x + nI w) ^^^ nI (aB A w), [71, 10]) else (x + nI w, [10])
theorem hK_len {v : Nat} {x : Int32} : (hK A w v x).2.length ≤ 2 := by unfold hK; (repeat' split) <;> simp
theorem CC.wb {L : List Nat} (hW : WF A) (h : CC t0 ad (bap A L) P) (hw : w < aN A) : kk P (ad (50 + w)) 8 = true ∧ pI P (ad (50 + w)) 0 = nI w ∧ pI P (ad (50 + w)) 1 = nI (aK A w) ∧ pR P (ad (50 + w)) 3 = some (ad (20 + aB A w)) ∧ kk P (ad (20 + aB A w)) 3 = true ∧ pI P (ad (20 + aB A w)) 0 = nI (aB A w) := by
  have hB := wfB hW hw
  have h1 : CW t0 ad (bap A L) P w := h.w hw
  have h2 := h.2.1 (aB A w) hB
  exact ⟨h.kW (show aN (bap A L) ≤ 14 from wfN (A := A) hW) hw, h1.1, h1.2.1, h1.2.2.2.2.2.1, h.kP hB, h2.1⟩
theorem c_h0 (hW : WF A) {L : List Nat} (hL : L.length < 90) (h : CC t0 ad (bap A L) P) (hw : w < aN A) (x : Int32) (d : Nat) : ∃ P', hm_X0_hears (d + 1) P (ad 8) (ad (50 + w)) (nI 0) x = some (x + nI w, P') ∧ CC t0 ad (bap A (L ++ [10])) P' := by
  obtain ⟨P1, e1, h1⟩ := c_beg (b := 10) (by omega) h
  have e1' : hm_X0_begin P (ad 8) 10 = _ := e1
  obtain ⟨k1, k2, -⟩ := h1.wb hW hw
  refine ⟨P1, ?_, h1⟩
  show hmb_X0_hears _ _ _ _ _ _ = _
  unfold hmb_X0_hears
  rw [if_pos (show nI 0 = 0 from rfl)]
  simp only [ck_t, nn_s, bd_s, lt_t, e1', h.k8, k1, k2]
theorem c_hears (hW : WF A) {L : List Nat} (hL : L.length < 80) (h : CC t0 ad (bap A L) P) (hw : w < aN A) {v : Nat} (hv : v < 7) (x : Int32) (d : Nat) : ∃ P', hm_X0_hears (d + 4) P (ad 8) (ad (50 + w)) (nI v) x = some ((hK A w v x).1, P') ∧ CC t0 ad (bap A (L ++ (hK A w v x).2)) P' := by
  have h1 : ∀ {L : List Nat} {P : PS}, L.length < 85 → CC t0 ad (bap A L) P → ∀ x d, ∃ P', hm_X0_hears (d + 2) P (ad 8) (ad (50 + w)) (nI 1) x = some (x + nI w, P') ∧ CC t0 ad (bap A (L ++ [10])) P' := by
    intro L P hL h x d
    obtain ⟨P', e, h'⟩ := c_h0 hW (by omega) h hw x d
    refine ⟨P', ?_, h'⟩
    show hmb_X0_hears (hm_X0_hears (d + 1)) _ _ _ _ _ = _
    unfold hmb_X0_hears hm_X0_hears_120
    rw [if_neg (show ¬ nI 1 = 0 by decide), if_neg (show ¬ nI 1 = 2 by decide), if_neg (show ¬ nI 1 = 3 by decide), if_neg (show ¬ nI 1 = 6 by decide)]
    simp only [ck_t, nn_s, bd_s, lt_t, c_ka P (show 1 < 7 by decide), show kab 1 = 0 from rfl, e, h.k8]
  have h2 : ∀ d, ∃ P', hm_X0_hears (d + 3) P (ad 8) (ad (50 + w)) (nI 2) x = some (x * 3 + nI w, P') ∧ CC t0 ad (bap A (L ++ [30, 10])) P' := by
    intro d
    obtain ⟨P1, e1, k1⟩ := c_beg (b := 30) (by omega) h
    have e1' : hm_X0_begin P (ad 8) 30 = _ := e1
    obtain ⟨P2, e2, k2⟩ := h1 (L := L ++ [30]) (by simp; omega) k1 (x * 3) d
    refine ⟨P2, ?_, by rw [List.append_assoc] at k2; exact k2⟩
    show hmb_X0_hears (hm_X0_hears (d + 2)) _ _ _ _ _ = _
    unfold hmb_X0_hears
    rw [if_neg (show ¬ nI 2 = 0 by decide), if_pos (show nI 2 = 2 from rfl)]
    simp only [ck_t, nn_s, bd_s, lt_t, e1', h.k8, k1.k8, show (2 : Int32) = nI 2 from rfl, c_ka P1 (show 2 < 7 by decide), show kab 2 = 1 from rfl, e2]
  have : v = 0 ∨ v = 1 ∨ v = 2 ∨ v = 3 ∨ v = 4 ∨ v = 5 ∨ v = 6 := by omega
  rcases this with rfl | rfl | rfl | rfl | rfl | rfl | rfl
  · exact c_h0 hW (by omega) h hw x (d + 3)
  · exact h1 (by omega) h x (d + 2)
  · exact h2 (d + 1)
  · obtain ⟨P1, e1, k1⟩ := c_beg (b := 40) (by omega) h
    have e1' : hm_X0_begin P (ad 8) 40 = _ := e1
    obtain ⟨P2, e2, k2⟩ := c_h0 hW (L := L ++ [40]) (by simp; omega) k1 hw x (d + 2)
    refine ⟨P2, ?_, by rw [List.append_assoc] at k2; exact k2⟩
    show hmb_X0_hears (hm_X0_hears (d + 3)) _ _ _ _ _ = _
    unfold hmb_X0_hears
    rw [if_neg (show ¬ nI 3 = 0 by decide), if_neg (show ¬ nI 3 = 2 by decide), if_pos (show nI 3 = 3 from rfl)]
    simp only [ck_t, nn_s, bd_s, lt_t, e1', h.k8, k1.k8, show (3 : Int32) = nI 3 from rfl, c_ka P1 (show 3 < 7 by decide), show kab 3 = 0 from rfl, e2]
    rfl
  · obtain ⟨P', e, h'⟩ := c_h0 hW (by omega) h hw x (d + 2)
    refine ⟨P', ?_, h'⟩
    show hmb_X0_hears (hm_X0_hears (d + 3)) _ _ _ _ _ = _
    unfold hmb_X0_hears hm_X0_hears_120
    rw [if_neg (show ¬ nI 4 = 0 by decide), if_neg (show ¬ nI 4 = 2 by decide), if_neg (show ¬ nI 4 = 3 by decide), if_neg (show ¬ nI 4 = 6 by decide)]
    simp only [ck_t, nn_s, bd_s, lt_t, c_ka P (show 4 < 7 by decide), show kab 4 = 0 from rfl, e, h.k8]
    rfl
  · obtain ⟨P', e, h'⟩ := h2 d
    refine ⟨P', ?_, h'⟩
    show hmb_X0_hears (hm_X0_hears (d + 3)) _ _ _ _ _ = _
    unfold hmb_X0_hears hm_X0_hears_120
    rw [if_neg (show ¬ nI 5 = 0 by decide), if_neg (show ¬ nI 5 = 2 by decide), if_neg (show ¬ nI 5 = 3 by decide), if_neg (show ¬ nI 5 = 6 by decide)]
    simp only [ck_t, nn_s, bd_s, lt_t, c_ka P (show 5 < 7 by decide), show kab 5 = 2 from rfl, e, h.k8]
    rfl
  · obtain ⟨P1, e1, k1⟩ := c_beg (b := 71) (by omega) h
    have e1' : hm_X0_begin P (ad 8) 71 = _ := e1
    obtain ⟨P2, e2, k2⟩ := h1 (L := L ++ [71]) (by simp; omega) k1 x (d + 1)
    obtain ⟨j1, j2, j3, j4, j5, j6⟩ := k2.wb hW hw
    refine ⟨P2, ?_, by rw [List.append_assoc] at k2; exact k2⟩
    show hmb_X0_hears (hm_X0_hears (d + 3)) _ _ _ _ _ = _
    unfold hmb_X0_hears
    rw [if_neg (show ¬ nI 6 = 0 by decide), if_neg (show ¬ nI 6 = 2 by decide), if_neg (show ¬ nI 6 = 3 by decide), if_pos (show nI 6 = 6 from rfl)]
    simp only [ck_t, nn_s, bd_s, lt_t, e1', h.k8, k1.k8, show (6 : Int32) = nI 6 from rfl, c_ka P1 (show 6 < 7 by decide), show kab 6 = 1 from rfl, e2, j1, j4, j5, j6]
    rfl
theorem c_hw (hW : WF A) {L : List Nat} (hL : L.length < 80) (h : CC t0 ad (bap A L) P) (hw : w < aN A) (x : Int32) : ∃ P', hm_X0_hears 8 P (ad 8) (ad (50 + w)) (nI (aK A w)) x = some ((hrs A w x).1, P') ∧ CC t0 ad (bap A (L ++ (hrs A w x).2)) P' := c_hears hW hL h hw (wfK hW hw) x 4
theorem c_k0 (hW : WF A) {L : List Nat} (hL : L.length < 70) (h : CC t0 ad (bap A L) P) (hw : w < aN A) (x : Int32) (d : Nat) : ∃ P', hm_X0_keeps (d + 1) P (ad 8) (ad (50 + w)) (nI 0) x = some ((pkp A w x).1, P') ∧ CC t0 ad (bap A (L ++ (pkp A w x).2)) P' := by
  obtain ⟨P1, e1, k1⟩ := c_beg (b := 11) (by omega) h
  have e1' : hm_X0_begin P (ad 8) 11 = _ := e1
  obtain ⟨i1, i2, i3, -⟩ := k1.wb hW hw
  obtain ⟨P2, e2, k2⟩ := c_hw hW (L := L ++ [11]) (by simp; omega) k1 hw x
  obtain ⟨j1, j2, j3, j4, j5, j6⟩ := k2.wb hW hw
  refine ⟨P2, ?_, by rw [List.append_assoc] at k2; exact k2⟩
  show hmb_X0_keeps _ _ _ _ _ _ = _
  unfold hmb_X0_keeps
  rw [if_pos (show nI 0 = 0 from rfl)]
  simp only [ck_t, nn_s, bd_s, lt_t, e1', h.k8, k1.k8, i1, i3, e2, j1, j4, j5, j6]
  rfl
theorem c_k1 (hW : WF A) {L : List Nat} (hL : L.length < 69) (h : CC t0 ad (bap A L) P) (hw : w < aN A) (x : Int32) (d : Nat) : ∃ P', hm_X0_keeps (d + 2) P (ad 8) (ad (50 + w)) (nI 1) x = some ((skp A w x).1, P') ∧ CC t0 ad (bap A (L ++ (skp A w x).2)) P' := by
  obtain ⟨P1, e1, k1⟩ := c_beg (b := 20) (by omega) h
  have e1' : hm_X0_begin P (ad 8) 20 = _ := e1
  obtain ⟨P2, e2, k2⟩ := c_k0 hW (L := L ++ [20]) (by simp; omega) k1 hw x d
  refine ⟨P2, ?_, by rw [List.append_assoc] at k2; exact k2⟩
  show hmb_X0_keeps (hm_X0_keeps (d + 1)) _ _ _ _ _ = _
  unfold hmb_X0_keeps
  rw [if_neg (show ¬ nI 1 = 0 by decide), if_pos (show nI 1 = 1 from rfl)]
  simp only [ck_t, nn_s, bd_s, lt_t, e1', h.k8, k1.k8, show (1 : Int32) = nI 1 from rfl, c_ka P1 (show 1 < 7 by decide), show kab 1 = 0 from rfl, e2]
  rfl
theorem c_kdef {v u : Nat} (hv : v < 7) (h0 : v ≠ 0) (h1 : v ≠ 1) (h5 : v ≠ 5) (hu : kab v = u) (h8 : kk P (ad 8) 1 = true) {x r : Int32} {P' : PS} {d : Nat} (e : hm_X0_keeps d P (ad 8) (ad (50 + w)) (nI u) x = some (r, P')) (h8' : kk P' (ad 8) 1 = true) : hm_X0_keeps (d + 1) P (ad 8) (ad (50 + w)) (nI v) x = some (r, P') := by
  have n0 : ¬ nI v = 0 := by rw [q0, ne_n (by omega) (by decide)]; exact h0
  have n1 : ¬ nI v = 1 := by rw [q1, ne_n (by omega) (by decide)]; exact h1
  have n5 : ¬ nI v = 5 := by rw [q5, ne_n (by omega) (by decide)]; exact h5
  show hmb_X0_keeps (hm_X0_keeps d) _ _ _ _ _ = _
  unfold hmb_X0_keeps
  rw [if_neg n0, if_neg n1, if_neg n5]
  simp only [ck_t, nn_s, bd_s, lt_t, c_ka P hv, hu, e, h8]
theorem c_kw (hW : WF A) {L : List Nat} (hL : L.length < 60) (h : CC t0 ad (bap A L) P) (hw : w < aN A) (x : Int32) : ∃ P', hm_X0_keeps 8 P (ad 8) (ad (50 + w)) (nI (aK A w)) x = some ((kpv A w x).1, P') ∧ CC t0 ad (bap A (L ++ (kpv A w x).2)) P' := by
  have hv := wfK hW hw
  unfold kpv
  generalize aK A w = v at hv ⊢
  have : v = 0 ∨ v = 1 ∨ v = 2 ∨ v = 3 ∨ v = 4 ∨ v = 5 ∨ v = 6 := by omega
  rcases this with rfl | rfl | rfl | rfl | rfl | rfl | rfl
  · exact c_k0 hW (by omega) h hw x 7
  · exact c_k1 hW (by omega) h hw x 6
  · obtain ⟨P', e, h'⟩ := c_k1 hW (by omega) h hw x 5
    exact ⟨P', c_kdef (by decide) (by decide) (by decide) (by decide) rfl h.k8 e h'.k8, h'⟩
  · obtain ⟨P', e, h'⟩ := c_k0 hW (by omega) h hw x 6
    exact ⟨P', c_kdef (by decide) (by decide) (by decide) (by decide) rfl h.k8 e h'.k8, h'⟩
  · obtain ⟨P', e, h'⟩ := c_k0 hW (by omega) h hw x 6
    exact ⟨P', c_kdef (by decide) (by decide) (by decide) (by decide) rfl h.k8 e h'.k8, h'⟩
  · obtain ⟨P1, e1, k1⟩ := c_beg (b := 60) (by omega) h
    have e1' : hm_X0_begin P (ad 8) 60 = _ := e1
    have hsl := skp_len (A := A) w x
    obtain ⟨P2, e2, k2⟩ := c_k1 hW (L := L ++ [60]) (by simp; omega) k1 hw x 4
    have e2' := c_kdef (v := 2) (by decide) (by decide) (by decide) (by decide) rfl k1.k8 e2 k2.k8
    obtain ⟨P3, e3, k3⟩ := c_hears hW (L := L ++ [60] ++ (skp A w x).2) (by simp; omega) k2 hw (v := 2) (by decide) 2 4
    refine ⟨P3, ?_, ?_⟩
    · show hmb_X0_keeps (hm_X0_keeps 7) _ _ _ _ _ = _
      unfold hmb_X0_keeps
      rw [if_neg (show ¬ nI 5 = 0 by decide), if_neg (show ¬ nI 5 = 1 by decide), if_pos (show nI 5 = 5 from rfl)]
      simp only [ck_t, nn_s, bd_s, lt_t, e1', h.k8, k1.k8, k2.k8, show (5 : Int32) = nI 5 from rfl, c_ka P1 (show 5 < 7 by decide), c_ka P2 (show 5 < 7 by decide), show kab 5 = 2 from rfl, e2', e3]
      rfl
    · have : L ++ [60] ++ (skp A w x).2 ++ (hK A w 2 2).2 = L ++ (60 :: ((skp A w x).2 ++ [30, 10])) := by
        rw [List.append_assoc, List.append_assoc]
        rfl
      rw [this] at k3
      exact k3
  · obtain ⟨P', e, h'⟩ := c_k1 hW (by omega) h hw x 5
    exact ⟨P', c_kdef (by decide) (by decide) (by decide) (by decide) rfl h.k8 e h'.k8, h'⟩
theorem c_t0 (hW : WF A) {L : List Nat} (hL : L.length < 50) (h : CC t0 ad (bap A L) P) (hw : w < aN A) (x : Int32) (d : Nat) : ∃ P', hm_X0_tells (d + 1) P (ad 8) (ad (50 + w)) (nI 0) x = some ((ptl A w x).1, P') ∧ CC t0 ad (bap A (L ++ (ptl A w x).2)) P' := by
  obtain ⟨P1, e1, k1⟩ := c_beg (b := 12) (by omega) h
  have e1' : hm_X0_begin P (ad 8) 12 = _ := e1
  obtain ⟨i1, i2, i3, -⟩ := k1.wb hW hw
  obtain ⟨P2, e2, k2⟩ := c_kw hW (L := L ++ [12]) (by simp; omega) k1 hw x
  refine ⟨P2, ?_, by rw [List.append_assoc] at k2; exact k2⟩
  show hmb_X0_tells _ _ _ _ _ _ = _
  unfold hmb_X0_tells
  rw [if_pos (show nI 0 = 0 from rfl)]
  simp only [ck_t, nn_s, bd_s, lt_t, e1', h.k8, k1.k8, i1, i3, e2]
  rfl
theorem c_tdef {v u : Nat} (hv : v < 7) (h0 : v ≠ 0) (h2 : v ≠ 2) (h4 : v ≠ 4) (h6 : v ≠ 6) (hu : kab v = u) (h8 : kk P (ad 8) 1 = true) {x r : Int32} {P' : PS} {d : Nat} (e : hm_X0_tells d P (ad 8) (ad (50 + w)) (nI u) x = some (r, P')) : hm_X0_tells (d + 1) P (ad 8) (ad (50 + w)) (nI v) x = some (r, P') := by
  have n0 : ¬ nI v = 0 := by rw [q0, ne_n (by omega) (by decide)]; exact h0
  have n2 : ¬ nI v = 2 := by rw [q2, ne_n (by omega) (by decide)]; exact h2
  have n4 : ¬ nI v = 4 := by rw [q4, ne_n (by omega) (by decide)]; exact h4
  have n6 : ¬ nI v = 6 := by rw [q6, ne_n (by omega) (by decide)]; exact h6
  show hmb_X0_tells (hm_X0_tells d) _ _ _ _ _ = _
  unfold hmb_X0_tells hm_X0_tells_142
  rw [if_neg n0, if_neg n2, if_neg n4, if_neg n6]
  simp only [ck_t, nn_s, bd_s, lt_t, c_ka P hv, hu, e, h8]
theorem c_tw (hW : WF A) {L : List Nat} (hL : L.length < 30) (h : CC t0 ad (bap A L) P) (hw : w < aN A) (x : Int32) : ∃ P', hm_X0_tells 8 P (ad 8) (ad (50 + w)) (nI (aK A w)) x = some ((tlv A w x).1, P') ∧ CC t0 ad (bap A (L ++ (tlv A w x).2)) P' := by
  have hv := wfK hW hw
  have hpl := ptl_len (A := A) w x
  have hkl := kpv_len (A := A) w x
  have h1 : ∀ {L : List Nat} {P : PS} (d : Nat), L.length < 50 → CC t0 ad (bap A L) P → ∃ P', hm_X0_tells (d + 2) P (ad 8) (ad (50 + w)) (nI 1) x = some ((ptl A w x).1, P') ∧ CC t0 ad (bap A (L ++ (ptl A w x).2)) P' := by
    intro L P d hL h
    obtain ⟨P', e, h'⟩ := c_t0 hW hL h hw x d
    exact ⟨P', c_tdef (by decide) (by decide) (by decide) (by decide) (by decide) rfl h.k8 e, h'⟩
  have h2 : ∀ d, ∃ P', hm_X0_tells (d + 3) P (ad 8) (ad (50 + w)) (nI 2) x = some ((ptl A w x).1 + (kpv A w 1).1, P') ∧ CC t0 ad (bap A (L ++ (31 :: ((ptl A w x).2 ++ (kpv A w 1).2)))) P' := by
    intro d
    obtain ⟨P1, e1, k1⟩ := c_beg (b := 31) (by omega) h
    have e1' : hm_X0_begin P (ad 8) 31 = _ := e1
    obtain ⟨P2, e2, k2⟩ := h1 (L := L ++ [31]) d (by simp; omega) k1
    obtain ⟨i1, i2, i3, -⟩ := k2.wb hW hw
    obtain ⟨P3, e3, k3⟩ := c_kw hW (L := L ++ [31] ++ (ptl A w x).2) (by simp; omega) k2 hw 1
    refine ⟨P3, ?_, ?_⟩
    · show hmb_X0_tells (hm_X0_tells (d + 2)) _ _ _ _ _ = _
      unfold hmb_X0_tells
      rw [if_neg (show ¬ nI 2 = 0 by decide), if_pos (show nI 2 = 2 from rfl)]
      simp only [ck_t, nn_s, bd_s, lt_t, e1', h.k8, k1.k8, k2.k8, show (2 : Int32) = nI 2 from rfl, c_ka P1 (show 2 < 7 by decide), show kab 2 = 1 from rfl, e2, i1, i3, e3]
    · rw [List.append_assoc, List.append_assoc] at k3
      exact k3
  unfold tlv
  have hka : aK A w = aK A w := rfl
  have hcase : aK A w = 0 ∨ aK A w = 1 ∨ aK A w = 2 ∨ aK A w = 3 ∨ aK A w = 4 ∨ aK A w = 5 ∨ aK A w = 6 := by omega
  rcases hcase with z | z | z | z | z | z | z
  all_goals rw [z]
  · exact c_t0 hW (by omega) h hw x 7
  · exact h1 6 (by omega) h
  · exact h2 5
  · obtain ⟨P', e, h'⟩ := c_t0 hW (by omega) h hw x 6
    exact ⟨P', c_tdef (by decide) (by decide) (by decide) (by decide) (by decide) rfl h.k8 e, h'⟩
  · obtain ⟨P1, e1, k1⟩ := c_beg (b := 50) (by omega) h
    have e1' : hm_X0_begin P (ad 8) 50 = _ := e1
    obtain ⟨i1, i2, i3, -⟩ := k1.wb hW hw
    obtain ⟨P2, e2, k2⟩ := c_t0 hW (L := L ++ [50]) (by simp; omega) k1 hw (x - nI w) 6
    refine ⟨P2, ?_, by rw [List.append_assoc] at k2; exact k2⟩
    show hmb_X0_tells (hm_X0_tells 7) _ _ _ _ _ = _
    unfold hmb_X0_tells
    rw [if_neg (show ¬ nI 4 = 0 by decide), if_neg (show ¬ nI 4 = 2 by decide), if_pos (show nI 4 = 4 from rfl)]
    simp only [ck_t, nn_s, bd_s, lt_t, e1', h.k8, k1.k8, show (4 : Int32) = nI 4 from rfl, c_ka P1 (show 4 < 7 by decide), show kab 4 = 0 from rfl, i1, i2, e2]
    rfl
  · obtain ⟨P', e, h'⟩ := h2 4
    exact ⟨P', c_tdef (by decide) (by decide) (by decide) (by decide) (by decide) rfl h.k8 e, h'⟩
  · obtain ⟨P1, e1, k1⟩ := c_beg (b := 70) (by omega) h
    have e1' : hm_X0_begin P (ad 8) 70 = _ := e1
    obtain ⟨i1, i2, i3, -⟩ := k1.wb hW hw
    obtain ⟨P2, e2, k2⟩ := c_kw hW (L := L ++ [70]) (by simp; omega) k1 hw x
    obtain ⟨P3, e3, k3⟩ := h1 (L := L ++ [70] ++ (kpv A w x).2) 5 (by simp; omega) k2
    refine ⟨P3, ?_, ?_⟩
    · show hmb_X0_tells (hm_X0_tells 7) _ _ _ _ _ = _
      unfold hmb_X0_tells
      rw [if_neg (show ¬ nI 6 = 0 by decide), if_neg (show ¬ nI 6 = 2 by decide), if_neg (show ¬ nI 6 = 4 by decide), if_pos (show nI 6 = 6 from rfl)]
      simp only [ck_t, nn_s, bd_s, lt_t, e1', h.k8, k1.k8, k2.k8, i1, i3, e2, show (6 : Int32) = nI 6 from rfl, c_ka P2 (show 6 < 7 by decide), show kab 6 = 1 from rfl, e3]
      rfl
    · rw [List.append_assoc, List.append_assoc] at k3
      exact k3
theorem cu_act (hW : WF A) (h : CC t0 ad A P) (a b x : Int32) : ∃ P', hm_X8_act P (ad 0) a b x = some ((sAct A a b x).1, P') ∧ CC t0 ad (sAct A a b x).2 P' := by
  have hN := wfN hW
  have f : frI ad A P (pIu P (ad 8) 1 0) (fun i => i = 8) := h.fI (lv_i (by decide)) rfl
  have h0 : CC t0 ad (bap A []) (pIu P (ad 8) 1 0) := by
    obtain ⟨h1, h2, h3, h4, h5, h6, h7, h8, h9, h10, h11⟩ := h
    refine ⟨h1.fI f, h2.fI f (fun p hp => by omega), h3.fI f (by omega) (fun w hw => ⟨by omega, by omega⟩), h4.fI f (by omega) (fun i hi => by omega), h5.fI f (by omega) (by omega), h6.fI f (by omega), h7.fI f (fun t ht => by omega), ⟨?_, fun i _ hi => absurd hi (Nat.not_lt_zero _)⟩, h9.fI f (by omega), h10.fI f, h11.fI f⟩
    rw [pIu_eq]
    rfl
  have hW0 : WF (bap A []) := bap_WF hW (by decide)
  obtain ⟨-, -, -, -, -, -, -, f7, -⟩ := h.r
  obtain ⟨-, -, -, -, -, -, -, f7', -⟩ := h0.r
  have hwa := c_wordAt hW0 h0 a
  have hwa' : hm_X8_wordAt (pIu P (ad 8) 1 0) (ad 0) a = some ((ix (aN A) a).map (fun w => ad (50 + w)), pIu P (ad 8) 1 0) := hwa
  unfold hm_X8_act sAct
  simp only [ck_t, nn_s, bd_s, lt_t, h.k0, f7, h.k8, hwa', pIu_kk, pIu_R]
  cases h1 : ix (aN A) a with
  | none => exact ⟨_, rfl, h0⟩
  | some w =>
  obtain ⟨hw, rfl⟩ := ix_s (by omega) h1
  obtain ⟨i1, i2, i3, -⟩ := h0.wb hW hw
  have k8 := h0.k8
  have i1' : kk P (ad (50 + w)) 8 = true := i1
  simp only [Option.map_some, nlS, i1', i3, ck_t]
  cases h2 : ix 3 b with
  | none =>
    have hne : ∀ c : Nat, c < 3 → ¬ b = nI c := by
      intro c hc z
      rw [z, ix_i hc (by decide)] at h2
      cases h2
    rw [if_neg (show ¬ b = 0 from hne 0 (by decide)), if_neg (show ¬ b = 1 from hne 1 (by decide)), if_neg (show ¬ b = 2 from hne 2 (by decide))]
    exact ⟨_, rfl, h0⟩
  | some q =>
    obtain ⟨hq, rfl⟩ := ix_s (by decide) h2
    have hc : q = 0 ∨ q = 1 ∨ q = 2 := by omega
    rcases hc with rfl | rfl | rfl
    · obtain ⟨P', e, h'⟩ := c_hw hW (L := []) (by decide) h0 hw x
      refine ⟨P', ?_, h'⟩
      rw [if_pos (show nI 0 = 0 from rfl), e]
      rfl
    · obtain ⟨P', e, h'⟩ := c_kw hW (L := []) (by decide) h0 hw x
      refine ⟨P', ?_, h'⟩
      rw [if_neg (show ¬ nI 1 = 0 by decide), if_pos (show nI 1 = 1 from rfl), e]
      rfl
    · obtain ⟨P', e, h'⟩ := c_tw hW (L := []) (by decide) h0 hw x
      refine ⟨P', ?_, h'⟩
      rw [if_neg (show ¬ nI 2 = 0 by decide), if_neg (show ¬ nI 2 = 1 by decide), if_pos (show nI 2 = 2 from rfl), e]
      rfl
end PCA
