section PCQ4
variable {t0 : TS} {ad : DD} {A : AA} {P : PS} {e sh ju B s l w : Nat}
theorem cnf0 (n : Nat) : cn (fun _ => false) n = 0 := by
  induction n with
  | zero => rfl
  | succ n ih =>
    show cn (fun _ => false) n + 0 = 0
    rw [ih]
theorem pcn_0 : pcn A 0 = fun _ => 0 := by
  funext p
  unfold pcn
  have : (fun w => (0 : Nat).testBit w && (aB A w == p)) = fun _ => false := by
    funext w
    rw [Nat.zero_testBit, Bool.false_and]
  rw [this]
  exact cnf0 14
theorem pcn_w {w : Nat} (hw : w < 14) : pcn A (2 ^ w) = fun p => if p = aB A w then 1 else 0 := by
  funext p
  unfold pcn
  by_cases q : p = aB A w
  · subst q
    rw [if_pos rfl]
    have := cn_bit (f := fun _ => false) (k := w) (n := 14) hw rfl
    rw [cnf0] at this
    refine Eq.trans (cn_cong (fun i _ => ?_)) this
    rw [Nat.testBit_two_pow]
    by_cases c : w = i
    · subst c; simp
    · simp [c]
  · rw [if_neg q]
    refine Eq.trans (cn_cong (fun i _ => ?_)) (cnf0 14)
    rw [Nat.testBit_two_pow]
    by_cases c : w = i
    · subst c; simp [Ne.symm q]
    · simp [c]
theorem tst_ban {v v' : VV} (h1 : v.1 = v'.1) (h3 : v.2.2.1 = v'.2.2.1) {w e t : Nat} : tst A v w e t = tst A v' w e t := by
  unfold tst
  rw [h1, h3]
theorem evl_ban {v v' : VV} (h1 : v.1 = v'.1) (h3 : v.2.2.1 = v'.2.2.1) {w e : Nat} : ∀ {ts : List Nat} {st : List Bool}, evl A v w e ts st = evl A v' w e ts st
  | [], _ => rfl
  | t :: ts, st => by
    show evl A v w e ts (stp A v w e t st) = evl A v' w e ts (stp A v' w e t st)
    have : stp A v w e t st = stp A v' w e t st := by
      unfold stp
      rw [tst_ban h1 h3]
    rw [this, evl_ban h1 h3]
theorem kpr_ban {v v' : VV} (h1 : v.1 = v'.1) (h2 : v.2.1 = v'.2.1) (h3 : v.2.2.1 = v'.2.2.1) {w e l : Nat} : kpr A v w e l = kpr A v' w e l := by
  have hh : ∀ c, hc A v w e c = hc A v' w e c := fun c => by unfold hc hld; rw [evl_ban h1 h3]
  have hf : hc A v w e = hc A v' w e := funext hh
  unfold kpr kps anyS lcks
  rw [hf, h1, h2]
theorem hpE_ban (hW : WF A) {v : VV} {sh ju : Nat} {c : Nat → Nat} {ban : Nat → Bool} (hv : v = (sh, ju, c, ban)) {among : Nat} (ha : ∀ i, i < aN A → among.testBit i = !ban i) : ∀ n, n ≤ aN A → hpE A (sh, ju, c, fun _ => false) l among n = msk (hrd A v l) n
  | 0, _ => rfl
  | n + 1, hn => by
    have ih := hpE_ban hW hv ha n (by omega)
    have hn' : n < aN A := by omega
    have key : (among.testBit n && decide (sd (mkl (aP A n)) (hpE A (sh, ju, c, fun _ => false) l among n) = 0) && (kpr A (sh, ju, c, fun _ => false) n 0 l).isNone) = hrd A v l n := by
      rw [hrd_eq v l n (wfP hW hn')]
      unfold hb1
      rw [ha n hn', ih]
      have e1 : v.2.2.2 n = ban n := by rw [hv]
      have e2 : kpr A (sh, ju, c, fun _ => false) n 0 l = kpr A v n 0 l := kpr_ban (by rw [hv]) (by rw [hv]) (by rw [hv])
      rw [e1, e2]
      congr 2
      apply Bool.eq_iff_iff.mpr
      rw [decide_eq_true_iff, sd_all, List.all_eq_true]
      constructor
      · intro z p hp
        have := z p hp
        rw [msk_t, Bool.and_eq_true] at this
        exact this.2
      · intro z p hp
        rw [msk_t, decide_eq_true (wfP hW hn' p hp), z p hp]
        rfl
    show (if _ then _ else _) = _
    rw [key, ih]
    cases q : hrd A v l n with
    | true => rw [if_pos rfl]; exact msk_or (hrd A v l) n q
    | false => rw [if_neg (by decide)]; exact (msk_no (hrd A v l) n q).symm
theorem c_fol (hW : WF A) (h : CC t0 ad A P) {m : Nat} (hm : m < 2 ^ aN A) : ∀ (n k fuel : Nat), k + n = aN A → n < fuel → hm_X8_factsOf_4L fuel (ad 0) (nI m) (nI (fcs A m.testBit k)) (nI k) P = some (nI (fcs A m.testBit (aN A)), P) := by
  have hN := wfN hW
  have hm14 := pw14 hN hm
  obtain ⟨-, f1, -⟩ := h.r
  have ls := h.ws
  intro n
  induction n with
  | zero =>
    intro k fuel hk hf
    obtain ⟨fu, rfl⟩ : ∃ fu, fuel = fu + 1 := ⟨fuel - 1, by omega⟩
    obtain rfl : k = aN A := by omega
    have hle : nI (aN A) ≤ nI (aN A) := by rw [le_n (by omega) (by omega)]; exact Nat.le_refl _
    show hm_X8_factsOf_4 _ _ _ _ _ _ = _
    unfold hm_X8_factsOf_4
    simp only [ck_t, nn_s, bd_s, lt_t, h.k0, f1, ls.k, ls.sz, if_pos hle]
  | succ n ih =>
    intro k fuel hk hf
    obtain ⟨fu, rfl⟩ : ∃ fu, fuel = fu + 1 := ⟨fuel - 1, by omega⟩
    have hk' : k < aN A := (by omega); have hle : ¬ nI (aN A) ≤ nI k := by rw [le_n (by omega) (by omega)]; omega
    have ih' := ih (k + 1) fu (by omega) (by omega)
    have e1 : nI k + (1 : Int32) = nI (k + 1) := by rw [q1, nI_add]
    obtain ⟨-, -, -, w4, -⟩ := h.w hk'
    have eh := c_has P (a := m) (k := k) (by omega) (by omega)
    have hs : fcs A m.testBit (k + 1) = fcs A m.testBit k ||| (if m.testBit k = true then aF A k else 0) := rfl
    rw [hs] at ih'
    show hm_X8_factsOf_4 _ _ _ _ _ _ = _
    unfold hm_X8_factsOf_4 hm_X8_factsOf_40
    simp only [ck_t, nn_s, bd_s, lt_t, h.k0, f1, ls.k, ls.sz, if_neg hle, ls.gt hk', h.kW hN hk', eh, w4, e1, or_n]
    cases q : m.testBit k with
    | false =>
      rw [q, if_neg (by decide), Nat.or_zero] at ih'
      rw [if_pos (show nI false.toNat = 0 from rfl)]
      exact ih'
    | true =>
      rw [q, if_pos rfl] at ih'
      rw [if_neg (show ¬ nI true.toNat = 0 by decide)]
      exact ih'
theorem c_fo (hW : WF A) (h : CC t0 ad A P) {m : Nat} (hm : m < 2 ^ aN A) : hm_X8_factsOf P (ad 0) (nI m) = some (nI (fcs A m.testBit (aN A)), P) := by
  unfold hm_X8_factsOf
  rw [lt_t, lt_t]
  exact c_fol hW h hm (aN A) 0 4000 (by omega) (by have := wfN hW; omega)
theorem c_pwl (hW : WF A) {ban : Nat → Bool} (hl : l < 2) {among : Nat} (hal : among < 2 ^ aN A) (ha : ∀ i, i < aN A → among.testBit i = !ban i) : ∀ (f x sh fuel : Nat) (P : PS), CC t0 ad A P → x + f = 11 → f < fuel → sh < 1024 → ∃ P', hm_X8_provedWithout_21L fuel (ad 0) (nI l) (nI sh) (nI among) (nI x) P = some (nI (prv A (sh, aJu A, (fun _ => 0), ban) l f sh), P') ∧ CC t0 ad A P' := by
  have hN := wfN hW
  intro f
  induction f with
  | zero =>
    intro x sh fuel P h hx hf hsh
    obtain ⟨fu, rfl⟩ : ∃ fu, fuel = fu + 1 := ⟨fuel - 1, by omega⟩
    obtain rfl : x = 11 := by omega
    exact ⟨P, rfl, h⟩
  | succ f ih =>
    intro x sh fuel P h hx hf hsh
    obtain ⟨fu, rfl⟩ : ∃ fu, fuel = fu + 1 := ⟨fuel - 1, by omega⟩
    obtain ⟨-, -, -, -, f4, -⟩ := h.r
    have hle : ¬ (10 : Int32) < nI x := by rw [q10, lt_n (by omega) (by omega)]; omega
    have h' := h.sup (nI sh) (nI (aJu A)) 0
    have hsv : SVw A (sup ad P (nI sh) (nI (aJu A)) 0) (ad 6) sh (aJu A) 0 := c_supv h hsh (wfJ' hW) (Nat.two_pow_pos _)
    have hv : vS A sh (aJu A) 0 = (sh, aJu A, (fun _ => 0), fun _ => false) := by
      unfold vS
      rw [pcn_0]
    have hp := c_hp hW h' hsv hl hal
    rw [hv, hpE_ban hW (v := (sh, aJu A, (fun _ => 0), ban)) rfl ha (aN A) (Nat.le_refl _)] at hp
    have hfo := c_fo hW h' (m := msk (hrd A (sh, aJu A, (fun _ => 0), ban) l) (aN A)) (msk_lt _ _)
    have hfc : fcs A (msk (hrd A (sh, aJu A, (fun _ => 0), ban) l) (aN A)).testBit (aN A) = fcs A (hrd A (sh, aJu A, (fun _ => 0), ban) l) (aN A) := fcs_cong (fun i hi => by rw [msk_t, decide_eq_true hi, Bool.true_and])
    rw [hfc] at hfo
    have hpl := pst_lt hW (v := (sh, aJu A, (fun _ => 0), ban)) (l := l) hsh
    have e1 : nI x + (1 : Int32) = nI (x + 1) := by rw [q1, nI_add]
    have hps : sh ||| fcs A (hrd A (sh, aJu A, (fun _ => 0), ban) l) (aN A) = pst A (sh, aJu A, (fun _ => 0), ban) l := rfl
    have hprv : prv A (sh, aJu A, (fun _ => 0), ban) l (f + 1) sh = if pst A (sh, aJu A, (fun _ => 0), ban) l = sh then sh else prv A (sh, aJu A, (fun _ => 0), ban) l f (pst A (sh, aJu A, (fun _ => 0), ban) l) := rfl
    obtain ⟨P', e2, h2⟩ := ih (x + 1) (pst A (sh, aJu A, (fun _ => 0), ban) l) fu (sup ad P (nI sh) (nI (aJu A)) 0) h' (by omega) (by omega) hpl
    have hpp : ∀ g a b, prv A (a, aJu A, (fun _ => 0), ban) l g b = prv A (sh, aJu A, (fun _ => 0), ban) l g b := by
      intro g
      induction g with
      | zero => intro a b; rfl
      | succ g ihg =>
        intro a b
        show (if pst A (b, aJu A, (fun _ => 0), ban) l = b then b else prv A (a, aJu A, (fun _ => 0), ban) l g (pst A (b, aJu A, (fun _ => 0), ban) l)) = if pst A (b, aJu A, (fun _ => 0), ban) l = b then b else prv A (sh, aJu A, (fun _ => 0), ban) l g (pst A (b, aJu A, (fun _ => 0), ban) l)
        rw [ihg]
    rw [hpp] at e2
    have hcond : nI (pst A (sh, aJu A, (fun _ => 0), ban) l) = nI sh ↔ pst A (sh, aJu A, (fun _ => 0), ban) l = sh := by rw [ne_n (by omega) (by omega)]
    rw [hprv]
    show ∃ P', hm_X8_provedWithout_21 _ _ _ _ _ _ _ = _ ∧ _
    unfold hm_X8_provedWithout_21
    simp only [if_neg hle, ck_t, nn_s, bd_s, lt_t, h.k0, h'.k0, f4, h.k5, h.now.2.1, c_sup h, hp, hfo, or_n, hps, e1]
    by_cases z : pst A (sh, aJu A, (fun _ => 0), ban) l = sh
    · rw [if_pos (hcond.mpr z), if_pos z]
      exact ⟨_, rfl, h'⟩
    · rw [if_neg (fun y => z (hcond.mp y)), if_neg z]
      exact ⟨P', e2, h2⟩
theorem prv_v {v : VV} {a : Nat} : ∀ {g b : Nat}, prv A (a, v.2) l g b = prv A v l g b
  | 0, _ => rfl
  | g + 1, b => by
    show (if pst A (b, v.2) l = b then b else prv A (a, v.2) l g (pst A (b, v.2) l)) = if pst A (b, v.2) l = b then b else prv A v l g (pst A (b, v.2) l)
    rw [prv_v]
theorem c_pw (hW : WF A) (h : CC t0 ad A P) (hl : l < 2) {b : Nat} (hb : b < 2 ^ 14) {ban : Nat → Bool} (ha : ∀ i, i < aN A → b.testBit i = ban i) : ∃ P', hm_X8_provedWithout P (ad 0) (nI b) (nI l) = some (nI (prv A (aSh A, aJu A, (fun _ => 0), ban) l 11 (aSh A)), P') ∧ CC t0 ad A P' := by
  have hN := wfN hW
  obtain ⟨-, -, -, -, f4, -⟩ := h.r
  have hal : sd (allm A) b < 2 ^ aN A := Nat.lt_of_le_of_lt (sd_le _ _) allm_lt
  obtain ⟨P', e, h'⟩ := c_pwl (t0 := t0) (ad := ad) hW hl hal (ban := ban) (fun i hi => by rw [sd_t, allm_t, decide_eq_true hi, ha i hi, Bool.true_and]) 11 0 (aSh A) 4000 P h rfl (by decide) (wfS hW)
  refine ⟨P', ?_, h'⟩
  unfold hm_X8_provedWithout
  simp only [ck_t, nn_s, bd_s, lt_t, h.k0, f4, h.k5, h.now.1, c_all hW h, sd_n]
  exact e
theorem cq_proved (hW : WF A) (h : CC t0 ad A P) (a : Int32) : ∃ P', hm_X8_proved P (ad 0) a = some (sProved A a, P') ∧ CC t0 ad A P' := by
  unfold hm_X8_proved sProved
  simp only [ck_t, nn_s, bd_s, lt_t, show (2 : Int32) = nI 2 from rfl, c_within P a (show 2 < 2 ^ 31 by decide)]
  cases h3 : ix 2 a with
  | none => exact ⟨P, rfl, h⟩
  | some l =>
  obtain ⟨hl, rfl⟩ := ix_s (by decide) h3
  obtain ⟨P', e, h'⟩ := c_pw hW h hl (b := 0) (by decide) (ban := fun _ => false) (fun i _ => Nat.zero_testBit i)
  have e' : hm_X8_provedWithout P (ad 0) 0 (nI l) = _ := e
  have n1 : ¬ nI (Option.isSome (some l)).toNat = 0 := by show ¬ nI 1 = 0; decide
  refine ⟨P', ?_, h'⟩
  simp only [if_neg n1, e', ck_t, nn_s, bd_s, lt_t, h.k0]
  rfl
theorem c_ndl (hW : WF A) {f : Nat} (hf0 : f < 1024) (hl : l < 2) : ∀ (n k fuel : Nat) (P : PS), CC t0 ad A P → k + n = aN A → n < fuel → ∃ P', hm_X8_needed_44L fuel (ad 0) (nI f) (nI l) (nI (msk (ndd A f l) k)) (nI k) P = some (nI (msk (ndd A f l) (aN A)), P') ∧ CC t0 ad A P' := by
  have hN := wfN hW
  intro n
  induction n with
  | zero =>
    intro k fuel P h hk hf
    obtain ⟨fu, rfl⟩ : ∃ fu, fuel = fu + 1 := ⟨fuel - 1, by omega⟩
    obtain rfl : k = aN A := by omega
    obtain ⟨-, f1, -⟩ := h.r
    have ls := h.ws
    have hle : nI (aN A) ≤ nI (aN A) := by rw [le_n (by omega) (by omega)]; exact Nat.le_refl _
    refine ⟨P, ?_, h⟩
    show hm_X8_needed_44 _ _ _ _ _ _ _ = _
    unfold hm_X8_needed_44
    simp only [ck_t, nn_s, bd_s, lt_t, h.k0, f1, ls.k, ls.sz, if_pos hle]
  | succ n ih =>
    intro k fuel P h hk hf
    obtain ⟨fu, rfl⟩ : ∃ fu, fuel = fu + 1 := ⟨fuel - 1, by omega⟩
    have hk' : k < aN A := (by omega); have hle : ¬ nI (aN A) ≤ nI k := by rw [le_n (by omega) (by omega)]; omega
    obtain ⟨-, f1, -⟩ := h.r
    have ls := h.ws
    have e1 : nI k + (1 : Int32) = nI (k + 1) := by rw [q1, nI_add]
    have e9 : (1 : Int32) <<< (nI k &&& 31) = nI (2 ^ k) := shl_n (by omega)
    obtain ⟨P1, e2, h1⟩ := c_pw hW h hl (b := 2 ^ k) (Nat.pow_lt_pow_right (by decide) (by omega)) (ban := fun x => decide (x = k)) (fun i _ => by rw [Nat.testBit_two_pow]; exact decide_eq_decide.mpr eq_comm)
    obtain ⟨P2, e3, h2⟩ := ih (k + 1) fu P1 h1 (by omega) (by omega)
    refine ⟨P2, ?_, h2⟩
    have hsl := sd_le f (prv A (vb A k) l 11 (aSh A))
    have hsd : nI (sd f (prv A (vb A k) l 11 (aSh A))) = 0 ↔ ndd A f l k = false := by
      rw [q0, ne_n (by omega) (by decide)]
      unfold ndd
      constructor
      · intro z; simp [z]
      · intro z
        have := of_decide_eq_false z
        omega
    show hm_X8_needed_44 _ _ _ _ _ _ _ = _
    unfold hm_X8_needed_44 hm_X8_needed_79
    simp only [ck_t, nn_s, bd_s, lt_t, h.k0, f1, ls.k, ls.sz, if_neg hle, e9, e2, sd_n, e1]
    show (if nI (sd f (prv A (vb A k) l 11 (aSh A))) = 0 then _ else _) = _
    cases q : ndd A f l k with
    | false =>
      rw [msk_no (ndd A f l) k q] at e3
      rw [if_pos (hsd.mpr q)]
      exact e3
    | true =>
      rw [if_neg (fun z => by rw [hsd.mp z] at q; cases q), acc_t (f := ndd A f l) q]
      exact e3
theorem cq_needed (hW : WF A) (h : CC t0 ad A P) (a b : Int32) : ∃ P', hm_X8_needed P (ad 0) a b = some (sNeeded A a b, P') ∧ CC t0 ad A P' := by
  unfold hm_X8_needed sNeeded
  simp only [ck_t, nn_s, bd_s, lt_t, show (2 : Int32) = nI 2 from rfl, show (1024 : Int32) = nI 1024 from rfl, c_within P b (show 2 < 2 ^ 31 by decide), c_within P a (show 1024 < 2 ^ 31 by decide)]
  cases h3 : ix 2 b with
  | none => exact ⟨P, rfl, h⟩
  | some l =>
  cases h4 : ix 1024 a with
  | none => exact ⟨P, rfl, h⟩
  | some f =>
  obtain ⟨hl, rfl⟩ := ix_s (by decide) h3
  obtain ⟨hf, rfl⟩ := ix_s (by decide) h4
  obtain ⟨P1, e, h1⟩ := c_pw hW h hl (b := 0) (by decide) (ban := fun _ => false) (fun i _ => Nat.zero_testBit i)
  have e' : hm_X8_provedWithout P (ad 0) 0 (nI l) = _ := e
  obtain ⟨P2, e2, h2⟩ := c_ndl hW hf hl (aN A) 0 4000 P1 h1 (by omega) (by have := wfN hW; omega)
  have n1 : ¬ nI (Option.isSome (some l)).toNat = 0 := by show ¬ nI 1 = 0; decide
  have n2 : ¬ nI (Option.isSome (some f)).toNat = 0 := by show ¬ nI 1 = 0; decide
  simp only [if_neg n1, if_neg n2, e', ck_t, nn_s, bd_s, lt_t, h.k0, sd_n]
  have hsl := sd_le f (prv A (v0 A) l 11 (aSh A))
  have hsd : nI (sd f (prv A (v0 A) l 11 (aSh A))) = 0 ↔ sd f (prv A (v0 A) l 11 (aSh A)) = 0 := by rw [q0, ne_n (by omega) (by decide)]
  show ∃ P', (if nI (sd f (prv A (v0 A) l 11 (aSh A))) = 0 then _ else _) = some ((if sd f (prv A (v0 A) l 11 (aSh A)) ≠ 0 then -5 else nI (msk (ndd A f l) (aN A))), P') ∧ _
  by_cases z : sd f (prv A (v0 A) l 11 (aSh A)) = 0
  · rw [if_pos (hsd.mpr z), if_neg (fun y => y z)]
    exact ⟨P2, e2, h2⟩
  · rw [if_neg (fun y => z (hsd.mp y)), if_pos z]
    exact ⟨P1, rfl, h1⟩
theorem cq_opened (hW : WF A) (h : CC t0 ad A P) (a b : Int32) : ∃ P', hm_X8_opened P (ad 0) a b = some (sOpened A a b, P') ∧ CC t0 ad A P' := by
  have hN := wfN hW
  have hsv := c_nowv hW h
  obtain ⟨-, -, -, -, f4, -⟩ := h.r
  unfold hm_X8_opened hm_X8_opened_18 sOpened
  simp only [ck_t, nn_s, bd_s, lt_t, c_wordAt hW h, h.k0, show (2 : Int32) = nI 2 from rfl, c_within P b (show 2 < 2 ^ 31 by decide)]
  cases h1 : ix (aN A) a with
  | none => exact ⟨P, rfl, h⟩
  | some w =>
  cases h3 : ix 2 b with
  | none => exact ⟨P, rfl, h⟩
  | some l =>
  obtain ⟨hw, rfl⟩ := ix_s (by omega) h1
  obtain ⟨hl, rfl⟩ := ix_s (by decide) h3
  have n1 : ¬ nI (Option.isSome (some l)).toNat = 0 := by show ¬ nI 1 = 0; decide
  have p0 := c_hpa hW h hsv hl
  rw [vS_0] at p0
  have hml := msk_lt (hrd A (v0 A) l) (aN A)
  have hm14 := pw14 hN hml
  have eh := c_has P (a := msk (hrd A (v0 A) l) (aN A)) (k := w) (by omega) (by omega)
  rw [msk_t, decide_eq_true hw, Bool.true_and] at eh
  obtain ⟨-, -, -, w4, -⟩ := h.w hw
  have hF := wfF hW hw
  have hor := or1024 (wfS hW) hF
  have h2w : 2 ^ w < 2 ^ aN A := Nat.pow_lt_pow_right (by decide) hw
  have e9 : (1 : Int32) <<< (nI w &&& 31) = nI (2 ^ w) := shl_n (by omega)
  have h' := h.sup (nI (aSh A ||| aF A w)) (nI (aJu A)) (nI (2 ^ w))
  have hsv' := c_supv h hor (wfJ' hW) h2w
  have p1 := c_hpa hW h' hsv' hl
  have hv1 : vS A (aSh A ||| aF A w) (aJu A) (2 ^ w) = v1 A w := by
    unfold vS v1
    rw [pcn_w (show w < 14 by omega)]
  rw [hv1] at p1
  simp only [Option.map_some, nlS, if_neg n1, ck_t, nn_s, bd_s, lt_t, h.k0, h'.k0, f4, c_all hW h, c_all hW h', p0, eh, h.k5, h.now.1, h.now.2.1, h.kW hN hw, w4, or_n, e9, c_sup h, p1, sd_n]
  cases q : hrd A (v0 A) l w with
  | false =>
    rw [if_pos (show nI false.toNat = 0 from rfl), if_pos rfl]
    exact ⟨P, rfl, h⟩
  | true =>
    rw [if_neg (show ¬ nI true.toNat = 0 by decide), if_neg (by decide)]
    refine ⟨_, ?_, h'⟩
    congr 3
    apply Nat.eq_of_testBit_eq
    intro i
    rw [sd_t, msk_t, msk_t, msk_t]
    unfold opn
    cases decide (i < aN A) <;> simp
end PCQ4
