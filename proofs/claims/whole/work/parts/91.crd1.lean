-- the class: the reader, sign by sign
section PCR1
variable {t0 : TS} {P P' P'' : PS} {r b s g p q c : Nat} {T o : List Nat}
def RDR (P : PS) (r b s : Nat) (T : List Nat) : Prop := kk P r 4 = true ∧ kk P b 11 = true ∧ kk P s 12 = true ∧ pR P r 0 = some b ∧ pR P r 1 = some s ∧ pN P b = 100 ∧ pN P s = 100 ∧ pI P r 2 = nI T.length ∧ (∀ i c, T[i]? = some c → pI P b i = sx c) ∧ r ≠ b ∧ r ≠ s ∧ b ≠ s ∧ tOK T
def RFr (r s : Nat) (P P' : PS) : Prop := pR P' = pR P ∧ pJ P' = pJ P ∧ pN P' = pN P ∧ pK P' = pK P ∧ pL P' = pL P ∧ pZ P' = pZ P ∧ (∀ a, a ≠ r → a ≠ s → pI P' a = pI P a) ∧ ∀ k, k < 3 → pI P' r k = pI P r k
theorem RFr.rf : RFr r s P P := ⟨rfl, rfl, rfl, rfl, rfl, rfl, fun _ _ _ => rfl, fun _ _ => rfl⟩
theorem RFr.tr (h : RFr r s P P') (g : RFr r s P' P'') : RFr r s P P'' := ⟨g.1.trans h.1, g.2.1.trans h.2.1, g.2.2.1.trans h.2.2.1, g.2.2.2.1.trans h.2.2.2.1, g.2.2.2.2.1.trans h.2.2.2.2.1, g.2.2.2.2.2.1.trans h.2.2.2.2.2.1, fun a x y => (g.2.2.2.2.2.2.1 a x y).trans (h.2.2.2.2.2.2.1 a x y), fun k x => (g.2.2.2.2.2.2.2 k x).trans (h.2.2.2.2.2.2.2 k x)⟩
theorem RFr.k2 (h : RFr r s P P') (a c : Nat) : kk P' a c = kk P a c := by
  unfold kk
  rw [h.2.2.2.1, h.2.2.2.2.1]
theorem RFr.I {k : Nat} {v : Int32} (hk : 3 ≤ k) : RFr r s P (pIu P r k v) := ⟨rfl, rfl, rfl, rfl, rfl, rfl, fun a x _ => pIu_ne x, fun j hj => by rw [pIu_eq, upd, if_neg (by omega)]⟩
theorem RFr.S {k : Nat} {v : Int32} (h : r ≠ s) : RFr r s P (pIu P s k v) := ⟨rfl, rfl, rfl, rfl, rfl, rfl, fun a _ x => pIu_ne x, fun j hj => by rw [pIu_ne h]⟩
theorem RDR.fr (h : RDR P r b s T) (f : RFr r s P P') : RDR P' r b s T := by
  obtain ⟨h1, h2, h3, h4, h5, h6, h7, h8, h9, h10, h11, h12, h13⟩ := h
  refine ⟨(f.k2 _ _).trans h1, (f.k2 _ _).trans h2, (f.k2 _ _).trans h3, by rw [f.1]; exact h4, by rw [f.1]; exact h5, by rw [f.2.2.1]; exact h6, by rw [f.2.2.1]; exact h7, by rw [f.2.2.2.2.2.2.2 2 (by decide)]; exact h8, fun i c hc => ?_, h10, h11, h12, h13⟩
  rw [f.2.2.2.2.2.2.1 b (Ne.symm h10) h12]
  exact h9 i c hc
def fsm (o : List Nat) : Nat := msk (fun f => o.contains (190 + f)) 10
def RQ (P : PS) (r s g p : Nat) (o : List Nat) : Prop := pI P r 3 = nI p ∧ pI P r 4 = 0 ∧ pI P r 5 = nI o.length ∧ pI P r 6 = nI (g ||| fsm o) ∧ ∀ i t, o[i]? = some t → pI P s i = nI t
def RF (P : PS) (r p c : Nat) : Prop := pI P r 3 = nI p ∧ pI P r 4 = 1 ∧ pI P r 5 = nI c
-- what a reading gives: on with the steps, or a fault with at most so many steps
def RX (P : PS) (r s g n : Nat) : RS → Prop
  | (q, some o) => RQ P r s g q o
  | (q, none) => ∃ c, c ≤ n ∧ RF P r q c
theorem sx255 : ∀ c, c < 256 → sx c &&& (255 : Int32) = nI c := by decide +kernel
theorem c_peekf (h : RDR P r b s T) (hf : RF P r p c) : hm_X3_peek P r = some (-1, P) := by
  unfold hm_X3_peek hm_X3_peek_41 hm_X3_peek_42
  rw [h.1, ck_t, hf.2.1, if_neg (show ¬ (1 : Int32) = 0 by decide), if_pos rfl]
def nxc (T : List Nat) (p : Nat) : Int32 := oI T[p]?
theorem c_peek (h : RDR P r b s T) (h3 : pI P r 3 = nI p) (h4 : pI P r 4 = 0) (hp : p ≤ T.length) : hm_X3_peek P r = some (nxc T p, P) := by
  obtain ⟨a1, a2, a3, a4, a5, a6, a7, a8, a9, -, -, -, a10, a11⟩ := h
  unfold hm_X3_peek hm_X3_peek_41 hm_X3_peek_42 nxc
  rw [a1, ck_t, h4, if_pos rfl, a8, h3]
  rcases Nat.lt_or_ge p T.length with c | c
  · have e : T[p]? = some T[p] := List.getElem?_eq_getElem c
    have hle : ¬ nI T.length ≤ nI p := by rw [le_n (by omega) (by omega)]; omega
    have hneg : ¬ nI p < 0 := nI_pos (n := p) (by omega)
    have h100 : ¬ nI 100 ≤ nI p := by rw [le_n (by decide) (by omega)]; omega
    have hv := a9 p _ e
    rw [if_neg hle, if_neg hneg, a4, nn_s, a2, ck_t, a6, if_neg h100, if_neg (show ¬ (1 : Int32) = 0 by decide), ck_t, nn_s, a2, ck_t, vin_n (by omega), a6, decide_eq_true (show p < 100 by omega), ck_t, nI_clamp (by omega), hv, sx255 _ (a11 _ (List.getElem_mem c)), e]
    rfl
  · rw [if_pos (by rw [le_n (by omega) (by omega)]; exact c), if_pos rfl, List.getElem?_eq_none c]
    rfl
theorem oI_c {x : Nat} (hx : x < 256) {i : Option Nat} (hi : ∀ c, i = some c → c < 256) : (oI i = nI x) = (i = some x) := by
  cases i with
  | none =>
    apply propext
    constructor
    · intro z
      have z' : (-1 : Int32) = nI x := z
      exfalso
      have h1 : (nI x).toInt = (x : Int) := nI_toInt (by omega)
      rw [← z'] at h1
      have : (-1 : Int32).toInt = -1 := rfl
      omega
    · intro z; cases z
  | some c =>
    have := hi c rfl
    show (nI c = nI x) = _
    rw [ne_n (by omega) (by omega)]
    simp
theorem tc (h : tOK T) : ∀ c, T[p]? = some c → c < 256 := fun c hc => h.2 c (List.mem_of_getElem? hc)
theorem c_acc (h : RDR P r b s T) (h3 : pI P r 3 = nI p) (h4 : pI P r 4 = 0) (hp : p ≤ T.length) {x : Nat} (hx : x < 256) {y : Int32} (hy : y = nI x) : hm_X3_accept P r y = if T[p]? = some x then some (1, pIu P r 3 (nI (p + 1))) else some (0, P) := by
  subst hy
  have e1 : nI p + (1 : Int32) = nI (p + 1) := by rw [q1, nI_add]
  unfold hm_X3_accept
  rw [c_peek h h3 h4 hp, bd_s, h.1, ck_t]
  have := oI_c hx (i := T[p]?) (tc h.2.2.2.2.2.2.2.2.2.2.2.2)
  by_cases c : T[p]? = some x
  · rw [if_pos c, if_pos (by unfold nxc; rw [this]; exact c), h3, e1]
    rfl
  · rw [if_neg c, if_neg (by unfold nxc; rw [this]; exact c)]
theorem c_accf (h : RDR P r b s T) (hf : RF P r p c) {x : Nat} (hx : x < 256) {y : Int32} (hy : y = nI x) : hm_X3_accept P r y = some (0, P) := by
  subst hy
  unfold hm_X3_accept
  rw [c_peekf h hf, bd_s, h.1, ck_t]
  have : ¬ (-1 : Int32) = nI x := fun z => by
    have h1 : (nI x).toInt = (x : Int) := nI_toInt (by omega)
    rw [← z] at h1
    have : (-1 : Int32).toInt = -1 := rfl
    omega
  rw [if_neg this]
theorem RQ.at (h : RQ P r s g p o) (hrs : r ≠ s) : RQ (pIu P r 3 (nI q)) r s g q o := by
  obtain ⟨h1, h2, h3, h4, h5⟩ := h
  refine ⟨by rw [pIu_eq]; rfl, by rw [pIu_eq]; exact h2, by rw [pIu_eq]; exact h3, by rw [pIu_eq]; exact h4, fun i t ht => ?_⟩
  rw [pIu_ne (Ne.symm hrs)]
  exact h5 i t ht
theorem RQ.bad (h : RQ P r s g p o) : RF (pIu P r 4 1) r p o.length := by
  obtain ⟨h1, h2, h3, h4, h5⟩ := h
  exact ⟨by rw [pIu_eq]; exact h1, by rw [pIu_eq]; rfl, by rw [pIu_eq]; exact h3⟩
theorem RF.bad (h : RF P r p c) : RF (pIu P r 4 1) r p c := by
  obtain ⟨h1, h2, h3⟩ := h
  exact ⟨by rw [pIu_eq]; exact h1, by rw [pIu_eq]; rfl, by rw [pIu_eq]; exact h3⟩
-- the letters of a text
theorem c_slen (P : PS) {i : Nat} (hi : i < 11) : hm_J0_length_8abf5 P i = some (nI (strL.getD i 0), P) := by
  unfold hm_J0_length_8abf5 hm_J0_coder_7d493
  have l : lt11 i = true := decide_eq_true hi
  have b0 : isBy (0 : Int32) = true := by decide
  have z : ∀ x : Int32, x >>> ((0 : Int32) &&& 31) = x := fun x => by
    apply Int32.toBitVec_inj.mp
    show (x.toBitVec.sshiftRight' _) = _
    show x.toBitVec.sshiftRight 0 = _
    exact BitVec.sshiftRight_zero
  simp only [l, ck_t, if_neg (show ¬ (1 : Int32) = 0 by decide), b0, bd_s, z]
theorem c_chat (t0 : TS) (P : PS) : ∀ i, i < 11 → ∀ k, k < strL.getD i 0 → hm_J0_charAt_5068e t0 P i (nI k) = some ((strB.getD i []).getD k 0, P) := by
  intro i hi k hk
  have l : lt11 i = true := decide_eq_true hi
  have h10 : strL.getD i 0 ≤ 10 := by
    have : ∀ i, i < 11 → strL.getD i 0 ≤ 10 := by decide
    exact this i hi
  have hneg : ¬ nI k < 0 := nI_pos (n := k) (by omega)
  have hlt : nI k < nI (strL.getD i 0) := by rw [lt_n (by omega) (by omega)]; exact hk
  have hch : ∀ i, i < 11 → ∀ k, k < strL.getD i 0 → ((((strB.getD i []).getD k 0) &&& (255 : Int32)).toUInt32 % 65536).toInt32 = (strB.getD i []).getD k 0 ∧ isCh ((strB.getD i []).getD k 0) = true := by decide +kernel
  obtain ⟨c1, c2⟩ := hch i hi k hk
  unfold hm_J0_charAt_5068e hm_J0_isLatin1_aae02 hm_J0_isLatin1_aae02_17 hm_J1_charAt_3b067 hm_J0_checkIndex_df160 hm_J3_checkIndex_8e157
  simp only [l, ck_t, if_neg (show ¬ (1 : Int32) = 0 by decide), if_true, bd_s, if_neg hneg, if_pos hlt, vin_n (show k < 2 ^ 31 by omega), decide_eq_true hk, nI_clamp (show k < 2 ^ 31 by omega), c1, c2]
theorem c_iocl (P : PS) {i : Nat} (hi : i < 11) {x : Int32} : ∀ (n k fuel : Nat), k + n = strL.getD i 0 → n < fuel → hm_J1_indexOfChar_4cfef_7L fuel i (nI (strL.getD i 0)) x (nI k) P = some (oI ((List.range' k n).find? fun j => decide ((strB.getD i []).getD j 0 = x)), P) := by
  have l : lt11 i = true := decide_eq_true hi
  have h10 : strL.getD i 0 ≤ 10 := by
    have : ∀ i, i < 11 → strL.getD i 0 ≤ 10 := by decide
    exact this i hi
  intro n
  induction n with
  | zero =>
    intro k fuel hk hf
    obtain ⟨fu, rfl⟩ : ∃ fu, fuel = fu + 1 := ⟨fuel - 1, by omega⟩
    show hm_J1_indexOfChar_4cfef_7 _ _ _ _ _ _ = _
    unfold hm_J1_indexOfChar_4cfef_7
    rw [if_pos (by rw [le_n (by omega) (by omega)]; omega)]
    rfl
  | succ n ih =>
    intro k fuel hk hf
    obtain ⟨fu, rfl⟩ : ∃ fu, fuel = fu + 1 := ⟨fuel - 1, by omega⟩
    have hle : ¬ nI (strL.getD i 0) ≤ nI k := by rw [le_n (by omega) (by omega)]; omega
    have e1 : nI k + (1 : Int32) = nI (k + 1) := by rw [q1, nI_add]
    have ih' := ih (k + 1) fu (by omega) (by omega)
    show hm_J1_indexOfChar_4cfef_7 _ _ _ _ _ _ = _
    unfold hm_J1_indexOfChar_4cfef_7
    rw [if_neg hle, l, ck_t, vin_n (by omega), decide_eq_true (show k < strL.getD i 0 by omega), ck_t, nI_clamp (by omega), e1, lt_t, List.range'_succ, List.find?_cons]
    by_cases c : (strB.getD i []).getD k 0 = x
    · rw [if_pos c, decide_eq_true c]
      rfl
    · rw [if_neg c, decide_eq_false c]
      exact ih'
def ixS (i c : Nat) : Option Nat := (List.range' 0 (strL.getD i 0)).find? fun j => decide ((strB.getD i []).getD j 0 = (nI c).toInt8.toInt32)
theorem c_io (P : PS) {i c : Nat} (hi : i < 11) (hc : c < 256) : hm_J0_indexOf_0f7a4 P i ((nI c).toUInt32 % 65536).toInt32 = some (oI (ixS i c), P) := by
  have l : lt11 i = true := decide_eq_true hi
  have e : ((nI c).toUInt32 % 65536).toInt32 = nI c := by
    have : ∀ c, c < 256 → ((nI c).toUInt32 % 65536).toInt32 = nI c := by decide +kernel
    exact this c hc
  have hpos : 0 < strL.getD i 0 ∧ strL.getD i 0 ≤ 10 := by
    have : ∀ i, i < 11 → 0 < strL.getD i 0 ∧ strL.getD i 0 ≤ 10 := by decide
    exact this i hi
  have hneg : ¬ nI c < 0 := nI_pos (n := c) (by omega)
  have h255 : ¬ (255 : Int32) < nI c := by rw [show (255 : Int32) = nI 255 from rfl, lt_n (by decide) (by omega)]; omega
  have hlt : (0 : Int32) < nI (strL.getD i 0) := by rw [q0, lt_n (by decide) (by omega)]; omega
  have hii : (if nI (strL.getD i 0) < nI (strL.getD i 0) then nI (strL.getD i 0) else nI (strL.getD i 0)) = nI (strL.getD i 0) := by split <;> rfl
  have h00 : (if (0 : Int32) < 0 then (0 : Int32) else 0) = 0 := by split <;> rfl
  have ll := c_iocl P hi (x := (nI c).toInt8.toInt32) (strL.getD i 0) 0 4000 (by omega) (by omega)
  have ll' : hm_J1_indexOfChar_4cfef_7L 4000 i (nI (strL.getD i 0)) (nI c).toInt8.toInt32 0 P = some (oI (ixS i c), P) := ll
  unfold hm_J0_indexOf_0f7a4 hm_J0_indexOf_7cf53 hm_J0_isLatin1_aae02 hm_J0_isLatin1_aae02_17 hm_J1_indexOf_4cfef hm_J1_canEncode_9a6ad hm_J1_canEncode_9a6ad_15 hm_J1_indexOfChar_4cfef
  rw [e]
  simp only [l, ck_t, if_neg (show ¬ (1 : Int32) = 0 by decide), if_true, bd_s, c_slen P hi, if_neg hneg, if_neg h255, lt_t, hii, h00, if_pos hlt, ll']
-- pick, expectAll
theorem c_pick (h : RDR P r b s T) (h3 : pI P r 3 = nI p) (h4 : pI P r 4 = 0) (hp : p ≤ T.length) {i : Nat} (hi : i < 11) : hm_X3_pick P r i = match T[p]?.bind (ixS i) with
    | some x => some (nI x, pIu P r 3 (nI (p + 1)))
    | none => some (0, pIu P r 4 1) := by
  have l : lt11 i = true := decide_eq_true hi
  have e1 : nI p + (1 : Int32) = nI (p + 1) := by rw [q1, nI_add]
  unfold hm_X3_pick hm_X3_pick_19
  rw [c_peek h h3 h4 hp, bd_s, h.1, ck_t]
  unfold nxc
  cases q : T[p]? with
  | none =>
    rw [if_neg (show ¬ (0 : Int32) ≤ oI none by decide), if_neg (show ¬ (0 : Int32) ≤ -1 by decide), ck_t]
    rfl
  | some c =>
    have hc := tc h.2.2.2.2.2.2.2.2.2.2.2.2 c q
    have h0 : (0 : Int32) ≤ nI c := by rw [q0, le_n (by decide) (by omega)]; omega
    show (if (0 : Int32) ≤ nI c then _ else _) = _
    rw [if_pos h0]
    show bd (hm_J0_indexOf_0f7a4 P i ((nI c).toUInt32 % 65536).toInt32) _ = match ixS i c with
      | some x => _
      | none => _
    rw [c_io P hi hc, bd_s, l, ck_t]
    cases z : ixS i c with
    | none =>
      rw [if_neg (show ¬ (0 : Int32) ≤ oI none by decide), h.1, ck_t]
      rfl
    | some x =>
      have hx : x < 10 := by
        have h1 := List.mem_range'_1.mp (List.mem_of_find?_eq_some z)
        have : ∀ i, i < 11 → strL.getD i 0 ≤ 10 := by decide
        have := this i hi
        omega
      have h5 : (0 : Int32) ≤ nI x := by rw [q0, le_n (by decide) (by omega)]; omega
      show (if (0 : Int32) ≤ nI x then _ else _) = _
      rw [if_pos h5, h.1, ck_t, h3, e1]
      rfl
theorem c_pickf (h : RDR P r b s T) (hf : RF P r p c) {i : Nat} (hi : i < 11) : hm_X3_pick P r i = some (0, pIu P r 4 1) := by
  unfold hm_X3_pick hm_X3_pick_19
  rw [c_peekf h hf, bd_s, h.1, ck_t, if_neg (show ¬ (0 : Int32) ≤ -1 by decide), ck_t]
  rfl
def lwd (i : Nat) : List Nat := (strB.getD i []).map Int32.toNatClampNeg
theorem c_exfl (h0 : RDR P r b s T) {i : Nat} (hi : i < 11) : ∀ (n k fuel : Nat) (P : PS), RDR P r b s T → RF P r p c → k + n = strL.getD i 0 → n < fuel → ∃ P', hm_X3_expectAll_2L t0 fuel r i (nI k) P = some (0, P') ∧ RFr r s P P' ∧ RF P' r p c := by
  have l : lt11 i = true := decide_eq_true hi
  have h10 : strL.getD i 0 ≤ 10 := by
    have : ∀ i, i < 11 → strL.getD i 0 ≤ 10 := by decide
    exact this i hi
  intro n
  induction n with
  | zero =>
    intro k fuel P h hf hk hfu
    obtain ⟨fu, rfl⟩ : ∃ fu, fuel = fu + 1 := ⟨fuel - 1, by omega⟩
    refine ⟨P, ?_, RFr.rf, hf⟩
    show hm_X3_expectAll_2 _ _ _ _ _ _ = _
    unfold hm_X3_expectAll_2
    rw [c_slen P hi, bd_s, l, ck_t, if_pos (by rw [le_n (by omega) (by omega)]; omega)]
  | succ n ih =>
    intro k fuel P h hf hk hfu
    obtain ⟨fu, rfl⟩ : ∃ fu, fuel = fu + 1 := ⟨fuel - 1, by omega⟩
    have hle : ¬ nI (strL.getD i 0) ≤ nI k := by rw [le_n (by omega) (by omega)]; omega
    have e1 : nI k + (1 : Int32) = nI (k + 1) := by rw [q1, nI_add]
    have hb : ∀ i, i < 11 → ∀ k, k < strL.getD i 0 → ((strB.getD i []).getD k 0).toNatClampNeg < 256 ∧ (strB.getD i []).getD k 0 = nI ((strB.getD i []).getD k 0).toNatClampNeg := by decide +kernel
    obtain ⟨b1, b2⟩ := hb i hi k (by omega)
    have f1 : RFr r s P (pIu P r 4 1) := RFr.I (by decide)
    obtain ⟨P', e, f2, hf'⟩ := ih (k + 1) fu (pIu P r 4 1) (h.fr f1) hf.bad (by omega) (by omega)
    refine ⟨P', ?_, f1.tr f2, hf'⟩
    show hm_X3_expectAll_2 _ _ _ _ _ _ = _
    unfold hm_X3_expectAll_2 hm_X3_expectAll_27
    rw [c_slen P hi, bd_s, l, ck_t, if_neg hle, c_chat t0 P i hi k (by omega), bd_s, ck_t, c_accf h hf b1 b2, bd_s, h.1, ck_t, if_pos rfl, ck_t, lt_t, e1, lt_t]
    exact e
theorem c_exf (h : RDR P r b s T) (hf : RF P r p c) {i : Nat} (hi : i < 11) : ∃ P', hm_X3_expectAll t0 P r i = some (0, P') ∧ RFr r s P P' ∧ RF P' r p c := by
  have h10 : strL.getD i 0 ≤ 10 := by
    have : ∀ i, i < 11 → strL.getD i 0 ≤ 10 := by decide
    exact this i hi
  exact c_exfl h hi (strL.getD i 0) 0 4000 P h hf (by omega) (by omega)
theorem lwd_get {i k : Nat} (hi : i < 11) (hk : k < strL.getD i 0) : (lwd i).drop k = ((strB.getD i []).getD k 0).toNatClampNeg :: (lwd i).drop (k + 1) := by
  have : ∀ i, i < 11 → ∀ k, k < strL.getD i 0 → (lwd i).drop k = ((strB.getD i []).getD k 0).toNatClampNeg :: (lwd i).drop (k + 1) := by decide +kernel
  exact this i hi k hk
theorem c_exl {i : Nat} (hi : i < 11) (hrs : r ≠ s) : ∀ (n k fuel p : Nat) (P : PS), RDR P r b s T → RQ P r s g p o → p ≤ T.length → k + n = strL.getD i 0 → n < fuel → ∃ P', hm_X3_expectAll_2L t0 fuel r i (nI k) P = some (0, P') ∧ RFr r s P P' ∧ match rdW T ((lwd i).drop k) p with
    | (q, true) => RQ P' r s g q o
    | (q, false) => RF P' r q o.length := by
  have l : lt11 i = true := decide_eq_true hi
  have h10 : strL.getD i 0 ≤ 10 := by
    have : ∀ i, i < 11 → strL.getD i 0 ≤ 10 := by decide
    exact this i hi
  intro n
  induction n with
  | zero =>
    intro k fuel p P h hq hp hk hfu
    obtain ⟨fu, rfl⟩ : ∃ fu, fuel = fu + 1 := ⟨fuel - 1, by omega⟩
    refine ⟨P, ?_, RFr.rf, ?_⟩
    · show hm_X3_expectAll_2 _ _ _ _ _ _ = _
      unfold hm_X3_expectAll_2
      rw [c_slen P hi, bd_s, l, ck_t, if_pos (by rw [le_n (by omega) (by omega)]; omega)]
    · have hl : ∀ i, i < 11 → (strB.getD i []).length = strL.getD i 0 := by decide
      rw [List.drop_eq_nil_of_le (by unfold lwd; rw [List.length_map, hl i hi]; omega)]
      exact hq
  | succ n ih =>
    intro k fuel p P h hq hp hk hfu
    obtain ⟨fu, rfl⟩ : ∃ fu, fuel = fu + 1 := ⟨fuel - 1, by omega⟩
    have hle : ¬ nI (strL.getD i 0) ≤ nI k := by rw [le_n (by omega) (by omega)]; omega
    have e1 : nI k + (1 : Int32) = nI (k + 1) := by rw [q1, nI_add]
    have hb : ∀ i, i < 11 → ∀ k, k < strL.getD i 0 → ((strB.getD i []).getD k 0).toNatClampNeg < 256 ∧ (strB.getD i []).getD k 0 = nI ((strB.getD i []).getD k 0).toNatClampNeg := by decide +kernel
    obtain ⟨b1, b2⟩ := hb i hi k (by omega)
    have ea := c_acc h hq.1 hq.2.1 hp b1 b2
    rw [lwd_get hi (by omega)]
    unfold rdW
    have step : ∀ Q, hm_X3_expectAll_2L t0 (fu + 1) r i (nI k) P = Q ↔ bd (hm_X3_accept P r ((strB.getD i []).getD k 0)) (fun r_211 P_210 => ck (kk P r 4) (if r_211 = (0 : Int32) then (ck (kk P_210 r 4) (hm_X3_expectAll_2L t0 fu r i (nI (k + 1)) (pIu P_210 r 4 1))) else hm_X3_expectAll_2L t0 fu r i (nI (k + 1)) P_210)) = Q := by
      intro Q
      show hm_X3_expectAll_2 _ _ _ _ _ _ = _ ↔ _
      unfold hm_X3_expectAll_2 hm_X3_expectAll_27
      rw [c_slen P hi, bd_s, l, ck_t, if_neg hle, c_chat t0 P i hi k (by omega), bd_s, ck_t, e1]
      exact Iff.rfl
    by_cases c : T[p]? = some ((strB.getD i []).getD k 0).toNatClampNeg
    · rw [if_pos c] at ea ⊢
      have hp1 := (List.getElem?_eq_some_iff.mp c).1
      have f1 : RFr r s P (pIu P r 3 (nI (p + 1))) := RFr.I (by decide)
      obtain ⟨P', e, f2, hx⟩ := ih (k + 1) fu (p + 1) (pIu P r 3 (nI (p + 1))) (h.fr f1) (hq.at hrs) (by omega) (by omega) (by omega)
      refine ⟨P', ?_, f1.tr f2, hx⟩
      rw [step, ea, bd_s, h.1, ck_t, if_neg (by decide)]
      exact e
    · rw [if_neg c] at ea ⊢
      have f1 : RFr r s P (pIu P r 4 1) := RFr.I (by decide)
      obtain ⟨P', e, f2, hf'⟩ := c_exfl (t0 := t0) h hi n (k + 1) fu (pIu P r 4 1) (h.fr f1) hq.bad (by omega) (by omega)
      refine ⟨P', ?_, f1.tr f2, hf'⟩
      rw [step, ea, bd_s, h.1, ck_t, if_pos rfl, ck_t]
      exact e
theorem c_ex (h : RDR P r b s T) (hq : RQ P r s g p o) (hp : p ≤ T.length) {i : Nat} (hi : i < 11) : ∃ P', hm_X3_expectAll t0 P r i = some (0, P') ∧ RFr r s P P' ∧ match rdW T (lwd i) p with
    | (q, true) => RQ P' r s g q o
    | (q, false) => RF P' r q o.length := by
  have h10 : strL.getD i 0 ≤ 10 := by
    have : ∀ i, i < 11 → strL.getD i 0 ≤ 10 := by decide
    exact this i hi
  have := c_exl (t0 := t0) (g := g) (o := o) hi h.2.2.2.2.2.2.2.2.2.2.1 (strL.getD i 0) 0 4000 p P h hq hp (by omega) (by omega)
  rw [List.drop_zero] at this
  exact this
-- put
theorem fsm_app {t : Nat} : fsm (o ++ [t]) = fsm o ||| (if 190 ≤ t ∧ t < 200 then 2 ^ (t - 190) else 0) := by
  apply Nat.eq_of_testBit_eq
  intro i
  unfold fsm
  rw [Nat.testBit_or, msk_t, msk_t]
  have e : (o ++ [t]).contains (190 + i) = (o.contains (190 + i) || decide (190 + i = t)) := by
    generalize 190 + i = x
    apply Bool.eq_iff_iff.mpr
    simp
  rw [e]
  by_cases c : 190 ≤ t ∧ t < 200
  · rw [if_pos c, Nat.testBit_two_pow]
    rcases Nat.lt_or_ge i 10 with z | z
    · rw [decide_eq_true z, Bool.true_and, Bool.true_and]
      have e2 : decide (190 + i = t) = decide (t - 190 = i) := by
        apply Bool.eq_iff_iff.mpr
        rw [decide_eq_true_eq, decide_eq_true_eq]
        omega
      rw [e2]
    · rw [decide_eq_false (by omega), decide_eq_false (show ¬ t - 190 = i by omega)]
      rfl
  · rw [if_neg c, Nat.zero_testBit, Bool.or_false]
    rcases Nat.lt_or_ge i 10 with z | z
    · rw [decide_eq_false (show ¬ 190 + i = t by omega), Bool.or_false]
    · rw [decide_eq_false (show ¬ i < 10 by omega)]
      rfl
theorem c_putR (h : RDR P r b s T) {n : Nat} (hn : pI P r 5 = nI n) (hn1 : n < 100) {x y : Int32} : hm_X3_put P r x y = some (0, pIu (pIu P s n ((10 : Int32) * x + y)) r 5 (nI (n + 1))) := by
  obtain ⟨a1, a2, a3, a4, a5, a6, a7, a8, a9, a10, a11, a12, -⟩ := h
  have e1 : nI n + (1 : Int32) = nI (n + 1) := by rw [q1, nI_add]
  have hneg : ¬ nI n < 0 := nI_pos (n := n) (by omega)
  have hle : ¬ nI 100 ≤ nI n := by rw [le_n (by decide) (by omega)]; omega
  have e2 : pI (pIu P s n ((10 : Int32) * x + y)) r 5 = nI n := by rw [pIu_ne a11]; exact hn
  unfold hm_X3_put
  simp only [ck_t, nn_s, bd_s, lt_t, a1, hn, if_neg hneg, a5, a3, a7, if_neg hle, vin_n (show n < 2 ^ 31 by omega), decide_eq_true hn1, nI_clamp (show n < 2 ^ 31 by omega), e2, e1]
theorem c_put (h : RDR P r b s T) (hq : RQ P r s g p o) (ho : o.length < 100) {x y t : Nat} (hx : 10 * x + y = t) (ht : ¬ (190 ≤ t ∧ t < 200)) {x' y' : Int32} (hx' : x' = nI x) (hy' : y' = nI y) : ∃ P', hm_X3_put P r x' y' = some (0, P') ∧ RFr r s P P' ∧ RQ P' r s g p (o ++ [t]) := by
  subst hx' hy'
  have hrs := h.2.2.2.2.2.2.2.2.2.2.1
  refine ⟨_, c_putR h hq.2.2.1 ho, (RFr.S hrs).tr (RFr.I (by decide)), ?_⟩
  obtain ⟨h1, h2, h3, h4, h5⟩ := hq
  have et : (10 : Int32) * nI x + nI y = nI t := by rw [q10, pk_mul, nI_add, hx]
  rw [et]
  refine ⟨?_, ?_, ?_, ?_, fun i u hi => ?_⟩
  · rw [pIu_eq, upd, if_neg (by decide), pIu_ne hrs]; exact h1
  · rw [pIu_eq, upd, if_neg (by decide), pIu_ne hrs]; exact h2
  · rw [pIu_eq, upd, if_pos rfl, List.length_append]; rfl
  · rw [pIu_eq, upd, if_neg (by decide), pIu_ne hrs, fsm_app, if_neg ht, Nat.or_zero]; exact h4
  · rw [pIu_ne (Ne.symm hrs), pIu_eq, upd]
    by_cases c : i = o.length
    · subst c
      rw [if_pos rfl]
      rw [List.getElem?_append_right (Nat.le_refl _), Nat.sub_self] at hi
      exact congrArg nI (Option.some.inj hi)
    · have hl := (List.getElem?_eq_some_iff.mp hi).1
      rw [List.length_append, List.length_singleton] at hl
      rw [if_neg (by omega)]
      rw [List.getElem?_append_left (by omega)] at hi
      exact h5 i u hi
theorem c_putf (h : RDR P r b s T) (hf : RF P r p c) (hc : c < 100) {x y : Int32} : ∃ P', hm_X3_put P r x y = some (0, P') ∧ RFr r s P P' ∧ RF P' r p (c + 1) := by
  have hrs := h.2.2.2.2.2.2.2.2.2.2.1
  refine ⟨_, c_putR h hf.2.2 hc, (RFr.S hrs).tr (RFr.I (by decide)), ?_⟩
  obtain ⟨h1, h2, h3⟩ := hf
  refine ⟨?_, ?_, ?_⟩
  · rw [pIu_eq, upd, if_neg (by decide), pIu_ne hrs]; exact h1
  · rw [pIu_eq, upd, if_neg (by decide), pIu_ne hrs]; exact h2
  · rw [pIu_eq, upd, if_pos rfl]
end PCR1
