-- the reference's constructor
section PMIN
variable {t0 : TS} {P P' : PS} {th z : Nat}
def MST (t0 : TS) (th z : Nat) (P : PS) : Prop := kk P th 10 = true ∧ CZ t0 P ∧ pZ P = z ∧ th < z ∧ ∀ k, k ≠ 26 → pI P th k = 0
theorem czI (h : CZ t0 P) {a k : Nat} {v : Int32} : CZ t0 (pIu P a k v) := h
def SFM (th : Nat) (P P' : PS) : Prop := (∀ a, a < pZ P → a ≠ th → pI P' a = pI P a) ∧ (∀ a, a < pZ P → a ≠ th → pR P' a = pR P a) ∧ (∀ a, a < pZ P → pJ P' a = pJ P a) ∧ (∀ a, a < pZ P → pN P' a = pN P a) ∧ (∀ a c, kk P a c = true → kk P' a c = true) ∧ pZ P ≤ pZ P'
theorem SFM.tr {P'' : PS} (h : SFM th P P') (g : SFM th P' P'') : SFM th P P'' := ⟨fun a x y => (g.1 a (Nat.lt_of_lt_of_le x h.2.2.2.2.2) y).trans (h.1 a x y), fun a x y => (g.2.1 a (Nat.lt_of_lt_of_le x h.2.2.2.2.2) y).trans (h.2.1 a x y), fun a x => (g.2.2.1 a (Nat.lt_of_lt_of_le x h.2.2.2.2.2)).trans (h.2.2.1 a x), fun a x => (g.2.2.2.1 a (Nat.lt_of_lt_of_le x h.2.2.2.2.2)).trans (h.2.2.2.1 a x), fun a c x => g.2.2.2.2.1 a c (h.2.2.2.2.1 a c x), Nat.le_trans h.2.2.2.2.2 g.2.2.2.2.2⟩
theorem SFM.rf : SFM th P P := ⟨fun _ _ _ => rfl, fun _ _ _ => rfl, fun _ _ => rfl, fun _ _ => rfl, fun _ _ x => x, Nat.le_refl _⟩
def mKd (k : Nat) : Nat := if mTy k = 2 then 13 else if mTy k = 1 then 14 else 12
def AF (P : PS) (th n : Nat) : Prop := ∀ j k, j < n → mSl[j]? = some k → pR P th k = some (th + 1 + j) ∧ kk P (th + 1 + j) (mKd k) = true ∧ pN P (th + 1 + j) = mLen k ∧ (k ≠ 36 → pI P (th + 1 + j) = fun _ => 0) ∧ (k = 36 → ∀ t, t < 6 → pI P (th + 1 + j) t = -1) ∧ (13 = mKd k → pJ P (th + 1 + j) = fun _ => 0)
theorem AF.fr {n : Nat} (h : AF P th n) (f : SFM th P P') (hz : th + 1 + n ≤ pZ P) (hr : ∀ j k, j < n → mSl[j]? = some k → pR P' th k = pR P th k) : AF P' th n := by
  intro j k hj hk
  obtain ⟨h1, h2, h3, h4, h5, h6⟩ := h j k hj hk
  refine ⟨by rw [hr j k hj hk]; exact h1, f.2.2.2.2.1 _ _ h2, by rw [f.2.2.2.1 _ (by omega)]; exact h3, fun w => ?_, fun w t ht => ?_, fun w => ?_⟩
  · rw [f.1 _ (by omega) (by omega)]; exact h4 w
  · rw [f.1 _ (by omega) (by omega)]; exact h5 w t ht
  · rw [f.2.2.1 _ (by omega)]; exact h6 w
theorem stI {n : Nat} (h : MST t0 th (th + 1 + n) P) (af : AF P th n) (k : Nat) (v : Int32) (hv : k ≠ 26 → v = 0) : ∃ P', P' = pIu P th k v ∧ MST t0 th (th + 1 + n) P' ∧ AF P' th n ∧ SFM th P P' := by
  obtain ⟨h1, h2, h3, h4, h6⟩ := h
  have f : SFM th P (pIu P th k v) := by
    refine ⟨fun a x y => ?_, fun a x y => ?_, fun a x => ?_, fun a x => ?_, fun a c x => ?_, ?_⟩
    · rw [pIu_ne y]
    · rw [RI]
    · rw [JI]
    · rw [NI]
    · rw [kkI]; exact x
    · rw [ZI]; exact Nat.le_refl _
  refine ⟨_, rfl, ⟨?_, czI h2, ?_, h4, fun j hj => ?_⟩, af.fr f (by omega) (fun j k' _ _ => by rw [RI]), f⟩
  · rw [kkI]; exact h1
  · rw [ZI]; exact h3
  · rw [pIu_eq, upd]
    by_cases q : j = k
    · rw [if_pos q]; exact hv (q ▸ hj)
    · rw [if_neg q]; exact h6 j hj
theorem AF.add {n k : Nat} (h : AF P th n) (f : SFM th P P') (hz : pZ P = th + 1 + n) (hk : mSl[n]? = some k) (hr : ∀ q, pR P' th q = if q = k then some (th + 1 + n) else pR P th q) (g1 : kk P' (th + 1 + n) (mKd k) = true) (g2 : pN P' (th + 1 + n) = mLen k) (g3 : k ≠ 36 → pI P' (th + 1 + n) = fun _ => 0) (g4 : k = 36 → ∀ t, t < 6 → pI P' (th + 1 + n) t = -1) (g5 : 13 = mKd k → pJ P' (th + 1 + n) = fun _ => 0) : AF P' th (n + 1) := by
  have old : AF P' th n := h.fr f (by omega) (fun j k' hj hk' => by
    rw [hr]
    refine if_neg (fun e => ?_)
    have := (List.getElem?_inj (i := j) (j := n) (show j < mSl.length from (List.getElem?_eq_some_iff.mp hk').1) mSl_nd).mp (by rw [hk', e, hk])
    omega)
  intro j k' hj hk'
  by_cases c : j = n
  · subst c
    obtain rfl : k = k' := Option.some.inj (hk.symm.trans hk')
    exact ⟨by rw [hr, if_pos rfl], g1, g2, g3, g4, g5⟩
  · exact old j k' (by omega) hk'
theorem stM {n : Nat} (h : MST t0 th (th + 1 + n) P) (af : AF P th n) (c ln k : Nat) (hk : mSl[n]? = some k) (hc : c = mKd k) (hln : ln = mLen k) (h36 : k ≠ 36) : ∃ P', P' = pRu (pNew P c ln) th k (some (th + 1 + n)) ∧ kk (pNew P c ln) th 10 = true ∧ MST t0 th (th + 1 + (n + 1)) P' ∧ AF P' th (n + 1) ∧ SFM th P P' := by
  obtain ⟨h1, h2, h3, h4, h6⟩ := h
  generalize hzz : th + 1 + n = z at *
  have i1 : ∀ a, a ≠ z → pI (pNew P c ln) a = pI P a := fun a ha => pNew_I (by rw [h3]; exact ha)
  have r1 : ∀ a, a ≠ z → pR (pNew P c ln) a = pR P a := fun a ha => pNew_R (by rw [h3]; exact ha)
  have j1 : ∀ a, a ≠ z → pJ (pNew P c ln) a = pJ P a := fun a ha => pNew_J (by rw [h3]; exact ha)
  have n1 : ∀ a, a ≠ z → pN (pNew P c ln) a = pN P a := fun a ha => pNew_N (by rw [h3]; exact ha)
  have k1 : ∀ a d, kk P a d = true → kk (pNew P c ln) a d = true := fun a d => pNew_kk h2.1
  have iz : pI (pNew P c ln) z = fun _ => 0 := by rw [← h3]; exact pNew_Iz
  have jz : pJ (pNew P c ln) z = fun _ => 0 := by rw [← h3]; exact va_up_self _ _ _
  have nz : pN (pNew P c ln) z = ln := by rw [← h3]; exact pNew_Nz
  have kz : kk (pNew P c ln) z c = true := by rw [← h3]; exact pNew_kz
  have zz : pZ (pNew P c ln) = z + 1 := by rw [← h3]; exact pNew_Z
  have cz : CZ t0 (pNew P c ln) := h2.new
  have hne : z ≠ th := by omega
  generalize pNew P c ln = N at *
  have f : SFM th P (pRu N th k (some z)) := by
    refine ⟨fun a x y => ?_, fun a x y => ?_, fun a x => ?_, fun a x => ?_, fun a d x => ?_, ?_⟩
    · rw [IR]; exact i1 a (by omega)
    · rw [pRu_ne y]; exact r1 a (by omega)
    · rw [JR]; exact j1 a (by omega)
    · rw [NR]; exact n1 a (by omega)
    · rw [kkR]; exact k1 a d x
    · rw [ZR, zz, h3]; omega
  subst hzz
  refine ⟨_, rfl, k1 _ _ h1, ⟨?_, czR cz, ?_, by omega, fun j hj => ?_⟩, af.add f h3 hk (fun q => ?_) ?_ ?_ (fun _ => ?_) (fun w => absurd w h36) (fun _ => ?_), f⟩
  · rw [kkR]; exact k1 _ _ h1
  · rw [ZR, zz]; omega
  · rw [IR, i1 th (by omega)]; exact h6 j hj
  · rw [pRu_eq]
    unfold va_up
    by_cases w : q = k
    · rw [if_pos w, if_pos w]
    · rw [if_neg w, if_neg w, r1 th (by omega)]
  · rw [kkR, ← hc]; exact kz
  · rw [NR, ← hln]; exact nz
  · rw [IR]; exact iz
  · rw [JR]; exact jz
theorem stW (h : MST t0 th (th + 1 + 23) P) (af : AF P th 23) : ∃ N P', N = pIu (pIu (pIu (pIu (pIu (pIu (pNew P 12 6) (th + 1 + 23) 0 (-1)) (th + 1 + 23) 1 (-1)) (th + 1 + 23) 2 (-1)) (th + 1 + 23) 3 (-1)) (th + 1 + 23) 4 (-1)) (th + 1 + 23) 5 (-1) ∧ P' = pRu N th 36 (some (th + 1 + 23)) ∧ kk N th 10 = true ∧ pN (pNew P 12 6) (th + 1 + 23) = 6 ∧ MST t0 th (th + 1 + 24) P' ∧ AF P' th 24 ∧ SFM th P P' := by
  obtain ⟨h1, h2, h3, h4, h6⟩ := h
  have hk : mSl[23]? = some 36 := rfl
  generalize hzz : th + 1 + 23 = z at *
  have s1 : SAM t0 z (fun _ => False) (fun _ => False) P (pNew P 12 6) := SAM.new h2 (by omega)
  have iz : pI (pNew P 12 6) z = fun _ => 0 := by rw [← h3]; exact pNew_Iz
  have nz : pN (pNew P 12 6) z = 6 := by rw [← h3]; exact pNew_Nz
  have kz : kk (pNew P 12 6) z 12 = true := by rw [← h3]; exact pNew_kz
  have zz : pZ (pNew P 12 6) = z + 1 := by rw [← h3]; exact pNew_Z
  have hne : z ≠ th := by omega
  generalize pNew P 12 6 = N0 at *
  have q : z < z → False := fun w => absurd w (Nat.lt_irrefl z)
  have s2 : SAM t0 z (fun _ => False) (fun _ => False) P (pIu (pIu (pIu (pIu (pIu (pIu N0 z 0 (-1)) z 1 (-1)) z 2 (-1)) z 3 (-1)) z 4 (-1)) z 5 (-1)) := (((((s1.aI q).aI q).aI q).aI q).aI q).aI q
  have k2 : kk (pIu (pIu (pIu (pIu (pIu (pIu N0 z 0 (-1)) z 1 (-1)) z 2 (-1)) z 3 (-1)) z 4 (-1)) z 5 (-1)) z 12 = true := by simp only [kkI]; exact kz
  have n2 : pN (pIu (pIu (pIu (pIu (pIu (pIu N0 z 0 (-1)) z 1 (-1)) z 2 (-1)) z 3 (-1)) z 4 (-1)) z 5 (-1)) z = 6 := by simp only [NI]; exact nz
  have z2 : pZ (pIu (pIu (pIu (pIu (pIu (pIu N0 z 0 (-1)) z 1 (-1)) z 2 (-1)) z 3 (-1)) z 4 (-1)) z 5 (-1)) = z + 1 := by simp only [ZI]; exact zz
  have i2 : ∀ t, t < 6 → pI (pIu (pIu (pIu (pIu (pIu (pIu N0 z 0 (-1)) z 1 (-1)) z 2 (-1)) z 3 (-1)) z 4 (-1)) z 5 (-1)) z t = -1 := by
    intro t ht
    simp only [pIu_eq]
    have : t = 0 ∨ t = 1 ∨ t = 2 ∨ t = 3 ∨ t = 4 ∨ t = 5 := by omega
    rcases this with rfl | rfl | rfl | rfl | rfl | rfl <;> simp [upd]
  generalize pIu (pIu (pIu (pIu (pIu (pIu N0 z 0 (-1)) z 1 (-1)) z 2 (-1)) z 3 (-1)) z 4 (-1)) z 5 (-1) = M at *
  have cM : CZ t0 M := s2.cz
  have f : SFM th P (pRu M th 36 (some z)) := by
    refine ⟨fun a x y => ?_, fun a x y => ?_, fun a x => ?_, fun a x => ?_, fun a d x => ?_, ?_⟩
    · rw [IR]; exact s2.1 a (by omega) id
    · rw [pRu_ne y]; exact s2.2.1 a (by omega) id
    · rw [JR]; exact s2.2.2.1 a (by omega)
    · rw [NR]; exact s2.2.2.2.1 a (by omega)
    · rw [kkR]; exact s2.kp x
    · rw [ZR, z2, h3]; omega
  subst hzz
  refine ⟨M, _, rfl, rfl, s2.kp h1, nz, ⟨?_, czR (P := M) cM, ?_, by omega, fun j hj => ?_⟩, af.add f h3 hk (fun q => ?_) ?_ ?_ (fun w => absurd rfl w) (fun _ t ht => ?_) (fun w => absurd w (by decide)), f⟩
  · rw [kkR]; exact s2.kp h1
  · rw [ZR, z2]
  · rw [IR, s2.1 th (by omega) id]; exact h6 j hj
  · rw [pRu_eq, s2.2.1 th (by omega) id]
    rfl
  · rw [kkR]; exact k2
  · rw [NR]; exact n2
  · rw [IR]; exact i2 t ht
set_option maxHeartbeats 16000000 in
set_option maxRecDepth 20000 in
theorem m_init9 (h1 : kk P th 10 = true) (hz : CZ t0 P) (hZ : pZ P = th + 1) (hi : pI P th = fun _ => 0) : ∃ P', hm_X9_init P th = some (0, P') ∧ kk P' th 10 = true ∧ CZ t0 P' ∧ pZ P' = th + 1 + 27 ∧ SFM th P P' ∧ (∀ k, k ≠ 26 → pI P' th k = 0) ∧ AF P' th 27 := by
  have g0 : MST t0 th (th + 1 + 0) P := ⟨h1, hz, hZ, Nat.lt_succ_self th, fun k _ => by rw [hi]⟩
  have a0 : AF P th 0 := fun j k hj => absurd hj (Nat.not_lt_zero _)
  have q0 : SFM th P P := SFM.rf
  unfold hm_X9_init
  rw [show (8 : Int32).toNatClampNeg = 8 from rfl, show (14 : Int32).toNatClampNeg = 14 from rfl, show (56 : Int32).toNatClampNeg = 56 from rfl, show (100 : Int32).toNatClampNeg = 100 from rfl, show (10 : Int32).toNatClampNeg = 10 from rfl, show (60 : Int32).toNatClampNeg = 60 from rfl, show (1000 : Int32).toNatClampNeg = 1000 from rfl, show (101 : Int32).toNatClampNeg = 101 from rfl, show (5 : Int32).toNatClampNeg = 5 from rfl, show (20 : Int32).toNatClampNeg = 20 from rfl, show (6 : Int32).toNatClampNeg = 6 from rfl, show (360 : Int32).toNatClampNeg = 360 from rfl, show (0 : Int32).toNatClampNeg = 0 from rfl, show (1 : Int32).toNatClampNeg = 1 from rfl, show (2 : Int32).toNatClampNeg = 2 from rfl, show (3 : Int32).toNatClampNeg = 3 from rfl, show (4 : Int32).toNatClampNeg = 4 from rfl]
  rw [g0.1, ck_t, lt_t]
  obtain ⟨P1, e, g1, a1, f⟩ := stI g0 a0 0 0 (fun _ => rfl)
  rw [← e]
  have q1 := q0.tr f
  clear e f g0 a0 q0
  rw [lt_t]
  obtain ⟨P2, e, g2, a2, f⟩ := stI g1 a1 1 0 (fun _ => rfl)
  rw [← e]
  have q2 := q1.tr f
  clear e f g1 a1 q1
  rw [lt_t]
  obtain ⟨P3, e, g3, a3, f⟩ := stI g2 a2 2 0 (fun _ => rfl)
  rw [← e]
  have q3 := q2.tr f
  clear e f g2 a2 q2
  rw [lt_t, g3.2.2.1, lt_t]
  obtain ⟨P4, e, t, g4, a4, f⟩ := stM g3 a3 12 8 3 rfl rfl rfl (by decide)
  rw [t, ck_t, lt_t, ← e]
  clear t
  have q4 := q3.tr f
  clear e f g3 a3 q3
  rw [lt_t, g4.2.2.1, lt_t]
  obtain ⟨P5, e, t, g5, a5, f⟩ := stM g4 a4 12 14 4 rfl rfl rfl (by decide)
  rw [t, ck_t, lt_t, ← e]
  clear t
  have q5 := q4.tr f
  clear e f g4 a4 q4
  rw [lt_t, g5.2.2.1, lt_t]
  obtain ⟨P6, e, t, g6, a6, f⟩ := stM g5 a5 12 14 5 rfl rfl rfl (by decide)
  rw [t, ck_t, lt_t, ← e]
  clear t
  have q6 := q5.tr f
  clear e f g5 a5 q5
  rw [lt_t, g6.2.2.1, lt_t]
  obtain ⟨P7, e, t, g7, a7, f⟩ := stM g6 a6 12 14 6 rfl rfl rfl (by decide)
  rw [t, ck_t, lt_t, ← e]
  clear t
  have q7 := q6.tr f
  clear e f g6 a6 q6
  rw [lt_t, g7.2.2.1, lt_t]
  obtain ⟨P8, e, t, g8, a8, f⟩ := stM g7 a7 12 14 7 rfl rfl rfl (by decide)
  rw [t, ck_t, lt_t, ← e]
  clear t
  have q8 := q7.tr f
  clear e f g7 a7 q7
  rw [lt_t, g8.2.2.1, lt_t]
  obtain ⟨P9, e, t, g9, a9, f⟩ := stM g8 a8 12 56 8 rfl rfl rfl (by decide)
  rw [t, ck_t, lt_t, ← e]
  clear t
  have q9 := q8.tr f
  clear e f g8 a8 q8
  rw [lt_t]
  obtain ⟨P10, e, g10, a10, f⟩ := stI g9 a9 9 0 (fun _ => rfl)
  rw [← e]
  have q10 := q9.tr f
  clear e f g9 a9 q9
  rw [lt_t]
  obtain ⟨P11, e, g11, a11, f⟩ := stI g10 a10 10 0 (fun _ => rfl)
  rw [← e]
  have q11 := q10.tr f
  clear e f g10 a10 q10
  rw [lt_t]
  obtain ⟨P12, e, g12, a12, f⟩ := stI g11 a11 11 0 (fun _ => rfl)
  rw [← e]
  have q12 := q11.tr f
  clear e f g11 a11 q11
  rw [lt_t, g12.2.2.1, lt_t]
  obtain ⟨P13, e, t, g13, a13, f⟩ := stM g12 a12 12 100 12 rfl rfl rfl (by decide)
  rw [t, ck_t, lt_t, ← e]
  clear t
  have q13 := q12.tr f
  clear e f g12 a12 q12
  rw [lt_t, g13.2.2.1, lt_t]
  obtain ⟨P14, e, t, g14, a14, f⟩ := stM g13 a13 12 10 13 rfl rfl rfl (by decide)
  rw [t, ck_t, lt_t, ← e]
  clear t
  have q14 := q13.tr f
  clear e f g13 a13 q13
  rw [lt_t, g14.2.2.1, lt_t]
  obtain ⟨P15, e, t, g15, a15, f⟩ := stM g14 a14 12 10 14 rfl rfl rfl (by decide)
  rw [t, ck_t, lt_t, ← e]
  clear t
  have q15 := q14.tr f
  clear e f g14 a14 q14
  rw [lt_t, g15.2.2.1, lt_t]
  obtain ⟨P16, e, t, g16, a16, f⟩ := stM g15 a15 12 60 15 rfl rfl rfl (by decide)
  rw [t, ck_t, lt_t, ← e]
  clear t
  have q16 := q15.tr f
  clear e f g15 a15 q15
  rw [lt_t, g16.2.2.1, lt_t]
  obtain ⟨P17, e, t, g17, a17, f⟩ := stM g16 a16 12 60 16 rfl rfl rfl (by decide)
  rw [t, ck_t, lt_t, ← e]
  clear t
  have q17 := q16.tr f
  clear e f g16 a16 q16
  rw [lt_t, g17.2.2.1, lt_t]
  obtain ⟨P18, e, t, g18, a18, f⟩ := stM g17 a17 12 60 17 rfl rfl rfl (by decide)
  rw [t, ck_t, lt_t, ← e]
  clear t
  have q18 := q17.tr f
  clear e f g17 a17 q17
  rw [lt_t, g18.2.2.1, lt_t]
  obtain ⟨P19, e, t, g19, a19, f⟩ := stM g18 a18 12 60 18 rfl rfl rfl (by decide)
  rw [t, ck_t, lt_t, ← e]
  clear t
  have q19 := q18.tr f
  clear e f g18 a18 q18
  rw [lt_t, g19.2.2.1, lt_t]
  obtain ⟨P20, e, t, g20, a20, f⟩ := stM g19 a19 12 1000 19 rfl rfl rfl (by decide)
  rw [t, ck_t, lt_t, ← e]
  clear t
  have q20 := q19.tr f
  clear e f g19 a19 q19
  rw [lt_t]
  obtain ⟨P21, e, g21, a21, f⟩ := stI g20 a20 20 0 (fun _ => rfl)
  rw [← e]
  have q21 := q20.tr f
  clear e f g20 a20 q20
  rw [lt_t, g21.2.2.1, lt_t]
  obtain ⟨P22, e, t, g22, a22, f⟩ := stM g21 a21 12 101 21 rfl rfl rfl (by decide)
  rw [t, ck_t, lt_t, ← e]
  clear t
  have q22 := q21.tr f
  clear e f g21 a21 q21
  rw [lt_t]
  obtain ⟨P23, e, g23, a23, f⟩ := stI g22 a22 22 0 (fun _ => rfl)
  rw [← e]
  have q23 := q22.tr f
  clear e f g22 a22 q22
  rw [lt_t]
  obtain ⟨P24, e, g24, a24, f⟩ := stI g23 a23 23 0 (fun _ => rfl)
  rw [← e]
  have q24 := q23.tr f
  clear e f g23 a23 q23
  rw [lt_t]
  obtain ⟨P25, e, g25, a25, f⟩ := stI g24 a24 24 0 (fun _ => rfl)
  rw [← e]
  have q25 := q24.tr f
  clear e f g24 a24 q24
  rw [lt_t]
  obtain ⟨P26, e, g26, a26, f⟩ := stI g25 a25 25 0 (fun _ => rfl)
  rw [← e]
  have q26 := q25.tr f
  clear e f g25 a25 q25
  rw [lt_t]
  obtain ⟨P27, e, g27, a27, f⟩ := stI g26 a26 26 (-1) (fun w => absurd rfl w)
  rw [← e]
  have q27 := q26.tr f
  clear e f g26 a26 q26
  rw [lt_t, g27.2.2.1, lt_t]
  obtain ⟨P28, e, t, g28, a28, f⟩ := stM g27 a27 12 8 27 rfl rfl rfl (by decide)
  rw [t, ck_t, lt_t, ← e]
  clear t
  have q28 := q27.tr f
  clear e f g27 a27 q27
  rw [lt_t, g28.2.2.1, lt_t]
  obtain ⟨P29, e, t, g29, a29, f⟩ := stM g28 a28 14 100 28 rfl rfl rfl (by decide)
  rw [t, ck_t, lt_t, ← e]
  clear t
  have q29 := q28.tr f
  clear e f g28 a28 q28
  rw [lt_t, g29.2.2.1, lt_t]
  obtain ⟨P30, e, t, g30, a30, f⟩ := stM g29 a29 14 14 29 rfl rfl rfl (by decide)
  rw [t, ck_t, lt_t, ← e]
  clear t
  have q30 := q29.tr f
  clear e f g29 a29 q29
  rw [lt_t, g30.2.2.1, lt_t]
  obtain ⟨P31, e, t, g31, a31, f⟩ := stM g30 a30 12 5 30 rfl rfl rfl (by decide)
  rw [t, ck_t, lt_t, ← e]
  clear t
  have q31 := q30.tr f
  clear e f g30 a30 q30
  rw [lt_t, g31.2.2.1, lt_t]
  obtain ⟨P32, e, t, g32, a32, f⟩ := stM g31 a31 12 5 31 rfl rfl rfl (by decide)
  rw [t, ck_t, lt_t, ← e]
  clear t
  have q32 := q31.tr f
  clear e f g31 a31 q31
  rw [lt_t, g32.2.2.1, lt_t]
  obtain ⟨P33, e, t, g33, a33, f⟩ := stM g32 a32 14 56 32 rfl rfl rfl (by decide)
  rw [t, ck_t, lt_t, ← e]
  clear t
  have q33 := q32.tr f
  clear e f g32 a32 q32
  rw [lt_t, g33.2.2.1, lt_t]
  obtain ⟨P34, e, t, g34, a34, f⟩ := stM g33 a33 12 100 33 rfl rfl rfl (by decide)
  rw [t, ck_t, lt_t, ← e]
  clear t
  have q34 := q33.tr f
  clear e f g33 a33 q33
  rw [lt_t]
  obtain ⟨P35, e, g35, a35, f⟩ := stI g34 a34 34 0 (fun _ => rfl)
  rw [← e]
  have q35 := q34.tr f
  clear e f g34 a34 q34
  rw [lt_t, g35.2.2.1, lt_t]
  obtain ⟨P36, e, t, g36, a36, f⟩ := stM g35 a35 12 20 35 rfl rfl rfl (by decide)
  rw [t, ck_t, lt_t, ← e]
  clear t
  have q36 := q35.tr f
  clear e f g35 a35 q35
  rw [lt_t, g36.2.2.1, lt_t]
  obtain ⟨N, P37, eN, e, t, m, g37, a37, f⟩ := stW g36 a36
  rw [m, show vin (0 : Int32) 6 = true from rfl, ck_t, lt_t, NI, m, show vin (1 : Int32) 6 = true from rfl, ck_t, lt_t, NI, NI, m, show vin (2 : Int32) 6 = true from rfl, ck_t, lt_t, NI, NI, NI, m, show vin (3 : Int32) 6 = true from rfl, ck_t, lt_t, NI, NI, NI, NI, m, show vin (4 : Int32) 6 = true from rfl, ck_t, lt_t, NI, NI, NI, NI, NI, m, show vin (5 : Int32) 6 = true from rfl, ck_t, lt_t, ← eN, t, ck_t, lt_t, ← e]
  clear eN t m
  have q37 := q36.tr f
  clear e f g36 a36 q36
  rw [lt_t, g37.2.2.1, lt_t]
  obtain ⟨P38, e, t, g38, a38, f⟩ := stM g37 a37 12 6 37 rfl rfl rfl (by decide)
  rw [t, ck_t, lt_t, ← e]
  clear t
  have q38 := q37.tr f
  clear e f g37 a37 q37
  rw [lt_t, g38.2.2.1, lt_t]
  obtain ⟨P39, e, t, g39, a39, f⟩ := stM g38 a38 13 360 38 rfl rfl rfl (by decide)
  rw [t, ck_t, lt_t, ← e]
  clear t
  have q39 := q38.tr f
  clear e f g38 a38 q38
  rw [lt_t, g39.2.2.1, lt_t]
  obtain ⟨P40, e, t, g40, a40, f⟩ := stM g39 a39 13 60 39 rfl rfl rfl (by decide)
  rw [t, ck_t, lt_t, ← e]
  clear t
  have q40 := q39.tr f
  clear e f g39 a39 q39
  exact ⟨P40, rfl, g40.1, g40.2.1, g40.2.2.1, q40, g40.2.2.2.2, a40⟩
end PMIN
