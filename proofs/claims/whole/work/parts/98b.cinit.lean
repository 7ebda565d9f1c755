-- the class's constructor
section PCIN
variable {t0 : TS} {P P' P'' : PS} {th z c n k : Nat}
theorem JI {a k : Nat} {v : Int32} : pJ (pIu P a k v) = pJ P := eq_of_heq HEq.rfl
theorem JR {a k : Nat} {v : Option Nat} : pJ (pRu P a k v) = pJ P := eq_of_heq HEq.rfl
theorem czR (h : CZ t0 P) {a k : Nat} {v : Option Nat} : CZ t0 (pRu P a k v) := h
-- between two stages: cells below stay as they were, the object's own rows apart
def SFR (th : Nat) (P P' : PS) : Prop := (∀ a, a < pZ P → pI P' a = pI P a) ∧ (∀ a, a < pZ P → a ≠ th → pR P' a = pR P a) ∧ (∀ a, a < pZ P → pJ P' a = pJ P a) ∧ (∀ a, a < pZ P → pN P' a = pN P a) ∧ (∀ a c, kk P a c = true → kk P' a c = true) ∧ pZ P ≤ pZ P'
theorem SFR.tr (h : SFR th P P') (g : SFR th P' P'') : SFR th P P'' := ⟨fun a x => (g.1 a (Nat.lt_of_lt_of_le x h.2.2.2.2.2)).trans (h.1 a x), fun a x y => (g.2.1 a (Nat.lt_of_lt_of_le x h.2.2.2.2.2) y).trans (h.2.1 a x y), fun a x => (g.2.2.1 a (Nat.lt_of_lt_of_le x h.2.2.2.2.2)).trans (h.2.2.1 a x), fun a x => (g.2.2.2.1 a (Nat.lt_of_lt_of_le x h.2.2.2.2.2)).trans (h.2.2.2.1 a x), fun a c x => g.2.2.2.2.1 a c (h.2.2.2.2.1 a c x), Nat.le_trans h.2.2.2.2.2 g.2.2.2.2.2⟩
def STG (t0 : TS) (th z : Nat) (F : Nat → Option Nat) (P : PS) : Prop := kk P th 9 = true ∧ CZ t0 P ∧ pZ P = z ∧ th < z ∧ ∀ j, pR P th j = F j
-- a new cell, and it into a field
theorem stA {F : Nat → Option Nat} (h : STG t0 th z F P) (c n k : Nat) : ∃ P', P' = pRu (pNew P c n) th k (some z) ∧ kk (pNew P c n) th 9 = true ∧ STG t0 th (z + 1) (va_up F k (some z)) P' ∧ SFR th P P' ∧ kk P' z c = true ∧ pN P' z = n ∧ (pI P' z = fun _ => 0) ∧ (pJ P' z = fun _ => 0) ∧ (pR P' z = fun _ => none) := by
  obtain ⟨h1, h2, h3, h4, h5⟩ := h
  have i1 : ∀ a, a ≠ z → pI (pNew P c n) a = pI P a := fun a ha => pNew_I (by rw [h3]; exact ha)
  have r1 : ∀ a, a ≠ z → pR (pNew P c n) a = pR P a := fun a ha => pNew_R (by rw [h3]; exact ha)
  have j1 : ∀ a, a ≠ z → pJ (pNew P c n) a = pJ P a := fun a ha => pNew_J (by rw [h3]; exact ha)
  have n1 : ∀ a, a ≠ z → pN (pNew P c n) a = pN P a := fun a ha => pNew_N (by rw [h3]; exact ha)
  have k1 : ∀ a d, kk P a d = true → kk (pNew P c n) a d = true := fun a d => pNew_kk h2.1
  have iz : pI (pNew P c n) z = fun _ => 0 := by rw [← h3]; exact pNew_Iz
  have jz : pJ (pNew P c n) z = fun _ => 0 := by rw [← h3]; exact va_up_self _ _ _
  have rz : pR (pNew P c n) z = fun _ => none := by rw [← h3]; exact pNew_Rz
  have nz : pN (pNew P c n) z = n := by rw [← h3]; exact pNew_Nz
  have kz : kk (pNew P c n) z c = true := by rw [← h3]; exact pNew_kz
  have zz : pZ (pNew P c n) = z + 1 := by rw [← h3]; exact pNew_Z
  have cz : CZ t0 (pNew P c n) := h2.new
  have hne : z ≠ th := by omega
  generalize pNew P c n = N at *
  refine ⟨_, rfl, k1 _ _ h1, ⟨?_, ?_, ?_, by omega, fun j => ?_⟩, ⟨fun a x => ?_, fun a x y => ?_, fun a x => ?_, fun a x => ?_, fun a d x => ?_, ?_⟩, ?_, ?_, ?_, ?_, ?_⟩
  · rw [kkR]; exact k1 _ _ h1
  · exact cz
  · rw [ZR]; exact zz
  · rw [pRu_eq]
    unfold va_up
    by_cases q : j = k
    · rw [if_pos q, if_pos q]
    · rw [if_neg q, if_neg q, r1 th (by omega)]
      exact h5 j
  · rw [IR]; exact i1 a (by omega)
  · rw [pRu_ne y]; exact r1 a (by omega)
  · exact j1 a (by omega)
  · rw [NR]; exact n1 a (by omega)
  · rw [kkR]; exact k1 a d x
  · rw [ZR, zz, h3]; omega
  · rw [kkR]; exact kz
  · rw [NR]; exact nz
  · rw [IR]; exact iz
  · exact jz
  · rw [pRu_ne hne]; exact rz
-- a new empty list, and it into a field
theorem stL {F : Nat → Option Nat} (h : STG t0 th z F P) (k : Nat) : ∃ N P', hm_Jx4a65c_init_da8c8 t0 (pNew P 0 0) z = some (0, N) ∧ P' = pRu N th k (some z) ∧ kk N th 9 = true ∧ STG t0 th (z + 1) (va_up F k (some z)) P' ∧ SFR th P P' ∧ LW t0 P' z t0.1 0 := by
  obtain ⟨h1, h2, h3, h4, h5⟩ := h
  have s1 : SAM t0 z (fun _ => False) (fun _ => False) P (pNew P 0 0) := SAM.new h2 (by omega)
  have kz : kk (pNew P 0 0) z 0 = true := by rw [← h3]; exact pNew_kz
  have iz : pI (pNew P 0 0) z = fun _ => 0 := by rw [← h3]; exact pNew_Iz
  have zz : pZ (pNew P 0 0) = z + 1 := by rw [← h3]; exact pNew_Z
  have hne : z ≠ th := by omega
  have hne' : th ≠ z := by omega
  generalize pNew P 0 0 = N0 at *
  have s2 : SAM t0 z (fun _ => False) (fun _ => False) P (pRu (pIu N0 z 0 0) z 1 (some t0.1)) := (s1.aI (fun q => absurd q (Nat.lt_irrefl z))).aR (fun q => absurd q (Nat.lt_irrefl z))
  have e1 := c_linit (t0 := t0) kz
  have zM : pZ (pRu (pIu N0 z 0 0) z 1 (some t0.1)) = z + 1 := by rw [ZR, ZI]; exact zz
  have kM : kk (pRu (pIu N0 z 0 0) z 1 (some t0.1)) z 0 = true := by rw [kkR, kkI]; exact kz
  have rM : pR (pRu (pIu N0 z 0 0) z 1 (some t0.1)) z 1 = some t0.1 := by rw [pRu_eq, va_up_self]
  have iM : pI (pRu (pIu N0 z 0 0) z 1 (some t0.1)) z 2 = 0 := by rw [IR, pIu_eq, iz, upd, if_neg (by decide)]
  rw [e1]
  generalize pRu (pIu N0 z 0 0) z 1 (some t0.1) = M at *
  have cM : CZ t0 M := s2.cz
  refine ⟨M, _, rfl, rfl, s2.kp h1, ⟨?_, ?_, ?_, by omega, fun j => ?_⟩, ⟨fun a x => ?_, fun a x y => ?_, fun a x => ?_, fun a x => ?_, fun a d x => ?_, ?_⟩, ⟨?_, ?_, ?_, by decide, Or.inr ⟨rfl, rfl⟩⟩⟩
  · rw [kkR]; exact s2.kp h1
  · exact czR (P := M) cM
  · rw [ZR]; exact zM
  · rw [pRu_eq, s2.2.1 th (by omega) id]
    unfold va_up
    by_cases q : j = k
    · rw [if_pos q, if_pos q]
    · rw [if_neg q, if_neg q]
      exact h5 j
  · rw [IR]; exact s2.1 a (by omega) id
  · rw [pRu_ne y]; exact s2.2.1 a (by omega) id
  · rw [JR]; exact s2.2.2.1 a (by omega)
  · rw [NR]; exact s2.2.2.2.1 a (by omega)
  · rw [kkR]; exact s2.kp x
  · rw [ZR, zM, h3]; omega
  · rw [kkR]; exact kM
  · rw [pRu_ne hne]; exact rM
  · rw [IR, iM]
    rfl
-- the reader
theorem stR {F : Nat → Option Nat} (h : STG t0 th z F P) (k : Nat) : ∃ N P', hm_X3_init (pNew P 4 0) z = some (0, N) ∧ P' = pRu N th k (some z) ∧ kk N th 9 = true ∧ STG t0 th (z + 3) (va_up F k (some z)) P' ∧ SFR th P P' ∧ kk P' z 4 = true ∧ kk P' (z + 1) 11 = true ∧ kk P' (z + 2) 12 = true ∧ pR P' z 0 = some (z + 1) ∧ pR P' z 1 = some (z + 2) ∧ pN P' (z + 1) = 100 ∧ pN P' (z + 2) = 100 ∧ (pI P' z = fun _ => 0) := by
  obtain ⟨h1, h2, h3, h4, h5⟩ := h
  have s1 : SAM t0 z (fun _ => False) (fun _ => False) P (pNew P 4 0) := SAM.new h2 (by omega)
  have kz : kk (pNew P 4 0) z 4 = true := by rw [← h3]; exact pNew_kz
  have iz : pI (pNew P 4 0) z = fun _ => 0 := by rw [← h3]; exact pNew_Iz
  have zz : pZ (pNew P 4 0) = z + 1 := by rw [← h3]; exact pNew_Z
  have hne : z ≠ th := by omega
  unfold hm_X3_init
  simp only [lt_t]
  generalize pNew P 4 0 = N0 at *
  have c100 : (100 : Int32).toNatClampNeg = 100 := rfl
  rw [c100, zz]
  have s2 : SAM t0 z (fun _ => False) (fun _ => False) P (pNew N0 11 100) := s1.aN (by omega)
  have kz2 : kk (pNew N0 11 100) z 4 = true := pNew_kk s1.cz.1 kz
  have k11 : kk (pNew N0 11 100) (z + 1) 11 = true := by rw [← zz]; exact pNew_kz
  have n11 : pN (pNew N0 11 100) (z + 1) = 100 := by rw [← zz]; exact pNew_Nz
  have i2 : pI (pNew N0 11 100) z = fun _ => 0 := by rw [pNew_I (by omega)]; exact iz
  have z2 : pZ (pNew N0 11 100) = z + 2 := by rw [pNew_Z, zz]
  generalize pNew N0 11 100 = N1 at *
  rw [kz2, ck_t]
  have s3 : SAM t0 z (fun _ => False) (fun _ => False) P (pRu N1 z 0 (some (z + 1))) := s2.aR (fun q => absurd q (Nat.lt_irrefl z))
  have kz3 : kk (pRu N1 z 0 (some (z + 1))) z 4 = true := by rw [kkR]; exact kz2
  have k13 : kk (pRu N1 z 0 (some (z + 1))) (z + 1) 11 = true := by rw [kkR]; exact k11
  have n13 : pN (pRu N1 z 0 (some (z + 1))) (z + 1) = 100 := by rw [NR]; exact n11
  have i3 : pI (pRu N1 z 0 (some (z + 1))) z = fun _ => 0 := by rw [IR]; exact i2
  have z3 : pZ (pRu N1 z 0 (some (z + 1))) = z + 2 := by rw [ZR]; exact z2
  have r3 : pR (pRu N1 z 0 (some (z + 1))) z 0 = some (z + 1) := by rw [pRu_eq, va_up_self]
  generalize pRu N1 z 0 (some (z + 1)) = N2 at *
  rw [z3]
  have s4 : SAM t0 z (fun _ => False) (fun _ => False) P (pNew N2 12 100) := s3.aN (by omega)
  have kz4 : kk (pNew N2 12 100) z 4 = true := pNew_kk s3.cz.1 kz3
  have k14 : kk (pNew N2 12 100) (z + 1) 11 = true := pNew_kk s3.cz.1 k13
  have k24 : kk (pNew N2 12 100) (z + 2) 12 = true := by rw [← z3]; exact pNew_kz
  have n14 : pN (pNew N2 12 100) (z + 1) = 100 := by rw [pNew_N (by omega)]; exact n13
  have n24 : pN (pNew N2 12 100) (z + 2) = 100 := by rw [← z3]; exact pNew_Nz
  have i4 : pI (pNew N2 12 100) z = fun _ => 0 := by rw [pNew_I (by omega)]; exact i3
  have r4 : pR (pNew N2 12 100) z 0 = some (z + 1) := by rw [pNew_R (by omega)]; exact r3
  have z4 : pZ (pNew N2 12 100) = z + 3 := by rw [pNew_Z, z3]
  generalize pNew N2 12 100 = N3 at *
  rw [kz4, ck_t]
  have s5 : SAM t0 z (fun _ => False) (fun _ => False) P (pRu N3 z 1 (some (z + 2))) := s4.aR (fun q => absurd q (Nat.lt_irrefl z))
  have z5 : pZ (pRu N3 z 1 (some (z + 2))) = z + 3 := by rw [ZR]; exact z4
  have kz5 : kk (pRu N3 z 1 (some (z + 2))) z 4 = true := by rw [kkR]; exact kz4
  have k15 : kk (pRu N3 z 1 (some (z + 2))) (z + 1) 11 = true := by rw [kkR]; exact k14
  have k25 : kk (pRu N3 z 1 (some (z + 2))) (z + 2) 12 = true := by rw [kkR]; exact k24
  have n15 : pN (pRu N3 z 1 (some (z + 2))) (z + 1) = 100 := by rw [NR]; exact n14
  have n25 : pN (pRu N3 z 1 (some (z + 2))) (z + 2) = 100 := by rw [NR]; exact n24
  have i5 : pI (pRu N3 z 1 (some (z + 2))) z = fun _ => 0 := by rw [IR]; exact i4
  have r5 : pR (pRu N3 z 1 (some (z + 2))) z 0 = some (z + 1) := by rw [pRu_eq, va_up_ne _ _ (by decide)]; exact r4
  have r6 : pR (pRu N3 z 1 (some (z + 2))) z 1 = some (z + 2) := by rw [pRu_eq, va_up_self]
  generalize pRu N3 z 1 (some (z + 2)) = M at *
  have cM : CZ t0 M := s5.cz
  refine ⟨M, _, rfl, rfl, s5.kp h1, ⟨?_, czR (P := M) cM, ?_, by omega, fun j => ?_⟩, ⟨fun a x => ?_, fun a x y => ?_, fun a x => ?_, fun a x => ?_, fun a d x => ?_, ?_⟩, ?_, ?_, ?_, ?_, ?_, ?_, ?_, ?_⟩
  · rw [kkR]; exact s5.kp h1
  · rw [ZR]; exact z5
  · rw [pRu_eq, s5.2.1 th (by omega) id]
    unfold va_up
    by_cases q : j = k
    · rw [if_pos q, if_pos q]
    · rw [if_neg q, if_neg q]
      exact h5 j
  · rw [IR]; exact s5.1 a (by omega) id
  · rw [pRu_ne y]; exact s5.2.1 a (by omega) id
  · rw [JR]; exact s5.2.2.1 a (by omega)
  · rw [NR]; exact s5.2.2.2.1 a (by omega)
  · rw [kkR]; exact s5.kp x
  · rw [ZR, z5]; omega
  · rw [kkR]; exact kz5
  · rw [kkR]; exact k15
  · rw [kkR]; exact k25
  · rw [pRu_ne hne]; exact r5
  · rw [pRu_ne hne]; exact r6
  · rw [NR]; exact n15
  · rw [NR]; exact n25
  · rw [IR]; exact i5
-- the bodies
theorem stB {F : Nat → Option Nat} (h : STG t0 th z F P) (k : Nat) : ∃ N P', hm_X0_init (pNew P 1 0) z = some (0, N) ∧ P' = pRu N th k (some z) ∧ kk N th 9 = true ∧ STG t0 th (z + 2) (va_up F k (some z)) P' ∧ SFR th P P' ∧ kk P' z 1 = true ∧ kk P' (z + 1) 12 = true ∧ pR P' z 0 = some (z + 1) ∧ pN P' (z + 1) = 20 ∧ (pI P' z = fun _ => 0) := by
  obtain ⟨h1, h2, h3, h4, h5⟩ := h
  have s1 : SAM t0 z (fun _ => False) (fun _ => False) P (pNew P 1 0) := SAM.new h2 (by omega)
  have kz : kk (pNew P 1 0) z 1 = true := by rw [← h3]; exact pNew_kz
  have iz : pI (pNew P 1 0) z = fun _ => 0 := by rw [← h3]; exact pNew_Iz
  have zz : pZ (pNew P 1 0) = z + 1 := by rw [← h3]; exact pNew_Z
  have hne : z ≠ th := by omega
  unfold hm_X0_init
  simp only [lt_t]
  generalize pNew P 1 0 = N0 at *
  have c100 : (20 : Int32).toNatClampNeg = 20 := rfl
  rw [c100, zz]
  have s2 : SAM t0 z (fun _ => False) (fun _ => False) P (pNew N0 12 20) := s1.aN (by omega)
  have kz2 : kk (pNew N0 12 20) z 1 = true := pNew_kk s1.cz.1 kz
  have k11 : kk (pNew N0 12 20) (z + 1) 12 = true := by rw [← zz]; exact pNew_kz
  have n11 : pN (pNew N0 12 20) (z + 1) = 20 := by rw [← zz]; exact pNew_Nz
  have i2 : pI (pNew N0 12 20) z = fun _ => 0 := by rw [pNew_I (by omega)]; exact iz
  have z2 : pZ (pNew N0 12 20) = z + 2 := by rw [pNew_Z, zz]
  generalize pNew N0 12 20 = N1 at *
  rw [kz2, ck_t]
  have s5 : SAM t0 z (fun _ => False) (fun _ => False) P (pRu N1 z 0 (some (z + 1))) := s2.aR (fun q => absurd q (Nat.lt_irrefl z))
  have z5 : pZ (pRu N1 z 0 (some (z + 1))) = z + 2 := by rw [ZR]; exact z2
  have kz5 : kk (pRu N1 z 0 (some (z + 1))) z 1 = true := by rw [kkR]; exact kz2
  have k15 : kk (pRu N1 z 0 (some (z + 1))) (z + 1) 12 = true := by rw [kkR]; exact k11
  have n15 : pN (pRu N1 z 0 (some (z + 1))) (z + 1) = 20 := by rw [NR]; exact n11
  have i5 : pI (pRu N1 z 0 (some (z + 1))) z = fun _ => 0 := by rw [IR]; exact i2
  have r5 : pR (pRu N1 z 0 (some (z + 1))) z 0 = some (z + 1) := by rw [pRu_eq, va_up_self]
  generalize pRu N1 z 0 (some (z + 1)) = M at *
  have cM : CZ t0 M := s5.cz
  refine ⟨M, _, rfl, rfl, s5.kp h1, ⟨?_, czR (P := M) cM, ?_, by omega, fun j => ?_⟩, ⟨fun a x => ?_, fun a x y => ?_, fun a x => ?_, fun a x => ?_, fun a d x => ?_, ?_⟩, ?_, ?_, ?_, ?_, ?_⟩
  · rw [kkR]; exact s5.kp h1
  · rw [ZR]; exact z5
  · rw [pRu_eq, s5.2.1 th (by omega) id]
    unfold va_up
    by_cases q : j = k
    · rw [if_pos q, if_pos q]
    · rw [if_neg q, if_neg q]
      exact h5 j
  · rw [IR]; exact s5.1 a (by omega) id
  · rw [pRu_ne y]; exact s5.2.1 a (by omega) id
  · rw [JR]; exact s5.2.2.1 a (by omega)
  · rw [NR]; exact s5.2.2.2.1 a (by omega)
  · rw [kkR]; exact s5.kp x
  · rw [ZR, z5]; omega
  · rw [kkR]; exact kz5
  · rw [kkR]; exact k15
  · rw [pRu_ne hne]; exact r5
  · rw [NR]; exact n15
  · rw [IR]; exact i5
end PCIN
