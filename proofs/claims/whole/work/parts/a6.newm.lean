/-! the constructor of the model, run -/
def cMz : List (Nat × Nat) := (98, 13) :: (97, 13) :: (96, 13) :: (95, 13) :: (94, 14) :: (93, 14) :: (92, 14) :: (91, 13) :: (90, 13) :: (89, 13) :: (88, 13) :: (87, 13) :: (86, 13) :: (85, 13) :: (84, 15) :: (83, 14) :: (82, 13) :: (81, 13) :: (80, 13) :: (79, 13) :: (78, 13) :: (77, 13) :: (76, 12) :: cXz
def nMz (n : Nat) : List (Nat × Nat) := (98, 20000) :: (97, 6) :: (96, 72) :: (95, 12) :: (94, 72) :: (93, 100) :: (92, 100) :: (91, 3) :: (90, 4096) :: (89, 3001) :: (88, 3001) :: (87, 3001) :: (86, 9003) :: (85, 1600) :: (84, 330) :: (83, 330) :: (82, 11) :: (81, 160) :: (80, 300) :: (79, 2480) :: (78, 205) :: (77, 205) :: (76, 43) :: nXz n
def rMz : List (Nat × Nat × Nat) := (76, 42, 98) :: (76, 41, 97) :: (76, 40, 96) :: (76, 39, 95) :: (76, 38, 94) :: (76, 37, 93) :: (76, 36, 92) :: (76, 33, 91) :: (76, 32, 90) :: (76, 31, 89) :: (76, 30, 88) :: (76, 29, 87) :: (76, 28, 86) :: (76, 27, 85) :: (76, 26, 84) :: (76, 25, 83) :: (76, 24, 82) :: (76, 18, 81) :: (76, 5, 80) :: (76, 4, 79) :: (76, 1, 78) :: (76, 0, 77) :: rXz
theorem sp_copy {g : GE} {Z : Zs} {L : Nat → Nat → Int64} {a b : Nat} (ka : KM Z a 13) (kb : KM Z b 13) (na : Z.2.2.1 a = 205) (nb : Z.2.2.1 b = 205) : ∀ (d j : Nat) (I : Nat → Nat → Int32), j + d = 205 → (∀ q, I a q = 0) → (∀ q, I b q = 0) → ∃ I1, Lp_X12_copy_2 g 1 a b (nI j) (Z, I, L) none (Z, I1, L) ∧ (∀ q, I1 b q = 0) ∧ ∀ q, q ≠ b → I1 q = I q := by
  intro d
  induction d with
  | zero =>
    intro j I hj _ hq
    have hj : j = 205 := hj
    subst hj
    exact ⟨I, wp_X12_copy_2 ka kb ⟨fun _ => ⟨rfl, rfl⟩, fun e => absurd (nI_le (Nat.le_refl 205) (by decide)) e⟩, hq, fun _ _ => rfl⟩
  | succ d ih =>
    intro j I hj ha hb
    obtain ⟨I2, hI2⟩ : ∃ I2, I2 = rw1 I b (upd (I b) j (I a j)) := ⟨_, rfl⟩
    have e2 : ∀ q, I2 b q = 0 := fun q => by
      rw [hI2, rw1_s, ha j]
      unfold upd
      by_cases e : q = j
      · rw [if_pos e]
      · rw [if_neg e]; exact hb q
    have e3 : ∀ q, I2 a q = 0 := fun q => by
      by_cases e : a = b
      · rw [e]; exact e2 q
      · rw [hI2, rw1_n _ _ e]; exact ha q
    obtain ⟨I1, c1, c2, c3⟩ := ih (j + 1) I2 (by omega) e3 e2
    refine ⟨I1, wp_X12_copy_2 ka kb ⟨fun e => absurd ((nI_leI (a := 205) (by decide) (by omega)).mp e) (by omega), fun _ => ⟨by rw [na]; exact vp_in_nI (by omega) (by decide), by rw [nb]; exact vp_in_nI (by omega) (by decide), fun I3 h3 y hy => ?_⟩⟩, c2, fun q hq => by rw [c3 q hq, hI2, rw1_n _ _ hq]⟩
    rw [nI_clamp (by omega)] at h3
    rw [hy, h3, ← hI2, show nI j + 1 = nI (j + 1) from nI_add j 1]
    exact c1
section MI
variable {g : GE}
theorem sp_x12 {Mx : Mem} {s w h : Nat} {I : Nat → Nat → Int32} {x1 x2 : Int32} (d : Dsz Mx 76 s cXz (nXz (w * h)) rXz I) (hs : s ≤ 10000) (cw : (2 ≤ x1 → (x1 ≤ 5 → x1 = nI w) ∧ (¬ x1 ≤ 5 → w = 5)) ∧ (¬ 2 ≤ x1 → w = 2)) (ch : (2 ≤ x2 → (x2 ≤ 5 → x2 = nI h) ∧ (¬ x2 ≤ 5 → h = 5)) ∧ (¬ 2 ≤ x2 → h = 2)) :
    ∃ M' I1 s1, s1 ≤ 100000 ∧ Cl g 2 mu_X12_init [rf g 76, .int x1, .int x2] (nwD Mx 12 43) none M' ∧ Dsz M' 99 s1 cMz (nMz (w * h)) rMz I1 ∧ I1 76 = upd (upd (upd (upd (fun _ => 0) 7 (-1)) 8 (-1)) 2 (nI w)) 3 (nI h) ∧ (∀ q, I1 78 q = 0) ∧ ∀ a, a ≠ 76 → a ≠ 78 → I1 a = I a := by
  obtain ⟨B0, q0⟩ : ∃ Nq, Nq = nwD Mx 12 43 := ⟨_, rfl⟩
  have d0 := d.dN 12 43
  rw [← q0] at d0
  obtain ⟨B1, q1⟩ : ∃ Nq, Nq = atS B0 13 76 0 205 := ⟨_, rfl⟩
  have d1 := d0.dA (o := 76) 13 0 205 (by decide)
  rw [← q1] at d1
  obtain ⟨B2, q2⟩ : ∃ Nq, Nq = atS B1 13 76 1 205 := ⟨_, rfl⟩
  have d2 := d1.dA (o := 76) 13 1 205 (by decide)
  rw [← q2] at d2
  obtain ⟨B3, q3⟩ : ∃ Nq, Nq = atS B2 13 76 4 2480 := ⟨_, rfl⟩
  have d3 := d2.dA (o := 76) 13 4 2480 (by decide)
  rw [← q3] at d3
  obtain ⟨B4, q4⟩ : ∃ Nq, Nq = atS B3 13 76 5 300 := ⟨_, rfl⟩
  have d4 := d3.dA (o := 76) 13 5 300 (by decide)
  rw [← q4] at d4
  obtain ⟨B5, q5⟩ : ∃ Nq, Nq = pI (pI B4 76 7 (-1)) 76 8 (-1) := ⟨_, rfl⟩
  have d5 := (d4.dI (o := 76) 7 (-1) (by decide)).dI (o := 76) 8 (-1) (by decide)
  rw [← q5] at d5
  obtain ⟨B6, q6⟩ : ∃ Nq, Nq = atS B5 13 76 18 160 := ⟨_, rfl⟩
  have d6 := d5.dA (o := 76) 13 18 160 (by decide)
  rw [← q6] at d6
  obtain ⟨B7, q7⟩ : ∃ Nq, Nq = atS B6 13 76 24 11 := ⟨_, rfl⟩
  have d7 := d6.dA (o := 76) 13 24 11 (by decide)
  rw [← q7] at d7
  obtain ⟨B8, q8⟩ : ∃ Nq, Nq = atS B7 14 76 25 330 := ⟨_, rfl⟩
  have d8 := d7.dA (o := 76) 14 25 330 (by decide)
  rw [← q8] at d8
  obtain ⟨B9, q9⟩ : ∃ Nq, Nq = atS B8 15 76 26 330 := ⟨_, rfl⟩
  have d9 := d8.dA (o := 76) 15 26 330 (by decide)
  rw [← q9] at d9
  obtain ⟨B10, q10⟩ : ∃ Nq, Nq = atS B9 13 76 27 1600 := ⟨_, rfl⟩
  have d10 := d9.dA (o := 76) 13 27 1600 (by decide)
  rw [← q10] at d10
  obtain ⟨B11, q11⟩ : ∃ Nq, Nq = atS B10 13 76 28 9003 := ⟨_, rfl⟩
  have d11 := d10.dA (o := 76) 13 28 9003 (by decide)
  rw [← q11] at d11
  obtain ⟨B12, q12⟩ : ∃ Nq, Nq = atS B11 13 76 29 3001 := ⟨_, rfl⟩
  have d12 := d11.dA (o := 76) 13 29 3001 (by decide)
  rw [← q12] at d12
  obtain ⟨B13, q13⟩ : ∃ Nq, Nq = atS B12 13 76 30 3001 := ⟨_, rfl⟩
  have d13 := d12.dA (o := 76) 13 30 3001 (by decide)
  rw [← q13] at d13
  obtain ⟨B14, q14⟩ : ∃ Nq, Nq = atS B13 13 76 31 3001 := ⟨_, rfl⟩
  have d14 := d13.dA (o := 76) 13 31 3001 (by decide)
  rw [← q14] at d14
  obtain ⟨B15, q15⟩ : ∃ Nq, Nq = atS B14 13 76 32 4096 := ⟨_, rfl⟩
  have d15 := d14.dA (o := 76) 13 32 4096 (by decide)
  rw [← q15] at d15
  obtain ⟨B16, q16⟩ : ∃ Nq, Nq = atS B15 13 76 33 3 := ⟨_, rfl⟩
  have d16 := d15.dA (o := 76) 13 33 3 (by decide)
  rw [← q16] at d16
  obtain ⟨B17, q17⟩ : ∃ Nq, Nq = atS B16 14 76 36 100 := ⟨_, rfl⟩
  have d17 := d16.dA (o := 76) 14 36 100 (by decide)
  rw [← q17] at d17
  obtain ⟨B18, q18⟩ : ∃ Nq, Nq = atS B17 14 76 37 100 := ⟨_, rfl⟩
  have d18 := d17.dA (o := 76) 14 37 100 (by decide)
  rw [← q18] at d18
  obtain ⟨B19, q19⟩ : ∃ Nq, Nq = atS B18 14 76 38 72 := ⟨_, rfl⟩
  have d19 := d18.dA (o := 76) 14 38 72 (by decide)
  rw [← q19] at d19
  obtain ⟨B20, q20⟩ : ∃ Nq, Nq = atS B19 13 76 39 12 := ⟨_, rfl⟩
  have d20 := d19.dA (o := 76) 13 39 12 (by decide)
  rw [← q20] at d20
  obtain ⟨B21, q21⟩ : ∃ Nq, Nq = atS B20 13 76 40 72 := ⟨_, rfl⟩
  have d21 := d20.dA (o := 76) 13 40 72 (by decide)
  rw [← q21] at d21
  obtain ⟨B22, q22⟩ : ∃ Nq, Nq = atS B21 13 76 41 6 := ⟨_, rfl⟩
  have d22 := d21.dA (o := 76) 13 41 6 (by decide)
  rw [← q22] at d22
  obtain ⟨B23, q23⟩ : ∃ Nq, Nq = atS B22 13 76 42 20000 := ⟨_, rfl⟩
  have d23 := d22.dA (o := 76) 13 42 20000 (by decide)
  rw [← q23] at d23
  obtain ⟨P1, p1⟩ : ∃ Nq, Nq = pI B23 76 2 (nI w) := ⟨_, rfl⟩
  have e1 := d23.dI (o := 76) 2 (nI w) (by decide)
  rw [← p1] at e1
  obtain ⟨P2, p2⟩ : ∃ Nq, Nq = pI P1 76 3 (nI h) := ⟨_, rfl⟩
  have e2 := e1.dI (o := 76) 3 (nI h) (by decide)
  rw [← p2] at e2
  have i76 : I 76 = fun _ => 0 := d.2.2.2.2.2.2.1 76 (by decide)
  have j76 : P2.2.1 76 = upd (upd (upd (upd (fun _ => 0) 7 (-1)) 8 (-1)) 2 (nI w)) 3 (nI h) := by
    refine (e2.i 76).trans ?_
    rw [rw1_s, rw1_s, rw1_s, rw1_s, i76]
  have jo : ∀ a, a ≠ 76 → P2.2.1 a = I a := fun a ha => by
    refine (e2.i a).trans ?_
    rw [rw1_n _ _ ha, rw1_n _ _ ha, rw1_n _ _ ha, rw1_n _ _ ha]
  have k77 : KM P2.1 77 13 := e2.km (by decide) (by decide +kernel)
  have k78 : KM P2.1 78 13 := e2.km (by decide) (by decide +kernel)
  have n77 : P2.1.2.2.1 77 = 205 := e2.n rfl
  have n78 : P2.1.2.2.1 78 = 205 := e2.n rfl
  obtain ⟨I1, c1, c2, c3⟩ := sp_copy (g := g) (L := P2.2.2) k77 k78 n77 n78 205 0 P2.2.1 rfl (fun q => by rw [jo 77 (by decide), d.2.2.2.2.2.2.1 77 (by decide)]) (fun q => by rw [jo 78 (by decide), d.2.2.2.2.2.2.1 78 (by decide)])
  have leaf : ∃ b677 : Nat, mR P2 76 0 = some b677 ∧ KM P2.1 b677 13 ∧ (∃ b678 : Nat, mR P2 76 1 = some b678 ∧ KM P2.1 b678 13 ∧ (∃ (M679 : Mem), Cl g 1 mu_X12_copy [rf g b677, rf g b678] P2 none M679 ∧ ((none : Option Value) = none ∧ ((P2.1, I1, P2.2.2) : Mem) = M679))) :=
    ⟨77, e2.r (by decide +kernel), k77, 78, e2.r (by decide +kernel), k78, (P2.1, I1, P2.2.2), cp_X12_copy (Z := P2.1) (I := P2.2.1) (L := P2.2.2) k77 k78 c1, rfl, rfl⟩
  have t1 : ∀ (A : Mem) (v : Int32), v = nI w → A = sI B23 76 (upd (mI B23 76) 2 v) → A = P1 := fun A v hv hA => by
    rw [hA, hv]; exact p1.symm
  have t2 : ∀ (A : Mem) (v : Int32), v = nI h → A = sI P1 76 (upd (mI P1 76) 3 v) → A = P2 := fun A v hv hA => by
    rw [hA, hv]; exact p2.symm
  have w5 : w = 5 → (5 : Int32) = nI w := fun e => by rw [e]; rfl
  have w2 : w = 2 → (2 : Int32) = nI w := fun e => by rw [e]; rfl
  have h5 : h = 5 → (5 : Int32) = nI h := fun e => by rw [e]; rfl
  have h2 : h = 2 → (2 : Int32) = nI h := fun e => by rw [e]; rfl
  refine ⟨(P2.1, I1, P2.2.2), I1, _, ?_, ?_, e2.re (fun a ha => (c3 a (by intro z; rw [z] at ha; exact absurd ha (by decide))).trans (e2.i a)), by rw [c3 76 (by decide)]; exact j76, c2, fun a a1 a2 => (c3 a a2).trans (jo a a1)⟩
  · omega
  rw [← q0]
  refine cp_X12_init (d0.km (by decide) (by decide)) ?_
  intro A h1 B h2
  rw [show B = B1 from by rw [h2, h1]; exact q1.symm]
  clear h2 B h1 A
  intro A h1 B h2
  rw [show B = B2 from by rw [h2, h1]; exact q2.symm]
  clear h2 B h1 A
  intro A h1 B h2
  rw [show B = B3 from by rw [h2, h1]; exact q3.symm]
  clear h2 B h1 A
  intro A h1 B h2
  rw [show B = B4 from by rw [h2, h1]; exact q4.symm]
  clear h2 B h1 A
  intro A h1 B h2
  rw [show B = B5 from by rw [h2, h1]; exact q5.symm]
  clear h2 B h1 A
  intro A h1 B h2
  rw [show B = B6 from by rw [h2, h1]; exact q6.symm]
  clear h2 B h1 A
  intro A h1 B h2
  rw [show B = B7 from by rw [h2, h1]; exact q7.symm]
  clear h2 B h1 A
  intro A h1 B h2
  rw [show B = B8 from by rw [h2, h1]; exact q8.symm]
  clear h2 B h1 A
  intro A h1 B h2
  rw [show B = B9 from by rw [h2, h1]; exact q9.symm]
  clear h2 B h1 A
  intro A h1 B h2
  rw [show B = B10 from by rw [h2, h1]; exact q10.symm]
  clear h2 B h1 A
  intro A h1 B h2
  rw [show B = B11 from by rw [h2, h1]; exact q11.symm]
  clear h2 B h1 A
  intro A h1 B h2
  rw [show B = B12 from by rw [h2, h1]; exact q12.symm]
  clear h2 B h1 A
  intro A h1 B h2
  rw [show B = B13 from by rw [h2, h1]; exact q13.symm]
  clear h2 B h1 A
  intro A h1 B h2
  rw [show B = B14 from by rw [h2, h1]; exact q14.symm]
  clear h2 B h1 A
  intro A h1 B h2
  rw [show B = B15 from by rw [h2, h1]; exact q15.symm]
  clear h2 B h1 A
  intro A h1 B h2
  rw [show B = B16 from by rw [h2, h1]; exact q16.symm]
  clear h2 B h1 A
  intro A h1 B h2
  rw [show B = B17 from by rw [h2, h1]; exact q17.symm]
  clear h2 B h1 A
  intro A h1 B h2
  rw [show B = B18 from by rw [h2, h1]; exact q18.symm]
  clear h2 B h1 A
  intro A h1 B h2
  rw [show B = B19 from by rw [h2, h1]; exact q19.symm]
  clear h2 B h1 A
  intro A h1 B h2
  rw [show B = B20 from by rw [h2, h1]; exact q20.symm]
  clear h2 B h1 A
  intro A h1 B h2
  rw [show B = B21 from by rw [h2, h1]; exact q21.symm]
  clear h2 B h1 A
  intro A h1 B h2
  rw [show B = B22 from by rw [h2, h1]; exact q22.symm]
  clear h2 B h1 A
  intro A h1 B h2
  rw [show B = B23 from by rw [h2, h1]; exact q23.symm]
  clear h2 B h1 A
  refine ⟨fun a1 => ⟨fun a2 => ?_, fun a2 => ?_⟩, fun a1 => ?_⟩
  · intro A hA
    rw [t1 A _ ((cw.1 a1).1 a2) hA]
    refine ⟨fun b1 => ⟨fun b2 B hB => ?_, fun b2 B hB => ?_⟩, fun b1 B hB => ?_⟩
    · rw [t2 B _ ((ch.1 b1).1 b2) hB]; exact leaf
    · rw [t2 B _ (h5 ((ch.1 b1).2 b2)) hB]; exact leaf
    · rw [t2 B _ (h2 (ch.2 b1)) hB]; exact leaf
  · intro A hA
    rw [t1 A _ (w5 ((cw.1 a1).2 a2)) hA]
    refine ⟨fun b1 => ⟨fun b2 B hB => ?_, fun b2 B hB => ?_⟩, fun b1 B hB => ?_⟩
    · rw [t2 B _ ((ch.1 b1).1 b2) hB]; exact leaf
    · rw [t2 B _ (h5 ((ch.1 b1).2 b2)) hB]; exact leaf
    · rw [t2 B _ (h2 (ch.2 b1)) hB]; exact leaf
  · intro A hA
    rw [t1 A _ (w2 (cw.2 a1)) hA]
    refine ⟨fun b1 => ⟨fun b2 B hB => ?_, fun b2 B hB => ?_⟩, fun b1 B hB => ?_⟩
    · rw [t2 B _ ((ch.1 b1).1 b2) hB]; exact leaf
    · rw [t2 B _ (h5 ((ch.1 b1).2 b2)) hB]; exact leaf
    · rw [t2 B _ (h2 (ch.2 b1)) hB]; exact leaf
end MI
