/-! the constructor of the class, run -/
def cXz : List (Nat × Nat) := [(75, 13), (74, 1), (73, 13), (72, 13), (71, 15), (70, 13), (69, 13), (68, 10), (67, 13), (66, 3), (65, 13), (64, 2), (63, 16), (62, 13), (61, 2), (60, 13), (59, 2), (58, 13), (57, 2), (56, 13), (55, 2), (54, 13), (53, 2), (52, 13), (51, 2), (50, 13), (49, 2), (48, 13), (47, 2), (46, 13), (45, 2), (44, 13), (43, 2), (42, 8), (41, 13), (40, 2), (39, 16), (38, 13), (37, 2), (36, 13), (35, 2), (34, 13), (33, 2), (32, 13), (31, 2), (30, 13), (29, 2), (28, 13), (27, 2), (26, 13), (25, 2), (24, 13), (23, 2), (22, 13), (21, 2), (20, 13), (19, 2), (18, 8), (17, 14), (16, 14), (15, 13), (14, 13), (13, 4), (12, 13), (11, 13), (10, 13), (9, 2), (8, 13), (7, 2), (6, 13), (5, 2), (4, 9), (3, 5), (2, 13), (1, 2), (0, 11)]
def nXz (n : Nat) : List (Nat × Nat) := [(75, 6), (74, 4), (73, 6), (72, 6), (71, 36), (70, 36), (69, 36), (68, 9), (67, 64 * n), (66, 3), (65, n), (64, 2), (63, 4), (62, 6), (61, 2), (60, 6), (59, 2), (58, 20), (57, 2), (56, 20), (55, 2), (54, 20), (53, 2), (52, 30), (51, 2), (50, 30), (49, 2), (48, 16), (47, 2), (46, 6), (45, 2), (44, 6), (43, 2), (42, 15), (41, n), (40, 2), (39, 4), (38, 6), (37, 2), (36, 6), (35, 2), (34, 20), (33, 2), (32, 20), (31, 2), (30, 20), (29, 2), (28, 30), (27, 2), (26, 30), (25, 2), (24, 16), (23, 2), (22, 6), (21, 2), (20, 6), (19, 2), (18, 15), (17, 100), (16, 100), (15, 64), (14, 11), (13, 3), (12, 3), (11, 602), (10, 301), (9, 2), (8, 301), (7, 2), (6, 301), (5, 2), (4, 3), (3, 10), (2, 300), (1, 2), (0, 14)]
def rXz : List (Nat × Nat × Nat) := [(0, 7, 74), (74, 1, 66), (74, 0, 18), (74, 2, 75), (0, 6, 68), (68, 1, 13), (68, 0, 18), (68, 6, 73), (68, 5, 72), (68, 4, 71), (68, 3, 70), (68, 2, 69), (0, 5, 66), (66, 2, 67), (66, 1, 13), (66, 0, 18), (0, 1, 42), (42, 2, 64), (64, 0, 65), (42, 13, 63), (42, 12, 61), (61, 0, 62), (42, 11, 59), (59, 0, 60), (42, 10, 57), (57, 0, 58), (42, 9, 55), (55, 0, 56), (42, 8, 53), (53, 0, 54), (42, 7, 51), (51, 0, 52), (42, 6, 49), (49, 0, 50), (42, 5, 47), (47, 0, 48), (42, 4, 45), (45, 0, 46), (42, 3, 43), (43, 0, 44), (0, 0, 18), (18, 2, 40), (40, 0, 41), (18, 13, 39), (18, 12, 37), (37, 0, 38), (18, 11, 35), (35, 0, 36), (18, 10, 33), (33, 0, 34), (18, 9, 31), (31, 0, 32), (18, 8, 29), (29, 0, 30), (18, 7, 27), (27, 0, 28), (18, 6, 25), (25, 0, 26), (18, 5, 23), (23, 0, 24), (18, 4, 21), (21, 0, 22), (18, 3, 19), (19, 0, 20), (0, 9, 17), (0, 8, 16), (0, 4, 13), (13, 1, 15), (13, 0, 14), (0, 3, 3), (3, 2, 12), (3, 1, 11), (3, 0, 4), (4, 2, 9), (9, 0, 10), (4, 1, 7), (7, 0, 8), (4, 0, 5), (5, 0, 6), (0, 2, 1), (1, 0, 2)]
def M0z : Mem := ((fun _ => 0, fun _ _ => none, fun _ => 0, 0, 0), fun _ _ => 0, fun _ _ => 0)
theorem d0z : Dsz M0z 0 0 [] [] [] (fun _ _ => 0) := ⟨rfl, rfl, fun _ => rfl, fun _ => rfl, fun _ _ => rfl, fun _ => rfl, fun _ _ => rfl, fun _ _ _ => rfl⟩
section XI
variable {g : GE}
theorem sp_e3 {M : Mem} {o a1 a2 x s : Nat} {C N : List (Nat × Nat)} {R : List (Nat × Nat × Nat)} {I : Nat → Nat → Int32} {w h : Nat} (d : Dsz M x s C N R I) (ho : o < x) (hk : lkq C o = 3) (b1 : a1 < x) (hk1 : lkq C a1 = 8) (b2 : a2 < x) (hk2 : lkq C a2 = 4) (hw : wh w h) (e0 : I a1 0 = nI w) (e1 : I a1 1 = nI h) :
    ∃ M', Cl g 2 mu_X3_init [rf g o, rf g a1, rf g a2] M none M' ∧ Dsz M' (x + 1) (s + 64 * (w * h)) ((x, 13) :: C) ((x, 64 * (w * h)) :: N) ((o, 2, x) :: (o, 1, a2) :: (o, 0, a1) :: R) (rw1 I x (fun q => if q < 64 * (w * h) then -1 else 0)) := by
  have hm : w * h ≤ 25 := Nat.le_trans (Nat.mul_le_mul hw.2.1 hw.2.2.2) (by decide)
  obtain ⟨N1, q1⟩ : ∃ Nq, Nq = pR (pR M o 0 a1) o 1 a2 := ⟨_, rfl⟩
  have d1 := (d.dR (o := o) 0 a1 ho).dR (o := o) 1 a2 ho
  rw [← q1] at d1
  obtain ⟨N2, q2⟩ : ∃ Nq, Nq = arS N1 o 2 (64 * (w * h)) := ⟨_, rfl⟩
  have d2 := d1.dB (o := o) 2 (64 * (w * h)) ho
  rw [← q2] at d2
  have c := sp_fill (g := g) (Z := N2.1) (I := N2.2.1) (L := N2.2.2) (a := x) (n := 64 * (w * h)) (v := -1) (d2.km (by omega) (if_pos rfl)) (d2.n (if_pos rfl)) (by omega)
  have ix : N2.2.1 x = fun _ => 0 := (d2.i x).trans (d.2.2.2.2.2.2.1 x (Nat.le_refl _))
  have hI : rw1 N2.2.1 x (fun q => if q < 64 * (w * h) then -1 else N2.2.1 x q) = rw1 I x (fun q => if q < 64 * (w * h) then -1 else 0) := by
    funext a
    by_cases ha : a = x
    · subst ha
      rw [rw1_s, rw1_s, ix]
    · rw [rw1_n _ _ ha, rw1_n _ _ ha]; exact d2.i a
  rw [hI] at c
  refine ⟨_, cp_X3_init (d.km ho hk) (d.km b1 hk1) (d.km b2 hk2) ?_, d2.re (I1 := rw1 I x (fun q => if q < 64 * (w * h) then -1 else 0)) (L1 := N2.2.2) (fun a ha => rw1_n _ _ (by omega))⟩
  intro A h1 B h2
  rw [show B = N1 from by rw [h2, h1]; exact q1.symm]
  clear h2 B h1 A
  have e16 : (16 : Int32) * nI (4 * (w * h)) = nI (64 * (w * h)) := by
    rw [show (16 : Int32) * nI (4 * (w * h)) = nI (16 * (4 * (w * h))) from pk_mul 16 _]
    congr 1; omega
  refine ⟨nI (4 * (w * h)), N1, ?_, ?_⟩
  · refine cp_X8_posesInAll (Z := N1.1) (I := N1.2.1) (L := N1.2.2) (d1.km b1 hk1) ⟨?_, rfl⟩
    rw [show N1.2.1 a1 = I a1 from d1.i a1, e0, e1, show (4 : Int32) * nI w = nI (4 * w) from pk_mul 4 w, pk_mul, Nat.mul_assoc]
  rw [e16, nI_clamp (by omega)]
  refine ⟨nI_pos (by omega), by omega, ?_⟩
  intro A h1 B h2
  rw [show B = N2 from by rw [h2, h1]; exact q2.symm]
  clear h2 B h1 A
  exact ⟨x, d2.r (if_pos ⟨rfl, rfl⟩), d2.km (by omega) (if_pos rfl), _, c, rfl, rfl⟩
theorem sp_x11 {w h : Nat} {x1 x2 : Int32} (hw : wh w h) (ex : (if 2 < (if x1 < 5 then x1 else 5) then (if x1 < 5 then x1 else 5) else 2) = nI w) (ey : (if 2 < (if x2 < 5 then x2 else 5) then (if x2 < 5 then x2 else 5) else 2) = nI h) :
    ∃ M' I1 s, s ≤ 10000 ∧ Cl g 5 mu_X11_init [rf g 0, .int x1, .int x2] (nwD M0z 11 14) none M' ∧ Dsz M' 76 s cXz (nXz (w * h)) rXz I1 ∧ I1 0 10 = -1 ∧ I1 0 11 = -1 ∧ (∀ a, a = 18 ∨ a = 42 → I1 a = upd (upd (fun _ => 0) 0 (nI w)) 1 (nI h)) ∧ (∀ a, a = 40 ∨ a = 64 → I1 a 1 = nI (w * h) ∧ ∀ k, k < w * h → I1 (a + 1) k = 0) ∧ (∀ k, k < 64 * (w * h) → I1 67 k = -1) ∧ ∀ a, a ≠ 0 → a ≠ 18 → a ≠ 42 → a ≠ 40 → a ≠ 41 → a ≠ 64 → a ≠ 65 → a ≠ 67 → I1 a = fun _ => 0 := by
  have hm : w * h ≤ 25 := Nat.le_trans (Nat.mul_le_mul hw.2.1 hw.2.2.2) (by decide)
  obtain ⟨B0, q0⟩ : ∃ Nq, Nq = nwD M0z 11 14 := ⟨_, rfl⟩
  have d0 := d0z.dN 11 14
  rw [← q0] at d0
  obtain ⟨B1, q1⟩ : ∃ Nq, Nq = inS B0 0 2 300 := ⟨_, rfl⟩
  have d1 := d0.dC (o := 0) 2 300 (by decide)
  rw [← q1] at d1
  obtain ⟨B2, q2⟩ : ∃ Nq, Nq = nwD B1 5 10 := ⟨_, rfl⟩
  have d2 := d1.dN 5 10
  rw [← q2] at d2
  obtain ⟨B3, q3⟩ : ∃ Nq, Nq = arS (arS (pR (e9S (nwD B2 9 3) 4) 3 0 4) 3 1 602) 3 2 3 := ⟨_, rfl⟩
  have d3 := ((((d2.dN 9 3).d9 (o := 4) (by decide)).dR (o := 3) 0 4 (by decide)).dB (o := 3) 1 602 (by decide)).dB (o := 3) 2 3 (by decide)
  rw [← q3] at d3
  have f3 : B3 = e5S B2 3 := by rw [q3]; unfold e5S; rw [show cx B2 = 4 from d2.1]
  obtain ⟨B4, q4⟩ : ∃ Nq, Nq = pR B3 0 3 3 := ⟨_, rfl⟩
  have d4 := d3.dR (o := 0) 3 3 (by decide)
  rw [← q4] at d4
  obtain ⟨B5, q5⟩ : ∃ Nq, Nq = nwD B4 4 3 := ⟨_, rfl⟩
  have d5 := d4.dN 4 3
  rw [← q5] at d5
  obtain ⟨B6, q6⟩ : ∃ Nq, Nq = e4S B5 13 := ⟨_, rfl⟩
  have d6 := (d5.dB (o := 13) 0 11 (by decide)).dB (o := 13) 1 64 (by decide)
  have d6 : Dsz (e4S B5 13) _ _ _ _ _ _ := d6
  rw [← q6] at d6
  obtain ⟨B7, q7⟩ : ∃ Nq, Nq = pR B6 0 4 13 := ⟨_, rfl⟩
  have d7 := d6.dR (o := 0) 4 13 (by decide)
  rw [← q7] at d7
  obtain ⟨B8, q8⟩ : ∃ Nq, Nq = atS B7 14 0 8 100 := ⟨_, rfl⟩
  have d8 := d7.dA (o := 0) 14 8 100 (by decide)
  rw [← q8] at d8
  obtain ⟨B9, q9⟩ : ∃ Nq, Nq = atS B8 14 0 9 100 := ⟨_, rfl⟩
  have d9 := d8.dA (o := 0) 14 9 100 (by decide)
  rw [← q9] at d9
  obtain ⟨B10, q10⟩ : ∃ Nq, Nq = pI (pI B9 0 10 (-1)) 0 11 (-1) := ⟨_, rfl⟩
  have d10 := (d9.dI (o := 0) 10 (-1) (by decide)).dI (o := 0) 11 (-1) (by decide)
  rw [← q10] at d10
  obtain ⟨B11, q11⟩ : ∃ Nq, Nq = nwD B10 8 15 := ⟨_, rfl⟩
  have d11 := d10.dN 8 15
  rw [← q11] at d11
  obtain ⟨B12, I12, c12, d12, i12a, i12b, i12c⟩ := sp_e8 (g := g) (o := 18) d11 (by decide +kernel) (by decide +kernel) hw ex ey
  obtain ⟨B13, q13⟩ : ∃ Nq, Nq = pR B12 0 0 18 := ⟨_, rfl⟩
  have d13 := d12.dR (o := 0) 0 18 (by decide)
  rw [← q13] at d13
  obtain ⟨B14, q14⟩ : ∃ Nq, Nq = nwD B13 8 15 := ⟨_, rfl⟩
  have d14 := d13.dN 8 15
  rw [← q14] at d14
  obtain ⟨B15, I15, c15, d15, i15a, i15b, i15c⟩ := sp_e8 (g := g) (o := 42) d14 (by decide +kernel) (by decide +kernel) hw ex ey
  obtain ⟨B16, q16⟩ : ∃ Nq, Nq = pR B15 0 1 42 := ⟨_, rfl⟩
  have d16 := d15.dR (o := 0) 1 42 (by decide)
  rw [← q16] at d16
  obtain ⟨B17, q17⟩ : ∃ Nq, Nq = nwD B16 3 3 := ⟨_, rfl⟩
  have d17 := d16.dN 3 3
  rw [← q17] at d17
  have j18 : I15 18 = upd (upd (fun _ => 0) 0 (nI w)) 1 (nI h) := by
    rw [i15c 18 (by decide) (by decide) (by decide), i12a, rw1_n _ _ (by decide), rw1_n _ _ (by decide)]
  obtain ⟨B18, c18, d18⟩ := sp_e3 (g := g) (o := 66) (a1 := 18) (a2 := 13) d17 (by decide +kernel) (by decide +kernel) (by decide +kernel) (by decide +kernel) (by decide +kernel) (by decide +kernel) hw (by rw [j18]; rfl) (by rw [j18]; rfl)
  obtain ⟨B19, q19⟩ : ∃ Nq, Nq = pR B18 0 5 66 := ⟨_, rfl⟩
  have d19 := d18.dR (o := 0) 5 66 (by decide)
  rw [← q19] at d19
  obtain ⟨B20, q20⟩ : ∃ Nq, Nq = nwD B19 10 9 := ⟨_, rfl⟩
  have d20 := d19.dN 10 9
  rw [← q20] at d20
  obtain ⟨B21, q21⟩ : ∃ Nq, Nq = e10S B20 68 18 13 := ⟨_, rfl⟩
  have d21 := ((((((d20.dB (o := 68) 2 36 (by decide)).dB (o := 68) 3 36 (by decide)).dA (o := 68) 15 4 36 (by decide)).dB (o := 68) 5 6 (by decide)).dB (o := 68) 6 6 (by decide)).dR (o := 68) 0 18 (by decide)).dR (o := 68) 1 13 (by decide)
  have d21 : Dsz (e10S B20 68 18 13) _ _ _ _ _ _ := d21
  rw [← q21] at d21
  obtain ⟨B22, q22⟩ : ∃ Nq, Nq = pR B21 0 6 68 := ⟨_, rfl⟩
  have d22 := d21.dR (o := 0) 6 68 (by decide)
  rw [← q22] at d22
  obtain ⟨B23, q23⟩ : ∃ Nq, Nq = nwD B22 1 4 := ⟨_, rfl⟩
  have d23 := d22.dN 1 4
  rw [← q23] at d23
  obtain ⟨B24, q24⟩ : ∃ Nq, Nq = e1S B23 74 18 66 := ⟨_, rfl⟩
  have d24 := ((d23.dB (o := 74) 2 6 (by decide)).dR (o := 74) 0 18 (by decide)).dR (o := 74) 1 66 (by decide)
  have d24 : Dsz (e1S B23 74 18 66) _ _ _ _ _ _ := d24
  rw [← q24] at d24
  obtain ⟨B25, q25⟩ : ∃ Nq, Nq = pR B24 0 7 74 := ⟨_, rfl⟩
  have d25 := d24.dR (o := 0) 7 74 (by decide)
  rw [← q25] at d25
  refine ⟨B25, _, _, ?_, ?_, d25, ?_, ?_, ?_, ?_, ?_, ?_⟩
  · omega
  · rw [← q0]
    refine cp_X11_init (d0.km (by decide) (by decide)) ?_
    intro A h1
    subst h1
    refine ⟨arS (nwD B0 2 2) (cx B0) 0 300, sp_in2 (M := B0) (n := 300) (by decide) (by decide), ?_⟩
    intro A h1
    rw [show A = B1 from h1.trans q1.symm]
    clear h1 A
    intro A h1
    rw [show A = B2 from h1.trans q2.symm]
    clear h1 A
    rw [show mx B1 = 3 from d1.1]
    refine ⟨B3, by rw [f3]; exact sp_e5 (d2.km (by decide) (by decide)), ?_⟩
    intro A h1
    rw [show A = B4 from h1.trans q4.symm]
    clear h1 A
    intro A h1
    rw [show A = B5 from h1.trans q5.symm]
    clear h1 A
    rw [show mx B4 = 13 from d4.1]
    refine ⟨B6, by rw [q6]; exact sp_e4 (d5.km (by decide) (by decide)), ?_⟩
    intro A h1
    rw [show A = B7 from h1.trans q7.symm]
    clear h1 A
    intro A h1 B h2
    rw [show B = B8 from by rw [h2, h1]; exact q8.symm]
    clear h2 B h1 A
    intro A h1 B h2
    rw [show B = B9 from by rw [h2, h1]; exact q9.symm]
    clear h2 B h1 A
    intro A h1 B h2
    rw [show B = B10 from by rw [h2, h1]; exact q10.symm]
    clear h2 B h1 A
    intro A h1
    rw [show A = B11 from h1.trans q11.symm]
    clear h1 A
    rw [show mx B10 = 18 from d10.1]
    refine ⟨B12, c12, ?_⟩
    intro A h1
    rw [show A = B13 from h1.trans q13.symm]
    clear h1 A
    intro A h1
    rw [show A = B14 from h1.trans q14.symm]
    clear h1 A
    rw [show mx B13 = 42 from d13.1]
    refine ⟨B15, c15, ?_⟩
    intro A h1
    rw [show A = B16 from h1.trans q16.symm]
    clear h1 A
    intro A h1
    rw [show A = B17 from h1.trans q17.symm]
    clear h1 A
    rw [show mx B16 = 66 from d16.1]
    refine ⟨18, d17.r (a := 0) (k := 0) (b := some 18) (by decide +kernel), d17.km (a := 18) (t := 8) (by decide +kernel) (by decide +kernel), 13, d17.r (a := 0) (k := 4) (b := some 13) (by decide +kernel), d17.km (a := 13) (t := 4) (by decide +kernel) (by decide +kernel), B18, c18, ?_⟩
    intro A h1
    rw [show A = B19 from h1.trans q19.symm]
    clear h1 A
    intro A h1
    rw [show A = B20 from h1.trans q20.symm]
    clear h1 A
    rw [show mx B19 = 68 from d19.1]
    refine ⟨18, d20.r (a := 0) (k := 0) (b := some 18) (by decide +kernel), d20.km (a := 18) (t := 8) (by decide +kernel) (by decide +kernel), 13, d20.r (a := 0) (k := 4) (b := some 13) (by decide +kernel), d20.km (a := 13) (t := 4) (by decide +kernel) (by decide +kernel), B21, by rw [q21]; exact sp_e10 (d20.km (by decide +kernel) (by decide +kernel)) (d20.km (by decide +kernel) (by decide +kernel)) (d20.km (by decide +kernel) (by decide +kernel)), ?_⟩
    intro A h1
    rw [show A = B22 from h1.trans q22.symm]
    clear h1 A
    intro A h1
    rw [show A = B23 from h1.trans q23.symm]
    clear h1 A
    rw [show mx B22 = 74 from d22.1]
    refine ⟨18, d23.r (a := 0) (k := 0) (b := some 18) (by decide +kernel), d23.km (a := 18) (t := 8) (by decide +kernel) (by decide +kernel), 66, d23.r (a := 0) (k := 5) (b := some 66) (by decide +kernel), d23.km (a := 66) (t := 3) (by decide +kernel) (by decide +kernel), B24, by rw [q24]; exact sp_e1 (d23.km (by decide +kernel) (by decide +kernel)) (d23.km (by decide +kernel) (by decide +kernel)) (d23.km (by decide +kernel) (by decide +kernel)), ?_⟩
    intro A h1
    rw [show A = B25 from h1.trans q25.symm]
    clear h1 A
    exact ⟨rfl, rfl⟩
  · rw [rw1_n _ _ (by decide), i15c 0 (by decide) (by decide) (by decide), i12c 0 (by decide) (by decide) (by decide), rw1_s]; rfl
  · rw [rw1_n _ _ (by decide), i15c 0 (by decide) (by decide) (by decide), i12c 0 (by decide) (by decide) (by decide), rw1_s]; rfl
  · intro a ha
    rcases ha with rfl | rfl
    · rw [rw1_n _ _ (by decide)]; exact j18
    · rw [rw1_n _ _ (by decide), i15a, i12c 42 (by decide) (by decide) (by decide), rw1_n _ _ (by decide), rw1_n _ _ (by decide)]
  · have il : ∀ (Z : Zs) (J : Nat → Nat → Int32) (a b : Nat), IL Z J a b (w * h) (List.replicate (w * h) 0) → J a 1 = nI (w * h) ∧ ∀ k, k < w * h → J b k = 0 := fun Z J a b hi => by
      refine ⟨by rw [hi.2.2.2.2.2.2.1, List.length_replicate], fun k hk => ?_⟩
      rw [hi.2.2.2.2.2.2.2 k 0 (by rw [List.getElem?_replicate, if_pos hk])]; rfl
    intro a ha
    rcases ha with rfl | rfl
    · rw [rw1_n _ _ (by decide), rw1_n _ _ (by decide), i15c 40 (by decide) (by decide) (by decide), i15c 41 (by decide) (by decide) (by decide)]
      exact il _ _ _ _ i12b
    · rw [rw1_n _ _ (by decide), rw1_n _ _ (by decide)]
      exact il _ _ _ _ i15b
  · intro k hk
    rw [show (67 : Nat) = 0 + 1 + 2 + 1 + 1 + 6 + 1 + 1 + 1 + 1 + 1 + 1 + 1 + 1 + 23 + 1 + 23 + 1 from rfl, rw1_s, if_pos hk]
  · intro a a1 a2 a3 a4 a5 a6 a7 a8
    rw [rw1_n _ _ a8, i15c a a3 a6 a7, i12c a a2 a4 a5, rw1_n _ _ a1, rw1_n _ _ a1]
end XI
