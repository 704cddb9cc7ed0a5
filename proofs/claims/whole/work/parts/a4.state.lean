/-! the constructor of State, run -/
section ST
variable {g : GE} {M : Mem} {o : Nat}
theorem e8_run {Z : Zs} {L : Nat → Nat → Int64} {kx w h : Nat} (ko : KM Z o 8) (kr : Z.2.1 o 2 = some kx) (n1 : o ≠ kx) (n2 : o ≠ kx + 1) (hm : w * h ≤ 25) : ∀ (d j : Nat) (I : Nat → Nat → Int32), j + d = w * h → IL Z I kx (kx + 1) (w * h) (List.replicate j 0) → I o 0 = nI w → I o 1 = nI h →
    ∃ I1, Lp_X8_init_190 g 3 o (nI j) (Z, I, L) none (Z, I1, L) ∧ IL Z I1 kx (kx + 1) (w * h) (List.replicate (w * h) 0) ∧ ∀ a, a ≠ kx → a ≠ kx + 1 → I1 a = I a := by
  intro d
  induction d with
  | zero =>
    intro j I hj hI h0 h1
    have hj : j = w * h := hj
    subst hj
    refine ⟨I, wp_X8_init_190 (M := (Z, I, L)) ko ⟨fun _ => ⟨rfl, rfl⟩, fun e => absurd ?_ e⟩, hI, fun _ _ _ => rfl⟩
    show I o 0 * I o 1 ≤ nI (w * h)
    rw [h0, h1, pk_mul]
    exact nI_le (Nat.le_refl _) (by omega)
  | succ d ih =>
    intro j I hj hI h0 h1
    obtain ⟨I2, c1, c2, c3⟩ := sp_add (g := g) (L := L) hI 0
    rw [List.length_replicate, if_pos (by omega), ← List.replicate_succ'] at c2
    obtain ⟨I1, e1, e2, e3⟩ := ih (j + 1) I2 (by omega) c2 (by rw [c3 o n1 n2]; exact h0) (by rw [c3 o n1 n2]; exact h1)
    refine ⟨I1, wp_X8_init_190 (M := (Z, I, L)) ko ⟨fun e => absurd e ?_, fun _ => ⟨kx, kr, hI.1, (Z, I2, L), c1, fun y hy => ?_⟩⟩, e2, fun a a1 a2 => (e3 a a1 a2).trans (c3 a a1 a2)⟩
    · show ¬ I o 0 * I o 1 ≤ nI j
      rw [h0, h1, pk_mul]
      exact nI_ge (by omega) (by omega)
    · rw [hy, show nI j + 1 = nI (j + 1) from nI_add j 1]
      exact e1
def e8C (x : Nat) (C : List (Nat × Nat)) : List (Nat × Nat) := (x + 22, 13) :: (x + 21, 2) :: (x + 20, 16) :: (x + 19, 13) :: (x + 18, 2) :: (x + 17, 13) :: (x + 16, 2) :: (x + 15, 13) :: (x + 14, 2) :: (x + 13, 13) :: (x + 12, 2) :: (x + 11, 13) :: (x + 10, 2) :: (x + 9, 13) :: (x + 8, 2) :: (x + 7, 13) :: (x + 6, 2) :: (x + 5, 13) :: (x + 4, 2) :: (x + 3, 13) :: (x + 2, 2) :: (x + 1, 13) :: (x, 2) :: C
def e8N (x n : Nat) (N : List (Nat × Nat)) : List (Nat × Nat) := (x + 22, n) :: (x + 21, 2) :: (x + 20, 4) :: (x + 19, 6) :: (x + 18, 2) :: (x + 17, 6) :: (x + 16, 2) :: (x + 15, 20) :: (x + 14, 2) :: (x + 13, 20) :: (x + 12, 2) :: (x + 11, 20) :: (x + 10, 2) :: (x + 9, 30) :: (x + 8, 2) :: (x + 7, 30) :: (x + 6, 2) :: (x + 5, 16) :: (x + 4, 2) :: (x + 3, 6) :: (x + 2, 2) :: (x + 1, 6) :: (x, 2) :: N
def e8R (x o : Nat) (R : List (Nat × Nat × Nat)) : List (Nat × Nat × Nat) := (o, 2, x + 21) :: (x + 21, 0, x + 22) :: (o, 13, x + 20) :: (o, 12, x + 18) :: (x + 18, 0, x + 19) :: (o, 11, x + 16) :: (x + 16, 0, x + 17) :: (o, 10, x + 14) :: (x + 14, 0, x + 15) :: (o, 9, x + 12) :: (x + 12, 0, x + 13) :: (o, 8, x + 10) :: (x + 10, 0, x + 11) :: (o, 7, x + 8) :: (x + 8, 0, x + 9) :: (o, 6, x + 6) :: (x + 6, 0, x + 7) :: (o, 5, x + 4) :: (x + 4, 0, x + 5) :: (o, 4, x + 2) :: (x + 2, 0, x + 3) :: (o, 3, x) :: (x, 0, x + 1) :: R
theorem sp_e8 {x s : Nat} {C N : List (Nat × Nat)} {R : List (Nat × Nat × Nat)} {I : Nat → Nat → Int32} {w h : Nat} {x1 x2 : Int32} (d : Dsz M x s C N R I) (ho : o < x) (hk : lkq C o = 8) (hw : wh w h) (ex : (if 2 < (if x1 < 5 then x1 else 5) then (if x1 < 5 then x1 else 5) else 2) = nI w) (ey : (if 2 < (if x2 < 5 then x2 else 5) then (if x2 < 5 then x2 else 5) else 2) = nI h) :
    ∃ M' I1, Cl g 3 mu_X8_init [rf g o, .int x1, .int x2] M none M' ∧ Dsz M' (x + 23) (s + 2 + 6 + 2 + 6 + 2 + 16 + 2 + 30 + 2 + 30 + 2 + 20 + 2 + 20 + 2 + 20 + 2 + 6 + 2 + 6 + 4 + 2 + w * h) (e8C x C) (e8N x (w * h) N) (e8R x o R) I1 ∧ I1 o = upd (upd (I o) 0 (nI w)) 1 (nI h) ∧ IL M'.1 I1 (x + 21) (x + 22) (w * h) (List.replicate (w * h) 0) ∧ ∀ a, a ≠ o → a ≠ x + 21 → a ≠ x + 22 → I1 a = I a := by
  have hm : w * h ≤ 25 := Nat.le_trans (Nat.mul_le_mul hw.2.1 hw.2.2.2) (by decide)
  have hp : 0 < w * h := Nat.mul_pos (by have := hw.1; omega) (by have := hw.2.2.1; omega)
  obtain ⟨N1, q1⟩ : ∃ Nq, Nq = inS M o 3 6 := ⟨_, rfl⟩
  have d1 := d.dC (o := o) 3 6 (by omega)
  rw [← q1] at d1
  obtain ⟨N2, q2⟩ : ∃ Nq, Nq = inS N1 o 4 6 := ⟨_, rfl⟩
  have d2 := d1.dC (o := o) 4 6 (by omega)
  rw [← q2] at d2
  obtain ⟨N3, q3⟩ : ∃ Nq, Nq = inS N2 o 5 16 := ⟨_, rfl⟩
  have d3 := d2.dC (o := o) 5 16 (by omega)
  rw [← q3] at d3
  obtain ⟨N4, q4⟩ : ∃ Nq, Nq = inS N3 o 6 30 := ⟨_, rfl⟩
  have d4 := d3.dC (o := o) 6 30 (by omega)
  rw [← q4] at d4
  obtain ⟨N5, q5⟩ : ∃ Nq, Nq = inS N4 o 7 30 := ⟨_, rfl⟩
  have d5 := d4.dC (o := o) 7 30 (by omega)
  rw [← q5] at d5
  obtain ⟨N6, q6⟩ : ∃ Nq, Nq = inS N5 o 8 20 := ⟨_, rfl⟩
  have d6 := d5.dC (o := o) 8 20 (by omega)
  rw [← q6] at d6
  obtain ⟨N7, q7⟩ : ∃ Nq, Nq = inS N6 o 9 20 := ⟨_, rfl⟩
  have d7 := d6.dC (o := o) 9 20 (by omega)
  rw [← q7] at d7
  obtain ⟨N8, q8⟩ : ∃ Nq, Nq = inS N7 o 10 20 := ⟨_, rfl⟩
  have d8 := d7.dC (o := o) 10 20 (by omega)
  rw [← q8] at d8
  obtain ⟨N9, q9⟩ : ∃ Nq, Nq = inS N8 o 11 6 := ⟨_, rfl⟩
  have d9 := d8.dC (o := o) 11 6 (by omega)
  rw [← q9] at d9
  obtain ⟨N10, q10⟩ : ∃ Nq, Nq = inS N9 o 12 6 := ⟨_, rfl⟩
  have d10 := d9.dC (o := o) 12 6 (by omega)
  rw [← q10] at d10
  obtain ⟨N11, q11⟩ : ∃ Nq, Nq = atS N10 16 o 13 4 := ⟨_, rfl⟩
  have d11 := d10.dA (o := o) 16 13 4 (by omega)
  rw [← q11] at d11
  obtain ⟨N12, q12⟩ : ∃ Nq, Nq = pI N11 o 0 (nI w) := ⟨_, rfl⟩
  have d12 := d11.dI (o := o) 0 (nI w) (by omega)
  rw [← q12] at d12
  obtain ⟨N13, q13⟩ : ∃ Nq, Nq = pI N12 o 1 (nI h) := ⟨_, rfl⟩
  have d13 := d12.dI (o := o) 1 (nI h) (by omega)
  rw [← q13] at d13
  obtain ⟨N14, q14⟩ : ∃ Nq, Nq = inS N13 o 2 (w * h) := ⟨_, rfl⟩
  have d14 := d13.dC (o := o) 2 (w * h) (by omega)
  rw [← q14] at d14
  have ko : KM N14.1 o 8 := d14.km (by omega) (by
    simp only [lkq]
    rw [if_neg (by omega), if_neg (by omega), if_neg (by omega), if_neg (by omega), if_neg (by omega), if_neg (by omega), if_neg (by omega), if_neg (by omega), if_neg (by omega), if_neg (by omega), if_neg (by omega), if_neg (by omega), if_neg (by omega), if_neg (by omega), if_neg (by omega), if_neg (by omega), if_neg (by omega), if_neg (by omega), if_neg (by omega), if_neg (by omega), if_neg (by omega), if_neg (by omega), if_neg (by omega)]
    exact hk)
  have kr : N14.1.2.1 o 2 = some (x + 21) := d14.r (if_pos ⟨rfl, rfl⟩)
  have i0 : N14.2.1 o = upd (upd (I o) 0 (nI w)) 1 (nI h) := by
    refine (d14.i o).trans ?_
    rw [rw1_s, rw1_s]
  have i1 : ∀ a, a ≠ o → N14.2.1 a = I a := fun a ha => by
    refine (d14.i a).trans ?_
    rw [rw1_n _ _ ha, rw1_n _ _ ha]
  have il : IL N14.1 N14.2.1 (x + 21) (x + 21 + 1) (w * h) (List.replicate 0 0) := by
    refine ⟨d14.km (by omega) ?_, d14.r ?_, d14.km (by omega) (if_pos rfl), d14.n (if_pos rfl), by omega, Nat.zero_le _, ?_, fun k v hv => by simp at hv⟩
    · show (if x + 21 = x + 22 then _ else if x + 21 = x + 21 then 2 else _) = 2
      rw [if_neg (by omega), if_pos rfl]
    · show (if x + 21 = o ∧ _ then _ else if x + 21 = x + 21 ∧ 0 = 0 then some (x + 22) else _) = _
      rw [if_neg (by omega), if_pos ⟨rfl, rfl⟩]
    · rw [i1 _ (by omega), d.2.2.2.2.2.2.1 _ (by omega)]; rfl
  obtain ⟨I1, c1, c2, c3⟩ := e8_run (g := g) (L := N14.2.2) ko kr (by omega) (by omega) hm (w * h) 0 N14.2.1 (Nat.zero_add _) il (by rw [i0]; rfl) (by rw [i0]; rfl)
  refine ⟨(N14.1, I1, N14.2.2), I1, ?_, d14.re (fun a ha => (c3 a (by omega) (by omega)).trans (d14.i a)), by rw [c3 o (by omega) (by omega)]; exact i0, c2, fun a a1 a2 a3 => (c3 a a2 a3).trans (i1 a a1)⟩
  refine cp_X8_init (d.km ho hk) ?_
  intro A h1
  subst h1
  refine ⟨arS (nwD M 2 2) (cx M) 0 6, sp_in2 (M := M) (n := 6) (by decide) (by decide), ?_⟩
  intro A h1
  rw [show A = N1 from h1.trans q1.symm]
  clear h1 A
  intro A h1
  subst h1
  refine ⟨arS (nwD N1 2 2) (cx N1) 0 6, sp_in2 (M := N1) (n := 6) (by decide) (by decide), ?_⟩
  intro A h1
  rw [show A = N2 from h1.trans q2.symm]
  clear h1 A
  intro A h1
  subst h1
  refine ⟨arS (nwD N2 2 2) (cx N2) 0 16, sp_in2 (M := N2) (n := 16) (by decide) (by decide), ?_⟩
  intro A h1
  rw [show A = N3 from h1.trans q3.symm]
  clear h1 A
  intro A h1
  subst h1
  refine ⟨arS (nwD N3 2 2) (cx N3) 0 30, sp_in2 (M := N3) (n := 30) (by decide) (by decide), ?_⟩
  intro A h1
  rw [show A = N4 from h1.trans q4.symm]
  clear h1 A
  intro A h1
  subst h1
  refine ⟨arS (nwD N4 2 2) (cx N4) 0 30, sp_in2 (M := N4) (n := 30) (by decide) (by decide), ?_⟩
  intro A h1
  rw [show A = N5 from h1.trans q5.symm]
  clear h1 A
  intro A h1
  subst h1
  refine ⟨arS (nwD N5 2 2) (cx N5) 0 20, sp_in2 (M := N5) (n := 20) (by decide) (by decide), ?_⟩
  intro A h1
  rw [show A = N6 from h1.trans q6.symm]
  clear h1 A
  intro A h1
  subst h1
  refine ⟨arS (nwD N6 2 2) (cx N6) 0 20, sp_in2 (M := N6) (n := 20) (by decide) (by decide), ?_⟩
  intro A h1
  rw [show A = N7 from h1.trans q7.symm]
  clear h1 A
  intro A h1
  subst h1
  refine ⟨arS (nwD N7 2 2) (cx N7) 0 20, sp_in2 (M := N7) (n := 20) (by decide) (by decide), ?_⟩
  intro A h1
  rw [show A = N8 from h1.trans q8.symm]
  clear h1 A
  intro A h1
  subst h1
  refine ⟨arS (nwD N8 2 2) (cx N8) 0 6, sp_in2 (M := N8) (n := 6) (by decide) (by decide), ?_⟩
  intro A h1
  rw [show A = N9 from h1.trans q9.symm]
  clear h1 A
  intro A h1
  subst h1
  refine ⟨arS (nwD N9 2 2) (cx N9) 0 6, sp_in2 (M := N9) (n := 6) (by decide) (by decide), ?_⟩
  intro A h1
  rw [show A = N10 from h1.trans q10.symm]
  clear h1 A
  intro A h1 B h2
  rw [show B = N11 from by rw [h2, h1]; exact q11.symm]
  clear h2 B h1 A
  intro A h1 B h2
  rw [show B = N13 from by rw [h2, h1, ex, ey]; rw [q13, q12]; rfl]
  clear h2 B h1 A
  intro A h1
  subst h1
  refine ⟨arS (nwD N13 2 2) (cx N13) 0 (w * h), ?_, ?_⟩
  · have e : mI (nw N13 2 2) o 0 * mI (nw N13 2 2) o 1 = nI (w * h) := by
      have e1 : mI (nw N13 2 2) o = upd (upd (I o) 0 (nI w)) 1 (nI h) := by
        have := (d13.dN 2 2).i o
        rw [rw1_s, rw1_s] at this
        exact this
      rw [e1]
      show nI w * nI h = _
      exact pk_mul w h
    rw [e]
    exact sp_in2 (M := N13) (n := w * h) hp (by omega)
  intro A h1
  rw [show A = N14 from h1.trans q14.symm]
  exact c1
end ST
