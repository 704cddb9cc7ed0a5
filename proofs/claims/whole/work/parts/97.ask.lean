/-! the class's reader: ASK, and all of it -/
section RDD
variable {g : GE} {Z : Zs} {L : Nat → Nat → Int64} {ts : List (Nat × Nat × Nat)} {cl u : Nat} {n i : Nat} {a : EF} {ords : List Nat} {I : Nat → Nat → Int32} {d : Nat}
theorem s5_18 (hS : Sh Z) (hT : TSz ts) (ih : IHz g Z L ts cl u) (hr : RDz Z I ts cl i n ords) (hk : kT ts i = 18) (ho : ords.length ≤ 2 * i) (hd : 8 + 8 * (8 - n) ≤ d) (hn : n ≤ 8) (hi : i < ts.length) (hu : (ts.length - i) * 10 ≤ u) : OPr g Z L ts cl d mu_X5_readAsk n (5 * n + 2) i ords I (if n < 8 then bnd (prF (kT ts) (vT ts) (decide (cl = 13)) u 5 (n + 1) (i + 1) a) (fun f j => .inr (fun env => if f env = 0 then 1 else 0, j)) else .inl (3, i)) := by
  have hlen := hT.2.1
  have e : I 3 5 = 18 := (hr.k hT (x := 18) (by decide)).mpr hk
  have op := sp_opens (g := g) (L := L) hS hr hi hn
  have k3 := hS.k 3 5 (by decide) (by decide)
  by_cases h8 : n < 8
  · rw [if_pos h8]
    obtain ⟨J, a1, a2, a3⟩ := op.1 h8
    obtain ⟨J1, b1, b2, b3⟩ := sp_rnext (g := g) (L := L) hS a2 (by omega)
    have hi1 := hT.nx hi (by omega)
    have go : ∀ {J2 J3 J4 : Nat → Nat → Int32}, Cl g (d - 1) mu_X5_readAsk [rf g 3] (Z, J1, L) none (Z, J2, L) → Cl g 1 mu_X5_order [rf g 3, .int 18] (Z, J2, L) none (Z, J3, L) → J4 = rw1 J3 3 (upd (J3 3) 7 ((J3 3 7) - 1)) → Cl g d mu_X5_readAsk [rf g 3] (Z, I, L) none (Z, J4, L) := fun {J2 J3 J4} h1 h2 h4 => cp_X5_readAsk (d := d) (dc := d - 1) (by omega) (by omega) k3 ⟨fun z => absurd e z, fun _ => ⟨1, J, L, a1, fun z => absurd z (by decide), fun _ => ⟨J1, L, b1, J2, L, h1, J3, L, h2, fun I8 h8 => ⟨rfl, by rw [h8, ← h4]⟩⟩⟩⟩
    have h1 := ih_5 (a := a) (d := d - 1) ih b2 (by omega) (by omega) (by omega) hi1 (by omega)
    cases hx : prF (kT ts) (vT ts) (decide (cl = 13)) u 5 (n + 1) (i + 1) a with
    | inl q =>
      rw [hx] at h1
      obtain ⟨J2, r1, r2, r3, r4⟩ := h1
      rw [bnd_inl rfl]
      obtain ⟨J3, s1, s2, s3⟩ := fd_order (g := g) (L := L) (x := 18) hS r2
      have c := fd_open (I1 := rw1 J3 3 (upd (J3 3) 7 ((J3 3 7) - 1))) hS s2 rfl
      exact ⟨_, go r1 s1 rfl, c.1, r3, ((a3.trans b3).trans r4).trans (s3.trans c.2)⟩
    | inr q =>
      obtain ⟨f, j⟩ := q
      rw [hx] at h1
      obtain ⟨J2, A, r1, r2, r3, r4, r5, r6, r7⟩ := h1
      rw [bnd_inr rfl]
      have r4 : i + 1 + 1 ≤ j := r4
      have r5 : j < ts.length := r5
      have r6 : A.length ≤ 2 * (j - (i + 1)) := r6
      have lA : (ords ++ A).length = ords.length + A.length := List.length_append
      obtain ⟨J3, s1, s2, s3⟩ := sp_order (g := g) (L := L) hS r2 (by omega) 18
      have c := rd_close (I1 := rw1 J3 3 (upd (J3 3) 7 ((J3 3 7) - 1))) s2 rfl
      refine ⟨_, A ++ [18], go r1 s1 rfl, by rw [← List.append_assoc]; exact c.1, ((a3.trans b3).trans r3).trans (s3.trans c.2), by show i + 1 ≤ j; omega, r5, by show (A ++ [18]).length ≤ 2 * (j - i); rw [List.length_append, List.length_singleton]; omega, sg_not (sg_less r7 (by omega))⟩
  · rw [if_neg h8]
    obtain ⟨J, a1, a2, a3⟩ := op.2 h8
    exact ⟨J, cp_X5_readAsk (d := d) (dc := d - 1) (by omega) (by omega) k3 ⟨fun z => absurd e z, fun _ => ⟨0, J, L, a1, fun _ => ⟨rfl, rfl⟩, fun z => absurd rfl z⟩⟩, a2, hi, a3⟩
theorem s5_n (hS : Sh Z) (hT : TSz ts) (ih : IHz g Z L ts cl u) (hr : RDz Z I ts cl i n ords) (hk : ¬ kT ts i = 18) (ho : ords.length ≤ 2 * i) (hd : 8 + 8 * (8 - n) ≤ d) (hn : n ≤ 8) (hi : i < ts.length) (hu : (ts.length - i) * 10 + 4 < u) : OPr g Z L ts cl d mu_X5_readAsk n (5 * n + 2) i ords I (bnd (prF (kT ts) (vT ts) (decide (cl = 13)) u 3 n i a) (fun f j => if 21 ≤ kT ts j ∧ kT ts j ≤ 26 then bnd (prF (kT ts) (vT ts) (decide (cl = 13)) u 3 n (j + 1) a) (fun e k => .inr (jf (kT ts j) f e, k)) else .inl (1, j))) := by
  have hlen := hT.2.1
  have e : ¬ I 3 5 = 18 := fun z => hk ((hr.k hT (x := 18) (by decide)).mp z)
  have k3 := hS.k 3 5 (by decide) (by decide)
  have h1 := ih_3 (a := a) (d := d - 1) ih hr ho (by omega) hn hi hu
  cases hx : prF (kT ts) (vT ts) (decide (cl = 13)) u 3 n i a with
  | inl q =>
    rw [hx] at h1
    obtain ⟨J1, r1, r2, r3, r4⟩ := h1
    rw [bnd_inl rfl]
    refine ⟨J1, cp_X5_readAsk (d := d) (dc := d - 1) (by omega) (by omega) k3 ⟨fun _ => ⟨J1, L, r1, fun y hy => ⟨fun _ => ⟨J1, L, fd_fail hS r2, rfl, rfl⟩, fun _ => ⟨fun z => ?_, fun _ => ⟨J1, L, fd_fail hS r2, rfl, rfl⟩⟩⟩⟩, fun z => absurd z e⟩, r2, r3, r4⟩
    rw [hy, r2.2.1] at z; exact absurd z (by decide)
  | inr q =>
  obtain ⟨f, j⟩ := q
  rw [hx] at h1
  obtain ⟨J1, A, r1, r2, r3, r4, r5, r6, r7⟩ := h1
  rw [bnd_inr rfl]
  have r2 : RDz Z J1 ts cl j n (ords ++ A) := r2
  have r4 : i + 1 ≤ j := r4
  have r5 : j < ts.length := r5
  have r6 : A.length ≤ 2 * (j - i) := r6
  have lA : (ords ++ A).length = ords.length + A.length := List.length_append
  have hkj := hT.2.2.2.1 j
  have c21 : J1 3 5 < 21 ↔ kT ts j < 21 := by rw [r2.2.2.1]; exact nI_ltI (b := 21) (by omega) (by decide)
  have c26 : J1 3 5 ≤ 26 ↔ kT ts j ≤ 26 := by rw [r2.2.2.1]; exact nI_leI (b := 26) (by omega) (by decide)
  by_cases hc : 21 ≤ kT ts j ∧ kT ts j ≤ 26
  case neg =>
    rw [if_neg hc]
    obtain ⟨J2, s1, s2, s3⟩ := sp_rfail (g := g) (L := L) hS r2 r5 (f := 1) (by decide) (by decide)
    refine ⟨J2, cp_X5_readAsk (d := d) (dc := d - 1) (by omega) (by omega) k3 ⟨fun _ => ⟨J1, L, r1, fun y hy => ⟨fun _ => ⟨J2, L, s1, rfl, rfl⟩, fun z1 => ⟨fun z => ?_, fun _ => ⟨J2, L, s1, rfl, rfl⟩⟩⟩⟩, fun z => absurd z e⟩, s2, r5, r3.trans s3⟩
    rw [hy, c26] at z
    rw [hy, c21] at z1
    exact absurd ⟨by omega, z⟩ hc
  rw [if_pos hc]
  obtain ⟨J2, s1, s2, s3⟩ := sp_rnext (g := g) (L := L) hS r2 (by omega)
  have j1 := hT.nx r5 (by omega)
  have go : ∀ {J3 J4 : Nat → Nat → Int32}, Cl g (d - 1) mu_X5_readSum [rf g 3] (Z, J2, L) none (Z, J3, L) → Cl g 1 mu_X5_order [rf g 3, .int (nI (kT ts j))] (Z, J3, L) none (Z, J4, L) → Cl g d mu_X5_readAsk [rf g 3] (Z, I, L) none (Z, J4, L) := fun {J3 J4} h1 h2 => by
    refine cp_X5_readAsk (d := d) (dc := d - 1) (by omega) (by omega) k3 ⟨fun _ => ⟨J1, L, r1, fun y hy => ⟨fun z => ?_, fun _ => ⟨fun _ => ⟨J2, L, s1, J3, L, h1, J4, L, ?_, rfl, rfl⟩, fun z => ?_⟩⟩⟩, fun z => absurd z e⟩
    · rw [hy, c21] at z; omega
    · rw [hy, r2.2.2.1]; exact h2
    · rw [hy, c26] at z; omega
  have h2 := ih_3 (a := a) (d := d - 1) ih s2 (by omega) (by omega) hn j1 (by omega)
  cases hy : prF (kT ts) (vT ts) (decide (cl = 13)) u 3 n (j + 1) a with
  | inl q =>
    rw [hy] at h2
    obtain ⟨J3, p1, p2, p3, p4⟩ := h2
    rw [bnd_inl rfl]
    obtain ⟨J4, t1, t2, t3⟩ := fd_order (g := g) (L := L) (x := nI (kT ts j)) hS p2
    exact ⟨J4, go p1 t1, t2, p3, (r3.trans s3).trans (p4.trans t3)⟩
  | inr q =>
    obtain ⟨e2, k⟩ := q
    rw [hy] at h2
    obtain ⟨J3, B, p1, p2, p3, p4, p5, p6, p7⟩ := h2
    rw [bnd_inr rfl]
    have p4 : j + 1 + 1 ≤ k := p4
    have p5 : k < ts.length := p5
    have p6 : B.length ≤ 2 * (k - (j + 1)) := p6
    have lB : (ords ++ A ++ B).length = ords.length + A.length + B.length := by rw [List.length_append, lA]
    obtain ⟨J4, t1, t2, t3⟩ := sp_order (g := g) (L := L) hS p2 (by omega) (kT ts j)
    refine ⟨J4, A ++ (B ++ [kT ts j]), go p1 t1, by rw [← List.append_assoc, ← List.append_assoc]; exact t2, (r3.trans s3).trans (p3.trans t3), by show i + 1 ≤ k; omega, p5, by show (A ++ (B ++ [kT ts j])).length ≤ 2 * (k - i); rw [List.length_append, List.length_append, List.length_singleton]; omega, ?_⟩
    rw [lA] at p7
    have hj : isJ (kT ts j) := by unfold isJ; omega
    exact sg_seq (sg_less r7 (by omega)) (sg_bin (h := 5 * n + 2) (a := f) hj p7) (Nat.le_refl _)
theorem st_5 (hS : Sh Z) (hT : TSz ts) (ih : IHz g Z L ts cl u) {k : Nat} (h : CNd Z I ts cl (u + 1) d 5 k n i ords) : OKz g Z L ts cl d 5 k n i a ords I (prF (kT ts) (vT ts) (decide (cl = 13)) (u + 1) 5 n i a) := by
  obtain ⟨-, hr, ho, -, hd, hn, hi, hu⟩ := h
  have hd : 5 + 8 * (8 - n) + 3 ≤ d := hd
  have hu : (ts.length - i) * 10 + 5 < u + 1 := hu
  have w : OPr g Z L ts cl d mu_X5_readAsk n (5 * n + 2) i ords I (prF (kT ts) (vT ts) (decide (cl = 13)) (u + 1) 5 n i a) := by
    show OPr g Z L ts cl d mu_X5_readAsk n (5 * n + 2) i ords I (if kT ts i = 18 then (if n < 8 then _ else _) else _)
    by_cases h18 : kT ts i = 18
    · rw [if_pos h18]; exact s5_18 hS hT ih hr h18 ho (by omega) hn hi (by omega)
    · rw [if_neg h18]; exact s5_n hS hT ih hr h18 ho (by omega) hn hi (by omega)
  cases hx : prF (kT ts) (vT ts) (decide (cl = 13)) (u + 1) 5 n i a with
  | inl q => rw [hx] at w; exact w
  | inr q => rw [hx] at w; exact w
theorem rd_all (hS : Sh Z) (hT : TSz ts) (hcl : cl < 2 ^ 31) : ∀ u, IHz g Z L ts cl u
  | 0 => fun m n i a ords I d k h => absurd h.2.2.2.2.2.2.2 (Nat.not_lt_zero _)
  | u + 1 => fun m n i a ords I d k h => by
    have ih := rd_all hS hT hcl u
    match m, h with
    | 0, h => exact st_0 hS hT hcl ih h
    | 1, h => exact st_1 hS hT ih h
    | 2, h => exact st_2 hS hT ih h
    | 3, h => exact st_3 hS hT ih h
    | 4, h => exact st_4 hS hT ih h
    | 5, h => exact st_5 hS hT ih h
    | 6, h => exact st_6 hS hT ih h
    | 7, h => exact st_7 hS hT ih h
    | 8, h => exact st_8 hS hT ih h
    | 9, h => exact st_9 hS hT ih h
    | m + 10, h => exact absurd h.1 (by omega)
end RDD
