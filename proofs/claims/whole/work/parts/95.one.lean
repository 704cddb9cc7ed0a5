/-! the class's reader: ONE and ASK -/
def OPr (g : GE) (Z : Zs) (L : Nat → Nat → Int64) (ts : List (Nat × Nat × Nat)) (cl d : Nat) (μ : MD) (n h i : Nat) (ords : List Nat) (I : Nat → Nat → Int32) (res : PR) : Prop := match res with
  | .inl q => ∃ I1, Cl g d μ [rf g 3] (Z, I, L) none (Z, I1, L) ∧ FDz Z I1 ts q.1 q.2 ∧ q.2 < ts.length ∧ FDr I I1
  | .inr q => ∃ I1 seg, Cl g d μ [rf g 3] (Z, I, L) none (Z, I1, L) ∧ RDz Z I1 ts cl q.2 n (ords ++ seg) ∧ FDr I I1 ∧ i + 1 ≤ q.2 ∧ q.2 < ts.length ∧ seg.length ≤ 2 * (q.2 - i) ∧ SGz ords.length seg h none q.1
section RDB
variable {g : GE} {Z : Zs} {L : Nat → Nat → Int64} {ts : List (Nat × Nat × Nat)} {cl u : Nat} {n i : Nat} {a : EF} {ords : List Nat} {I : Nat → Nat → Int32} {d : Nat}
theorem ih_0 (ih : IHz g Z L ts cl u) (hr : RDz Z I ts cl i n ords) (ho : ords.length ≤ 2 * i) (hd : 5 + 8 * (8 - n) ≤ d) (hn : n ≤ 8) (hi : i < ts.length) (hu : (ts.length - i) * 10 < u) : OPr g Z L ts cl d mu_X5_readOne n (5 * n + 5) i ords I (prF (kT ts) (vT ts) (decide (cl = 13)) u 0 n i a) := by
  have h := ih 0 n i a ords I d 0 ⟨by decide, hr, ho, Nat.zero_le _, hd, hn, hi, hu⟩
  cases hx : prF (kT ts) (vT ts) (decide (cl = 13)) u 0 n i a with
  | inl q => rw [hx] at h; exact h
  | inr q => rw [hx] at h; exact h
theorem ih_3 (ih : IHz g Z L ts cl u) (hr : RDz Z I ts cl i n ords) (ho : ords.length ≤ 2 * i) (hd : 5 + 8 * (8 - n) + 2 ≤ d) (hn : n ≤ 8) (hi : i < ts.length) (hu : (ts.length - i) * 10 + 4 < u) : OPr g Z L ts cl d mu_X5_readSum n (5 * n + 3) i ords I (prF (kT ts) (vT ts) (decide (cl = 13)) u 3 n i a) := by
  have h := ih 3 n i a ords I d 0 ⟨by decide, hr, ho, Nat.zero_le _, hd, hn, hi, hu⟩
  cases hx : prF (kT ts) (vT ts) (decide (cl = 13)) u 3 n i a with
  | inl q => rw [hx] at h; exact h
  | inr q => rw [hx] at h; exact h
theorem ih_5 (ih : IHz g Z L ts cl u) (hr : RDz Z I ts cl i n ords) (ho : ords.length ≤ 2 * i) (hd : 5 + 8 * (8 - n) + 3 ≤ d) (hn : n ≤ 8) (hi : i < ts.length) (hu : (ts.length - i) * 10 + 5 < u) : OPr g Z L ts cl d mu_X5_readAsk n (5 * n + 2) i ords I (prF (kT ts) (vT ts) (decide (cl = 13)) u 5 n i a) := by
  have h := ih 5 n i a ords I d 0 ⟨by decide, hr, ho, Nat.zero_le _, hd, hn, hi, hu⟩
  cases hx : prF (kT ts) (vT ts) (decide (cl = 13)) u 5 n i a with
  | inl q => rw [hx] at h; exact h
  | inr q => rw [hx] at h; exact h
theorem ih_8 (ih : IHz g Z L ts cl u) (hr : RDz Z I ts cl i n ords) (ho : ords.length ≤ 2 * i) (hd : 5 + 8 * (8 - n) + 5 ≤ d) (hn : n ≤ 8) (hi : i < ts.length) (hu : (ts.length - i) * 10 + 9 < u) : OPr g Z L ts cl d mu_X5_readEither n (5 * n + 0) i ords I (prF (kT ts) (vT ts) (decide (cl = 13)) u 8 n i a) := by
  have h := ih 8 n i a ords I d 0 ⟨by decide, hr, ho, Nat.zero_le _, hd, hn, hi, hu⟩
  cases hx : prF (kT ts) (vT ts) (decide (cl = 13)) u 8 n i a with
  | inl q => rw [hx] at h; exact h
  | inr q => rw [hx] at h; exact h
/-- if, behind a fault -/
def IfA (g : GE) (Z : Zs) (v : Int32) (M M' : Mem) : Prop := ∃ I1 L1, Cl g 4 mu_X5_take [rf g 3, .int 15] M none (Z, I1, L1) ∧ ∃ I2 L2, Cl g 1 mu_X5_landHere [rf g 3, .int v] (Z, I1, L1) none (Z, I2, L2) ∧ ((none : Option Value) = none ∧ M' = (Z, I2, L2))
def IfB (g : GE) (Z : Zs) (d : Nat) (v : Int32) (M M' : Mem) : Prop := ∃ I1 L1, Cl g d mu_X5_readSum [rf g 3] M none (Z, I1, L1) ∧ IfA g Z v (Z, I1, L1) M'
def IfC (g : GE) (Z : Zs) (d : Nat) (v : Int32) (M M' : Mem) : Prop := ∃ v1 I1 L1, Cl g 2 mu_X5_orderWith [rf g 3, .int 35, .int 0] M (some (.int v1)) (Z, I1, L1) ∧ ∃ I2 L2, Cl g 1 mu_X5_landHere [rf g 3, .int v] (Z, I1, L1) none (Z, I2, L2) ∧ IfB g Z d v1 (Z, I2, L2) M'
def IfD (g : GE) (Z : Zs) (d : Nat) (v : Int32) (M M' : Mem) : Prop := ∃ I1 L1, Cl g 4 mu_X5_take [rf g 3, .int 35] M none (Z, I1, L1) ∧ IfC g Z d v (Z, I1, L1) M'
def IfE (g : GE) (Z : Zs) (d : Nat) (v : Int32) (M M' : Mem) : Prop := ∃ I1 L1, Cl g d mu_X5_readSum [rf g 3] M none (Z, I1, L1) ∧ IfD g Z d v (Z, I1, L1) M'
def IfF (g : GE) (Z : Zs) (d : Nat) (M M' : Mem) : Prop := ∃ v1 I1 L1, Cl g 2 mu_X5_orderWith [rf g 3, .int 34, .int 0] M (some (.int v1)) (Z, I1, L1) ∧ IfE g Z d v1 (Z, I1, L1) M'
def IfG (g : GE) (Z : Zs) (d : Nat) (M M' : Mem) : Prop := ∃ I1 L1, Cl g 4 mu_X5_take [rf g 3, .int 34] M none (Z, I1, L1) ∧ IfF g Z d (Z, I1, L1) M'
theorem fi_A (hS : Sh Z) {f j : Nat} (h : FDz Z I ts f j) (v : Int32) : ∃ I1, IfA g Z v (Z, I, L) (Z, I1, L) ∧ FDz Z I1 ts f j ∧ FDr I I1 := by
  obtain ⟨J, a1, a2, a3⟩ := fd_land (g := g) (L := L) (x := v) hS h
  exact ⟨J, ⟨I, L, fd_take (x := 15) hS h (by decide), J, L, a1, rfl, rfl⟩, a2, a3⟩
theorem fi_C (hS : Sh Z) {f j : Nat} (h : FDz Z I ts f j) (hd : 7 ≤ d) (v : Int32) : ∃ I1, IfC g Z d v (Z, I, L) (Z, I1, L) ∧ FDz Z I1 ts f j ∧ FDr I I1 := by
  obtain ⟨v1, J1, a1, a2, a3⟩ := fd_orderWith (g := g) (L := L) (x := 35) (y := 0) hS h
  obtain ⟨J2, b1, b2, b3⟩ := fd_land (g := g) (L := L) (x := v) hS a2
  obtain ⟨J3, c1, c2, c3⟩ := fi_A (g := g) (L := L) hS b2 v1
  exact ⟨J3, ⟨v1, J1, L, a1, J2, L, b1, J2, L, fd_sum hS b2 hd, c1⟩, c2, (a3.trans b3).trans c3⟩
theorem fi_D (hS : Sh Z) {f j : Nat} (h : FDz Z I ts f j) (hd : 7 ≤ d) (v : Int32) : ∃ I1, IfD g Z d v (Z, I, L) (Z, I1, L) ∧ FDz Z I1 ts f j ∧ FDr I I1 := by
  obtain ⟨J3, c1, c2, c3⟩ := fi_C (g := g) (L := L) hS h hd v
  exact ⟨J3, ⟨I, L, fd_take (x := 35) hS h (by decide), c1⟩, c2, c3⟩
theorem fi_F (hS : Sh Z) {f j : Nat} (h : FDz Z I ts f j) (hd : 7 ≤ d) : ∃ I1, IfF g Z d (Z, I, L) (Z, I1, L) ∧ FDz Z I1 ts f j ∧ FDr I I1 := by
  obtain ⟨v1, J1, a1, a2, a3⟩ := fd_orderWith (g := g) (L := L) (x := 34) (y := 0) hS h
  obtain ⟨J3, c1, c2, c3⟩ := fi_D (g := g) (L := L) hS a2 hd v1
  exact ⟨J3, ⟨v1, J1, L, a1, J1, L, fd_sum hS a2 hd, c1⟩, c2, a3.trans c3⟩
theorem fi_G (hS : Sh Z) {f j : Nat} (h : FDz Z I ts f j) (hd : 7 ≤ d) : ∃ I1, IfG g Z d (Z, I, L) (Z, I1, L) ∧ FDz Z I1 ts f j ∧ FDr I I1 := by
  obtain ⟨J3, c1, c2, c3⟩ := fi_F (g := g) (L := L) hS h hd
  exact ⟨J3, ⟨I, L, fd_take (x := 34) hS h (by decide), c1⟩, c2, c3⟩
theorem set_two (P S : List Nat) (c v w : Nat) : (P ++ [c, v] ++ S).set (P.length + 1) w = P ++ [c, w] ++ S := by
  rw [List.append_assoc, List.set_append_right _ _ (by omega), Nat.add_sub_cancel_left, List.append_assoc]; rfl
/-- if, behind its word -/
theorem op_if (hS : Sh Z) (hT : TSz ts) (ih : IHz g Z L ts cl u) (hr : RDz Z I ts cl i (n + 1) ords) (ho : ords.length ≤ 2 * i) (hd : 11 + 8 * (7 - n) ≤ d) (hn : n < 8) (hi : i < ts.length) (hu : (ts.length - i) * 10 + 9 < u) : OPr g Z L ts cl d mu_X5_readIf (n + 1) (5 * n + 5) i ords I (bnd (prF (kT ts) (vT ts) (decide (cl = 13)) u 8 (n + 1) i a) (fun c j => if kT ts j = 34 then bnd (prF (kT ts) (vT ts) (decide (cl = 13)) u 3 (n + 1) (j + 1) a) (fun f k => if kT ts k = 35 then bnd (prF (kT ts) (vT ts) (decide (cl = 13)) u 3 (n + 1) (k + 1) a) (fun e l => if kT ts l = 15 then .inr (fun env => if c env = 0 then e env else f env, l + 1) else .inl (1, l)) else .inl (1, k)) else .inl (1, j))) := by
  have hlen := hT.2.1
  have k3 := hS.k 3 5 (by decide) (by decide)
  have go : ∀ {I1 I2 : Nat → Nat → Int32}, Cl g (d - 1) mu_X5_readEither [rf g 3] (Z, I, L) none (Z, I1, L) → IfG g Z (d - 1) (Z, I1, L) (Z, I2, L) → Cl g d mu_X5_readIf [rf g 3] (Z, I, L) none (Z, I2, L) := fun {I1 I2} h1 h2 => cp_X5_readIf (d := d) (dc := d - 1) (by omega) (by omega) k3 ⟨I1, L, h1, h2⟩
  have h1 := ih_8 (a := a) (d := d - 1) ih hr ho (by omega) (by omega) hi hu
  cases hx : prF (kT ts) (vT ts) (decide (cl = 13)) u 8 (n + 1) i a with
  | inl q =>
    rw [hx] at h1
    obtain ⟨J, r1, r2, r3, r4⟩ := h1
    obtain ⟨J2, s1, s2, s3⟩ := fi_G (g := g) (L := L) (d := d - 1) hS r2 (by omega)
    rw [bnd_inl rfl]
    exact ⟨J2, go r1 s1, s2, r3, r4.trans s3⟩
  | inr q =>
  obtain ⟨c, j⟩ := q
  rw [hx] at h1
  obtain ⟨J1, A, r1, r2, r3, r4, r5, r6, r7⟩ := h1
  rw [bnd_inr rfl]
  have r4 : i + 1 ≤ j := r4
  have r5 : j < ts.length := r5
  have r6 : A.length ≤ 2 * (j - i) := r6
  have lA : (ords ++ A).length = ords.length + A.length := List.length_append
  have t34 := sp_take (g := g) (L := L) hS r2 hT r5 (x := 34) (by decide)
  by_cases q34 : kT ts j = 34
  case neg =>
    rw [if_neg q34]
    obtain ⟨J2, s1, s2, s3⟩ := t34.2 q34
    obtain ⟨J3, p1, p2, p3⟩ := fi_F (g := g) (L := L) (d := d - 1) hS s2 (by omega)
    exact ⟨J3, go r1 ⟨J2, L, s1, p1⟩, p2, r5, (r3.trans s3).trans p3⟩
  rw [if_pos q34]
  obtain ⟨J2, s1, s2, s3⟩ := t34.1 q34
  have j1 := hT.nx r5 (by omega)
  obtain ⟨J3, o1, o2, o3⟩ := sp_orderWith (g := g) (L := L) hS s2 (by omega) 34 0
  obtain ⟨v7, hv7⟩ : ∃ v, v = (ords ++ A).length + 1 := ⟨_, rfl⟩
  rw [← hv7] at o1
  have lA2 : (ords ++ A ++ [34, 0]).length = ords.length + A.length + 2 := by rw [List.length_append, lA]; rfl
  have h2 := ih_3 (a := a) (d := d - 1) ih o2 (by omega) (by omega) (by omega) j1 (by omega)
  cases hy : prF (kT ts) (vT ts) (decide (cl = 13)) u 3 (n + 1) (j + 1) a with
  | inl q =>
    rw [hy] at h2
    obtain ⟨J4, p1, p2, p3, p4⟩ := h2
    rw [bnd_inl rfl]
    obtain ⟨J5, e1, e2, e3⟩ := fi_D (g := g) (L := L) (d := d - 1) hS p2 (by omega) (nI v7)
    exact ⟨J5, go r1 ⟨J2, L, s1, nI v7, J3, L, o1, J4, L, p1, e1⟩, e2, p3, ((r3.trans s3).trans o3).trans (p4.trans e3)⟩
  | inr q =>
  obtain ⟨f, k⟩ := q
  rw [hy] at h2
  obtain ⟨J4, B, p1, p2, p3, p4, p5, p6, p7⟩ := h2
  rw [bnd_inr rfl]
  have p4 : j + 1 + 1 ≤ k := p4
  have p5 : k < ts.length := p5
  have p6 : B.length ≤ 2 * (k - (j + 1)) := p6
  have lB : (ords ++ A ++ [34, 0] ++ B).length = ords.length + A.length + 2 + B.length := by rw [List.length_append, lA2]
  have t35 := sp_take (g := g) (L := L) hS p2 hT p5 (x := 35) (by decide)
  by_cases q35 : kT ts k = 35
  case neg =>
    rw [if_neg q35]
    obtain ⟨J5, w1, w2, w3⟩ := t35.2 q35
    obtain ⟨J6, e1, e2, e3⟩ := fi_C (g := g) (L := L) (d := d - 1) hS w2 (by omega) (nI v7)
    exact ⟨J6, go r1 ⟨J2, L, s1, nI v7, J3, L, o1, J4, L, p1, J5, L, w1, e1⟩, e2, p5, ((r3.trans s3).trans o3).trans ((p3.trans w3).trans e3)⟩
  rw [if_pos q35]
  obtain ⟨J5, w1, w2, w3⟩ := t35.1 q35
  have k1 := hT.nx p5 (by omega)
  obtain ⟨J6, x1, x2, x3⟩ := sp_orderWith (g := g) (L := L) hS w2 (by omega) 35 0
  obtain ⟨v17, hv17⟩ : ∃ v, v = (ords ++ A ++ [34, 0] ++ B).length + 1 := ⟨_, rfl⟩
  rw [← hv17] at x1
  have lB2 : (ords ++ A ++ [34, 0] ++ B ++ [35, 0]).length = ords.length + A.length + 2 + B.length + 2 := by rw [List.length_append, lB]; rfl
  obtain ⟨J7, y1, y2, y3⟩ := sp_land (g := g) (L := L) hS x2 (k := v7) (by omega)
  obtain ⟨X, hX⟩ : ∃ X, X = ords.length + A.length + 2 + B.length + 2 := ⟨_, rfl⟩
  have st1 : (ords ++ A ++ [34, 0] ++ B ++ [35, 0]).set v7 (ords ++ A ++ [34, 0] ++ B ++ [35, 0]).length = ords ++ A ++ [34, X] ++ B ++ [35, 0] := by
    rw [lB2, ← hX, hv7]
    have := set_two (ords ++ A) (B ++ [35, 0]) 34 0 X
    rw [← List.append_assoc, ← List.append_assoc] at this
    exact this
  rw [st1] at y2
  have lB3 : (ords ++ A ++ [34, X] ++ B).length = ords.length + A.length + 2 + B.length := by rw [List.length_append, List.length_append, lA]; rfl
  have lB4 : (ords ++ A ++ [34, X] ++ B ++ [35, 0]).length = X := by rw [List.length_append, lB3, hX]; rfl
  have h3 := ih_3 (a := a) (d := d - 1) ih y2 (by omega) (by omega) (by omega) k1 (by omega)
  cases hz : prF (kT ts) (vT ts) (decide (cl = 13)) u 3 (n + 1) (k + 1) a with
  | inl q =>
    rw [hz] at h3
    obtain ⟨J8, z1, z2, z3, z4⟩ := h3
    rw [bnd_inl rfl]
    obtain ⟨J9, e1, e2, e3⟩ := fi_A (g := g) (L := L) hS z2 (nI v17)
    exact ⟨J9, go r1 ⟨J2, L, s1, nI v7, J3, L, o1, J4, L, p1, J5, L, w1, nI v17, J6, L, x1, J7, L, y1, J8, L, z1, e1⟩, e2, z3, ((r3.trans s3).trans o3).trans ((((p3.trans w3).trans x3).trans y3).trans (z4.trans e3))⟩
  | inr q =>
  obtain ⟨e, l⟩ := q
  rw [hz] at h3
  obtain ⟨J8, C, z1, z2, z3, z4, z5, z6, z7⟩ := h3
  rw [bnd_inr rfl]
  have z4 : k + 1 + 1 ≤ l := z4
  have z5 : l < ts.length := z5
  have z6 : C.length ≤ 2 * (l - (k + 1)) := z6
  have lC : (ords ++ A ++ [34, X] ++ B ++ [35, 0] ++ C).length = X + C.length := by rw [List.length_append, lB4]
  have t15 := sp_take (g := g) (L := L) hS z2 hT z5 (x := 15) (by decide)
  by_cases q15 : kT ts l = 15
  case neg =>
    rw [if_neg q15]
    obtain ⟨J9, e1, e2, e3⟩ := t15.2 q15
    obtain ⟨Ja, g1, g2, g3⟩ := fd_land (g := g) (L := L) (x := nI v17) hS e2
    exact ⟨Ja, go r1 ⟨J2, L, s1, nI v7, J3, L, o1, J4, L, p1, J5, L, w1, nI v17, J6, L, x1, J7, L, y1, J8, L, z1, J9, L, e1, Ja, L, g1, rfl, rfl⟩, g2, z5, ((r3.trans s3).trans o3).trans ((((p3.trans w3).trans x3).trans y3).trans ((z3.trans e3).trans g3))⟩
  rw [if_pos q15]
  obtain ⟨J9, e1, e2, e3⟩ := t15.1 q15
  have l1 := hT.nx z5 (by omega)
  obtain ⟨Ja, g1, g2, g3⟩ := sp_land (g := g) (L := L) hS e2 (k := v17) (by omega)
  have st2 : (ords ++ A ++ [34, X] ++ B ++ [35, 0] ++ C).set v17 (ords ++ A ++ [34, X] ++ B ++ [35, 0] ++ C).length = ords ++ (A ++ [34, X] ++ B ++ [35, X + C.length] ++ C) := by
    rw [lC, hv17, lB, ← lB3, set_two]
    simp only [List.append_assoc]
  rw [st2] at g2
  refine ⟨Ja, A ++ [34, X] ++ B ++ [35, X + C.length] ++ C, go r1 ⟨J2, L, s1, nI v7, J3, L, o1, J4, L, p1, J5, L, w1, nI v17, J6, L, x1, J7, L, y1, J8, L, z1, J9, L, e1, Ja, L, g1, rfl, rfl⟩, g2, ((r3.trans s3).trans o3).trans ((((p3.trans w3).trans x3).trans y3).trans ((z3.trans e3).trans g3)), by show i + 1 ≤ l + 1; omega, l1, by show (A ++ [34, X] ++ B ++ [35, X + C.length] ++ C).length ≤ 2 * (l + 1 - i); simp only [List.length_append, List.length_cons, List.length_nil]; omega, ?_⟩
  rw [lA2] at p7
  rw [lB4, hX] at z7
  rw [hX]
  exact sg_if (sg_less r7 (by omega)) (sg_less p7 (by omega)) (sg_less z7 (by omega)) (by omega)
end RDB
