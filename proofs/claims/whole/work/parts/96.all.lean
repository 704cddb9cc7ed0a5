/-! the class's reader: ONE and ASK, and all of it -/
def OpF (g : GE) (Z : Zs) (d : Nat) (M M' : Mem) : Prop := ∃ v1 I2 L3, Cl g 4 mu_X5_opens [rf g 3] M (some (.int v1)) (Z, I2, L3) ∧ ((v1 = 0 → ((none : Option Value) = none ∧ M' = (Z, I2, L3))) ∧ (¬ v1 = 0 → (∃ I5 L6, Cl g d mu_X5_readOpened [rf g 3] (Z, I2, L3) none (Z, I5, L6) ∧ (∀ I8, I8 = rw1 I5 3 (upd (I5 3) 7 ((I5 3 7) - 1)) → ((none : Option Value) = none ∧ M' = (Z, I8, L6))))))
section RDC
variable {g : GE} {Z : Zs} {L : Nat → Nat → Int64} {ts : List (Nat × Nat × Nat)} {cl u : Nat} {n i : Nat} {a : EF} {ords : List Nat} {I : Nat → Nat → Int32} {d : Nat}
theorem one_of (hS : Sh Z) (hT : TSz ts) (hr : RDz Z I ts cl i n ords) (hk : kT ts i = 31 ∨ kT ts i = 28 ∨ kT ts i = 14) (hd : 5 ≤ d) {M' : Mem} (h : OpF g Z (d - 1) (Z, I, L) M') : Cl g d mu_X5_readOne [rf g 3] (Z, I, L) none M' := by
  have e := fun x (hx : x < 2 ^ 31) => hr.k hT (x := x) hx
  refine cp_X5_readOne (d := d) (dc := d - 1) (by omega) hd (hS.k 3 5 (by decide) (by decide)) ⟨fun _ => ⟨fun _ => ⟨fun _ => h, fun n1 => ⟨fun _ => h, fun n2 => ⟨fun _ => h, fun n3 => ?_⟩⟩⟩, fun z => ?_⟩, fun z => ?_⟩
  · have z1 : ¬ kT ts i = 31 := fun z => n1 ((e 31 (by decide)).mpr z)
    have z2 : ¬ kT ts i = 28 := fun z => n2 ((e 28 (by decide)).mpr z)
    have z3 : ¬ kT ts i = 14 := fun z => n3 ((e 14 (by decide)).mpr z)
    omega
  · have := (e 20 (by decide)).mp z; omega
  · have := (e 19 (by decide)).mp z; omega
/-- what is opened is closed again -/
theorem op_wrap (hS : Sh Z) (hT : TSz ts) (hr : RDz Z I ts cl i n ords) (hk : kT ts i = 31 ∨ kT ts i = 28 ∨ kT ts i = 14) (hd : 5 ≤ d) (hn : n ≤ 8) (hi : i < ts.length) {res : PR} (h : n < 8 → ∀ J, RDz Z J ts cl i (n + 1) ords → OPr g Z L ts cl (d - 1) mu_X5_readOpened (n + 1) (5 * n + 5) i ords J res) : OPr g Z L ts cl d mu_X5_readOne n (5 * n + 5) i ords I (if n < 8 then res else .inl (3, i)) := by
  have op := sp_opens (g := g) (L := L) hS hr hi hn
  by_cases h8 : n < 8
  · rw [if_pos h8]
    obtain ⟨J, a1, a2, a3⟩ := op.1 h8
    have w := h h8 J a2
    cases res with
    | inl q =>
      obtain ⟨J1, r1, r2, r3, r4⟩ := w
      obtain ⟨J2, hJ2⟩ : ∃ J2, J2 = rw1 J1 3 (upd (J1 3) 7 (J1 3 7 - 1)) := ⟨_, rfl⟩
      have c := fd_open hS r2 hJ2
      exact ⟨J2, one_of hS hT hr hk hd ⟨1, J, L, a1, fun z => absurd z (by decide), fun _ => ⟨J1, L, r1, fun I8 h8 => ⟨rfl, by rw [h8, ← hJ2]⟩⟩⟩, c.1, r3, (a3.trans r4).trans c.2⟩
    | inr q =>
      obtain ⟨J1, seg, r1, r2, r3, r4⟩ := w
      obtain ⟨J2, hJ2⟩ : ∃ J2, J2 = rw1 J1 3 (upd (J1 3) 7 (J1 3 7 - 1)) := ⟨_, rfl⟩
      have c := rd_close r2 hJ2
      exact ⟨J2, seg, one_of hS hT hr hk hd ⟨1, J, L, a1, fun z => absurd z (by decide), fun _ => ⟨J1, L, r1, fun I8 h8 => ⟨rfl, by rw [h8, ← hJ2]⟩⟩⟩, c.1, (a3.trans r3).trans c.2, r4⟩
  · rw [if_neg h8]
    obtain ⟨J, a1, a2, a3⟩ := op.2 h8
    exact ⟨J, one_of hS hT hr hk hd ⟨0, J, L, a1, fun _ => ⟨rfl, rfl⟩, fun z => absurd rfl z⟩, a2, hi, a3⟩
/-- ( SUM ) -/
theorem oo_31 (hS : Sh Z) (hT : TSz ts) (ih : IHz g Z L ts cl u) (hr : RDz Z I ts cl i (n + 1) ords) (hk : kT ts i = 31) (ho : ords.length ≤ 2 * i) (hd : 12 + 8 * (7 - n) ≤ d) (hn : n < 8) (hi : i < ts.length) (hu : (ts.length - i) * 10 ≤ u) : OPr g Z L ts cl d mu_X5_readOpened (n + 1) (5 * n + 5) i ords I (bnd (prF (kT ts) (vT ts) (decide (cl = 13)) u 3 (n + 1) (i + 1) a) (fun f j => if kT ts j = 32 then .inr (f, j + 1) else .inl (1, j))) := by
  have hlen := hT.2.1
  obtain ⟨J, a1, a2, a3⟩ := sp_rnext (g := g) (L := L) hS hr (by omega)
  have hi1 := hT.nx hi (by omega)
  have go : ∀ {J2 J3 : Nat → Nat → Int32}, Cl g (d - 1) mu_X5_readSum [rf g 3] (Z, J, L) none (Z, J2, L) → Cl g 4 mu_X5_take [rf g 3, .int 32] (Z, J2, L) none (Z, J3, L) → Cl g d mu_X5_readOpened [rf g 3] (Z, I, L) none (Z, J3, L) := fun {J2 J3} h1 h2 => cp_X5_readOpened (d := d) (dc := d - 1) (by omega) (by omega) (hS.k 3 5 (by decide) (by decide)) (fun y hy => ⟨J, L, a1, fun z => absurd (by rw [hy]; exact (hr.k hT (x := 31) (by decide)).mpr hk) z, fun _ => ⟨J2, L, h1, J3, L, h2, rfl, rfl⟩⟩)
  have h1 := ih_3 (a := a) (d := d - 1) ih a2 (by omega) (by omega) (by omega) hi1 (by omega)
  cases hx : prF (kT ts) (vT ts) (decide (cl = 13)) u 3 (n + 1) (i + 1) a with
  | inl q =>
    rw [hx] at h1
    obtain ⟨J1, r1, r2, r3, r4⟩ := h1
    rw [bnd_inl rfl]
    exact ⟨J1, go r1 (fd_take (x := 32) hS r2 (by decide)), r2, r3, a3.trans r4⟩
  | inr q =>
  obtain ⟨f, j⟩ := q
  rw [hx] at h1
  obtain ⟨J1, A, r1, r2, r3, r4, r5, r6, r7⟩ := h1
  rw [bnd_inr rfl]
  have r4 : i + 1 + 1 ≤ j := r4
  have r5 : j < ts.length := r5
  have r6 : A.length ≤ 2 * (j - (i + 1)) := r6
  have t := sp_take (g := g) (L := L) hS r2 hT r5 (x := 32) (by decide)
  by_cases q32 : kT ts j = 32
  · rw [if_pos q32]
    obtain ⟨J2, s1, s2, s3⟩ := t.1 q32
    exact ⟨J2, A, go r1 s1, s2, (a3.trans r3).trans s3, by show i + 1 ≤ j + 1; omega, hT.nx r5 (by omega), by show A.length ≤ 2 * (j + 1 - i); omega, sg_less r7 (by omega)⟩
  · rw [if_neg q32]
    obtain ⟨J2, s1, s2, s3⟩ := t.2 q32
    exact ⟨J2, go r1 s1, s2, r5, (a3.trans r3).trans s3⟩
/-- - ONE -/
theorem oo_28 (hS : Sh Z) (hT : TSz ts) (ih : IHz g Z L ts cl u) (hr : RDz Z I ts cl i (n + 1) ords) (hk : kT ts i = 28) (ho : ords.length ≤ 2 * i) (hd : 12 + 8 * (7 - n) ≤ d) (hn : n < 8) (hi : i < ts.length) (hu : (ts.length - i) * 10 ≤ u) : OPr g Z L ts cl d mu_X5_readOpened (n + 1) (5 * n + 5) i ords I (bnd (prF (kT ts) (vT ts) (decide (cl = 13)) u 0 (n + 1) (i + 1) a) (fun f j => .inr (fun env => - f env, j))) := by
  have hlen := hT.2.1
  obtain ⟨J, a1, a2, a3⟩ := sp_rnext (g := g) (L := L) hS hr (by omega)
  have hi1 := hT.nx hi (by omega)
  have ne : ¬ I 3 5 = 31 := fun z => by have := (hr.k hT (x := 31) (by decide)).mp z; omega
  have go : ∀ {J2 J3 : Nat → Nat → Int32}, Cl g (d - 1) mu_X5_readOne [rf g 3] (Z, J, L) none (Z, J2, L) → Cl g 1 mu_X5_order [rf g 3, .int 38] (Z, J2, L) none (Z, J3, L) → Cl g d mu_X5_readOpened [rf g 3] (Z, I, L) none (Z, J3, L) := fun {J2 J3} h1 h2 => cp_X5_readOpened (d := d) (dc := d - 1) (by omega) (by omega) (hS.k 3 5 (by decide) (by decide)) (fun y hy => ⟨J, L, a1, fun _ => ⟨fun z => absurd (by rw [hy]; exact (hr.k hT (x := 28) (by decide)).mpr hk) z, fun _ => ⟨J2, L, h1, J3, L, h2, rfl, rfl⟩⟩, fun z => absurd (by rw [← hy]; exact z) ne⟩)
  have h1 := ih_0 (a := a) (d := d - 1) ih a2 (by omega) (by omega) (by omega) hi1 (by omega)
  cases hx : prF (kT ts) (vT ts) (decide (cl = 13)) u 0 (n + 1) (i + 1) a with
  | inl q =>
    rw [hx] at h1
    obtain ⟨J1, r1, r2, r3, r4⟩ := h1
    rw [bnd_inl rfl]
    obtain ⟨J2, s1, s2, s3⟩ := fd_order (g := g) (L := L) (x := 38) hS r2
    exact ⟨J2, go r1 s1, s2, r3, (a3.trans r4).trans s3⟩
  | inr q =>
  obtain ⟨f, j⟩ := q
  rw [hx] at h1
  obtain ⟨J1, A, r1, r2, r3, r4, r5, r6, r7⟩ := h1
  rw [bnd_inr rfl]
  have r4 : i + 1 + 1 ≤ j := r4
  have r5 : j < ts.length := r5
  have r6 : A.length ≤ 2 * (j - (i + 1)) := r6
  have lA : (ords ++ A).length = ords.length + A.length := List.length_append
  obtain ⟨J2, s1, s2, s3⟩ := sp_order (g := g) (L := L) hS r2 (by omega) 38
  exact ⟨J2, A ++ [38], go r1 s1, by rw [← List.append_assoc]; exact s2, (a3.trans r3).trans s3, by show i + 1 ≤ j; omega, r5, by show (A ++ [38]).length ≤ 2 * (j - i); rw [List.length_append, List.length_singleton]; omega, sg_neg (sg_less r7 (by omega))⟩
/-- if -/
theorem oo_14 (hS : Sh Z) (hT : TSz ts) (ih : IHz g Z L ts cl u) (hr : RDz Z I ts cl i (n + 1) ords) (hk : kT ts i = 14) (ho : ords.length ≤ 2 * i) (hd : 12 + 8 * (7 - n) ≤ d) (hn : n < 8) (hi : i < ts.length) (hu : (ts.length - i) * 10 ≤ u) : OPr g Z L ts cl d mu_X5_readOpened (n + 1) (5 * n + 5) i ords I (bnd (prF (kT ts) (vT ts) (decide (cl = 13)) u 8 (n + 1) (i + 1) a) (fun c j => if kT ts j = 34 then bnd (prF (kT ts) (vT ts) (decide (cl = 13)) u 3 (n + 1) (j + 1) a) (fun f k => if kT ts k = 35 then bnd (prF (kT ts) (vT ts) (decide (cl = 13)) u 3 (n + 1) (k + 1) a) (fun e l => if kT ts l = 15 then .inr (fun env => if c env = 0 then e env else f env, l + 1) else .inl (1, l)) else .inl (1, k)) else .inl (1, j))) := by
  have hlen := hT.2.1
  obtain ⟨J, a1, a2, a3⟩ := sp_rnext (g := g) (L := L) hS hr (by omega)
  have hi1 := hT.nx hi (by omega)
  have ne : ¬ I 3 5 = 31 := fun z => by have := (hr.k hT (x := 31) (by decide)).mp z; omega
  have ne2 : ¬ I 3 5 = 28 := fun z => by have := (hr.k hT (x := 28) (by decide)).mp z; omega
  have go : ∀ {J2 : Nat → Nat → Int32}, Cl g (d - 1) mu_X5_readIf [rf g 3] (Z, J, L) none (Z, J2, L) → Cl g d mu_X5_readOpened [rf g 3] (Z, I, L) none (Z, J2, L) := fun {J2} h1 => cp_X5_readOpened (d := d) (dc := d - 1) (by omega) (by omega) (hS.k 3 5 (by decide) (by decide)) (fun y hy => ⟨J, L, a1, fun _ => ⟨fun _ => ⟨J2, L, h1, rfl, rfl⟩, fun z => absurd (by rw [← hy]; exact z) ne2⟩, fun z => absurd (by rw [← hy]; exact z) ne⟩)
  have h1 := op_if (a := a) (d := d - 1) hS hT ih a2 (by omega) (by omega) hn hi1 (by omega)
  obtain ⟨res, hres⟩ : ∃ res, res = (bnd (prF (kT ts) (vT ts) (decide (cl = 13)) u 8 (n + 1) (i + 1) a) (fun c j => if kT ts j = 34 then bnd (prF (kT ts) (vT ts) (decide (cl = 13)) u 3 (n + 1) (j + 1) a) (fun f k => if kT ts k = 35 then bnd (prF (kT ts) (vT ts) (decide (cl = 13)) u 3 (n + 1) (k + 1) a) (fun e l => if kT ts l = 15 then .inr (fun env => if c env = 0 then e env else f env, l + 1) else .inl (1, l)) else .inl (1, k)) else .inl (1, j))) := ⟨_, rfl⟩
  rw [← hres] at h1 ⊢
  cases res with
  | inl q =>
    obtain ⟨J1, r1, r2, r3, r4⟩ := h1
    exact ⟨J1, go r1, r2, r3, a3.trans r4⟩
  | inr q =>
    obtain ⟨J1, A, r1, r2, r3, r4, r5, r6, r7⟩ := h1
    exact ⟨J1, A, go r1, r2, a3.trans r3, by omega, r5, by omega, r7⟩
theorem s0_19 (hS : Sh Z) (hT : TSz ts) (hr : RDz Z I ts cl i n ords) (hk : kT ts i = 19) (ho : ords.length ≤ 2 * i) (hd : 5 ≤ d) (hn : n ≤ 8) (hi : i < ts.length) : OPr g Z L ts cl d mu_X5_readOne n (5 * n + 5) i ords I (if 9999 < vT ts i then .inl (2, i) else .inr (fun _ => nI (vT ts i), i + 1)) := by
  have hlen := hT.2.1
  have hv := hT.2.2.2.2.1 i
  have e : I 3 5 = 19 := (hr.k hT (x := 19) (by decide)).mpr hk
  have go : ∀ {J2 : Nat → Nat → Int32}, Cl g 4 mu_X5_readNumber [rf g 3] (Z, I, L) none (Z, J2, L) → Cl g d mu_X5_readOne [rf g 3] (Z, I, L) none (Z, J2, L) := fun {J2} h1 => cp_X5_readOne (d := d) (dc := d - 1) (by omega) hd (hS.k 3 5 (by decide) (by decide)) ⟨fun z => absurd e z, fun _ => ⟨J2, L, h1, rfl, rfl⟩⟩
  have va := sp_valueAt (g := g) (L := L) hS hr.1 hi
  rw [← hr.2.1] at va
  by_cases h9 : 9999 < vT ts i
  · rw [if_pos h9]
    obtain ⟨J, a1, a2, a3⟩ := sp_rfail (g := g) (L := L) hS hr hi (f := 2) (by decide) (by decide)
    exact ⟨J, go (cp_X5_readNumber (hS.k 3 5 (by decide) (by decide)) (hS.r 3 0 4 (by decide)) (hS.k 4 9 (by decide) (by decide)) ⟨_, va, fun z => absurd ((nI_leI (b := 9999) (by omega) (by decide)).mp z) (by omega), fun _ => ⟨J, L, a1, rfl, rfl⟩⟩), a2, hi, a3⟩
  · rw [if_neg h9]
    obtain ⟨J, a1, a2, a3⟩ := sp_orderWith (g := g) (L := L) hS hr (by omega) 19 (vT ts i)
    obtain ⟨J2, b1, b2, b3⟩ := sp_rnext (g := g) (L := L) hS a2 (by omega)
    exact ⟨J2, [19, vT ts i], go (cp_X5_readNumber (hS.k 3 5 (by decide) (by decide)) (hS.r 3 0 4 (by decide)) (hS.k 4 9 (by decide) (by decide)) ⟨_, va, fun _ => ⟨_, J, L, a1, J2, L, b1, rfl, rfl⟩, fun z => absurd ((nI_leI (b := 9999) (by omega) (by decide)).mpr (by omega)) z⟩), b2, a3.trans b3, Nat.le_refl _, hT.nx hi (by omega), by show 2 ≤ 2 * (i + 1 - i); omega, sg_num (by omega)⟩
theorem s0_20 (hS : Sh Z) (hT : TSz ts) (hcl : cl < 2 ^ 31) (hr : RDz Z I ts cl i n ords) (hk : kT ts i = 20) (ho : ords.length ≤ 2 * i) (hd : 5 ≤ d) (hn : n ≤ 8) (hi : i < ts.length) : OPr g Z L ts cl d mu_X5_readOne n (5 * n + 5) i ords I (if decide (6 ≤ vT ts i) = decide (cl = 13) then .inr (fun env => env (vT ts i), i + 1) else .inl (5, i)) := by
  have hlen := hT.2.1
  have hv := hT.2.2.2.2.2.1 i hk
  have e : I 3 5 = 20 := (hr.k hT (x := 20) (by decide)).mpr hk
  have e19 : ¬ I 3 5 = 19 := by rw [e]; decide
  have c13 : I 3 6 = 13 ↔ cl = 13 := by rw [hr.2.2.2.1]; exact nI_eq (b := 13) hcl (by decide)
  have go : ∀ {J2 : Nat → Nat → Int32}, Cl g 4 mu_X5_readName [rf g 3] (Z, I, L) none (Z, J2, L) → Cl g d mu_X5_readOne [rf g 3] (Z, I, L) none (Z, J2, L) := fun {J2} h1 => cp_X5_readOne (d := d) (dc := d - 1) (by omega) hd (hS.k 3 5 (by decide) (by decide)) ⟨fun _ => ⟨fun z => absurd e z, fun _ => ⟨J2, L, h1, rfl, rfl⟩⟩, fun z => absurd z e19⟩
  have va := sp_valueAt (g := g) (L := L) hS hr.1 hi
  rw [← hr.2.1] at va
  have v6 : nI (vT ts i) < 6 ↔ vT ts i < 6 := nI_ltI (b := 6) (by omega) (by decide)
  obtain ⟨J, a1, a2, a3⟩ := sp_rfail (g := g) (L := L) hS hr hi (f := 5) (by decide) (by decide)
  obtain ⟨K1, b1, b2, b3⟩ := sp_orderWith (g := g) (L := L) hS hr (by omega) 20 (vT ts i)
  obtain ⟨K2, c1, c2, c3⟩ := sp_rnext (g := g) (L := L) hS b2 (by omega)
  by_cases h6 : vT ts i < 6
  · by_cases hc : cl = 13
    · rw [if_neg (by rw [decide_eq_false (show ¬ 6 ≤ vT ts i by omega), decide_eq_true hc]; decide)]
      exact ⟨J, go (cp_X5_readName (hS.k 3 5 (by decide) (by decide)) (hS.r 3 0 4 (by decide)) (hS.k 4 9 (by decide) (by decide)) ⟨_, va, fun _ => ⟨fun z => absurd (c13.mpr hc) z, fun _ => ⟨J, L, a1, rfl, rfl⟩⟩, fun z => absurd (v6.mpr h6) z⟩), a2, hi, a3⟩
    · rw [if_pos (by rw [decide_eq_false (show ¬ 6 ≤ vT ts i by omega), decide_eq_false hc])]
      exact ⟨K2, [20, vT ts i], go (cp_X5_readName (hS.k 3 5 (by decide) (by decide)) (hS.r 3 0 4 (by decide)) (hS.k 4 9 (by decide) (by decide)) ⟨_, va, fun _ => ⟨fun _ => ⟨_, K1, L, b1, K2, L, c1, rfl, rfl⟩, fun z => absurd (c13.mp z) hc⟩, fun z => absurd (v6.mpr h6) z⟩), c2, b3.trans c3, Nat.le_refl _, hT.nx hi (by omega), by show 2 ≤ 2 * (i + 1 - i); omega, sg_name (by omega) hv⟩
  · by_cases hc : cl = 13
    · rw [if_pos (by rw [decide_eq_true (show 6 ≤ vT ts i by omega), decide_eq_true hc])]
      exact ⟨K2, [20, vT ts i], go (cp_X5_readName (hS.k 3 5 (by decide) (by decide)) (hS.r 3 0 4 (by decide)) (hS.k 4 9 (by decide) (by decide)) ⟨_, va, fun z => absurd (v6.mp z) h6, fun _ => ⟨fun z => absurd (c13.mpr hc) z, fun _ => ⟨_, K1, L, b1, K2, L, c1, rfl, rfl⟩⟩⟩), c2, b3.trans c3, Nat.le_refl _, hT.nx hi (by omega), by show 2 ≤ 2 * (i + 1 - i); omega, sg_name (by omega) hv⟩
    · rw [if_neg (by rw [decide_eq_true (show 6 ≤ vT ts i by omega), decide_eq_false hc]; decide)]
      exact ⟨J, go (cp_X5_readName (hS.k 3 5 (by decide) (by decide)) (hS.r 3 0 4 (by decide)) (hS.k 4 9 (by decide) (by decide)) ⟨_, va, fun z => absurd (v6.mp z) h6, fun _ => ⟨fun _ => ⟨J, L, a1, rfl, rfl⟩, fun z => absurd (c13.mp z) hc⟩⟩), a2, hi, a3⟩
theorem st_0 (hS : Sh Z) (hT : TSz ts) (hcl : cl < 2 ^ 31) (ih : IHz g Z L ts cl u) {k : Nat} (h : CNd Z I ts cl (u + 1) d 0 k n i ords) : OKz g Z L ts cl d 0 k n i a ords I (prF (kT ts) (vT ts) (decide (cl = 13)) (u + 1) 0 n i a) := by
  obtain ⟨-, hr, ho, -, hd, hn, hi, hu⟩ := h
  have hd : 5 + 8 * (8 - n) ≤ d := hd
  have hu : (ts.length - i) * 10 < u + 1 := hu
  have w : OPr g Z L ts cl d mu_X5_readOne n (5 * n + 5) i ords I (prF (kT ts) (vT ts) (decide (cl = 13)) (u + 1) 0 n i a) := by
    show OPr g Z L ts cl d mu_X5_readOne n (5 * n + 5) i ords I (if kT ts i = 19 then _ else if kT ts i = 20 then _ else if kT ts i = 31 then (if n < 8 then _ else _) else if kT ts i = 28 then (if n < 8 then _ else _) else if kT ts i = 14 then (if n < 8 then _ else _) else _)
    by_cases h19 : kT ts i = 19
    · rw [if_pos h19]; exact s0_19 hS hT hr h19 ho (by omega) hn hi
    rw [if_neg h19]
    by_cases h20 : kT ts i = 20
    · rw [if_pos h20]; exact s0_20 hS hT hcl hr h20 ho (by omega) hn hi
    rw [if_neg h20]
    by_cases h31 : kT ts i = 31
    · rw [if_pos h31]; exact op_wrap hS hT hr (Or.inl h31) (by omega) hn hi (fun h8 J hJ => oo_31 hS hT ih hJ h31 ho (by omega) h8 hi (by omega))
    rw [if_neg h31]
    by_cases h28 : kT ts i = 28
    · rw [if_pos h28]; exact op_wrap hS hT hr (Or.inr (Or.inl h28)) (by omega) hn hi (fun h8 J hJ => oo_28 hS hT ih hJ h28 ho (by omega) h8 hi (by omega))
    rw [if_neg h28]
    by_cases h14 : kT ts i = 14
    · rw [if_pos h14]; exact op_wrap hS hT hr (Or.inr (Or.inr h14)) (by omega) hn hi (fun h8 J hJ => oo_14 hS hT ih hJ h14 ho (by omega) h8 hi (by omega))
    rw [if_neg h14]
    obtain ⟨J, a1, a2, a3⟩ := sp_rfail (g := g) (L := L) hS hr hi (f := 1) (by decide) (by decide)
    exact ⟨J, cp_X5_readOne (d := d) (dc := d - 1) (by omega) (by omega) (hS.k 3 5 (by decide) (by decide)) ⟨fun _ => ⟨fun _ => ⟨fun e => absurd ((hr.k hT (x := 31) (by decide)).mp e) h31, fun _ => ⟨fun e => absurd ((hr.k hT (x := 28) (by decide)).mp e) h28, fun _ => ⟨fun e => absurd ((hr.k hT (x := 14) (by decide)).mp e) h14, fun _ => ⟨J, L, a1, rfl, rfl⟩⟩⟩⟩, fun e => absurd ((hr.k hT (x := 20) (by decide)).mp e) h20⟩, fun e => absurd ((hr.k hT (x := 19) (by decide)).mp e) h19⟩, a2, hi, a3⟩
  cases hx : prF (kT ts) (vT ts) (decide (cl = 13)) (u + 1) 0 n i a with
  | inl q => rw [hx] at w; exact w
  | inr q => rw [hx] at w; exact w
end RDC
