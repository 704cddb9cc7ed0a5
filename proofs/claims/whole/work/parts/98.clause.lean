/-! the class's reader: a clause, all clauses -/
abbrev TE : Type := Option EF × Option EF × Option EF
def gtE (t : TE) (s : Nat) : Option EF := if s = 0 then t.1 else if s = 1 then t.2.1 else t.2.2
def ptE (t : TE) (s : Nat) (f : EF) : TE := if s = 0 then (some f, t.2.1, t.2.2) else if s = 1 then (t.1, some f, t.2.2) else (t.1, t.2.1, some f)
abbrev isCl (c : Nat) : Prop := c = 11 ∨ c = 12 ∨ c = 13
abbrev CRs : Type := (Nat × Nat) ⊕ (TE × Nat)
def clE (K : Nat → Nat) (t : TE) (i : Nat) (x : PR) : CRs := match x with
  | .inl e => .inl e
  | .inr q => if K q.2 = 33 then .inr (ptE t (K i - 11) q.1, q.2 + 1) else .inl (1, q.2)
/-- a clause, by its meaning -/
def clsF (K V : Nat → Nat) (fu i : Nat) (t : TE) : CRs := if isCl (K i) then (if (gtE t (K i - 11)).isSome = true then .inl (4, i) else clE K t i (prF K V (decide (K i = 13)) fu (if K i = 12 then 8 else 3) 0 (i + 1) (fun _ => 0))) else .inl (1, i)
/-- all clauses, k at most -/
def rdF (K V : Nat → Nat) (fu : Nat) : Nat → Nat → TE → (Nat × Nat) ⊕ TE
  | 0, _, t => .inr t
  | k + 1, i, t => if K i = 37 then .inr t else match clsF K V fu i t with
    | .inl e => .inl e
    | .inr q => rdF K V fu k q.2 q.1
/-- a clause among orders, whatever comes behind them -/
def CRw (ords : List Nat) (start : Int32) (F : Option EF) : Prop := match F with
  | none => start = -1
  | some f => ∃ p e, p < ords.length ∧ start = nI p ∧ e < ords.length ∧ ords[e]? = some 33 ∧ ∀ rest env, ∃ n, n ≤ ords.length ∧ Stn (ords ++ rest) env n p [] e [f env]
theorem CRw.cr {ords : List Nat} {s : Int32} {F : Option EF} (h : CRw ords s F) : CR ords s F := by
  cases F with
  | none => exact h
  | some f =>
    obtain ⟨p, e, h1, h2, h3, h4, h5⟩ := h
    refine ⟨p, h1, h2, fun env => ?_⟩
    obtain ⟨n, h6, h7⟩ := h5 [] env
    rw [List.append_nil] at h7
    exact ⟨n, e, h6, h7, h4⟩
theorem CRw.app {ords : List Nat} {s : Int32} {F : Option EF} (h : CRw ords s F) (sg : List Nat) : CRw (ords ++ sg) s F := by
  cases F with
  | none => exact h
  | some f =>
    obtain ⟨p, e, h1, h2, h3, h4, h5⟩ := h
    refine ⟨p, e, by rw [List.length_append]; omega, h2, by rw [List.length_append]; omega, by rw [List.getElem?_append_left h3]; exact h4, fun rest env => ?_⟩
    obtain ⟨n, h6, h7⟩ := h5 (sg ++ rest) env
    exact ⟨n, by rw [List.length_append]; omega, by rw [List.append_assoc]; exact h7⟩
def CZw (I : Nat → Nat → Int32) (ords : List Nat) (t : TE) : Prop := ∀ s, s < 3 → CRw ords (I 12 s) (gtE t s)
def FD2 (I I1 : Nat → Nat → Int32) : Prop := ∀ a, a ≠ 3 → a ≠ 11 → a ≠ 12 → I1 a = I a
theorem FDr.t {I I1 : Nat → Nat → Int32} (h : FDr I I1) : FD2 I I1 := fun a h1 h2 _ => h a h1 h2
theorem FD2.trans {I I1 I2 : Nat → Nat → Int32} (a : FD2 I I1) (b : FD2 I1 I2) : FD2 I I2 := fun q h1 h2 h3 => by rw [b q h1 h2 h3, a q h1 h2 h3]
theorem gtE_put {t : TE} {s r : Nat} {f : EF} (hs : s < 3) (hr : r < 3) : gtE (ptE t s f) r = if r = s then some f else gtE t r := by
  have a : s = 0 ∨ s = 1 ∨ s = 2 := by omega
  have b : r = 0 ∨ r = 1 ∨ r = 2 := by omega
  rcases a with rfl | rfl | rfl <;> rcases b with rfl | rfl | rfl <;> rfl
def ClT (g : GE) (Z : Zs) (M M' : Mem) : Prop := ∃ I1 L1, Cl g 4 mu_X5_take [rf g 3, .int 33] M none (Z, I1, L1) ∧ ∃ I2 L2, Cl g 1 mu_X5_order [rf g 3, .int 33] (Z, I1, L1) none (Z, I2, L2) ∧ ((none : Option Value) = none ∧ M' = (Z, I2, L2))
def ClB (g : GE) (Z : Zs) (I1 : Nat → Nat → Int32) (L : Nat → Nat → Int64) (M' : Mem) : Prop := vp_in ((I1 3 6) - 11) (Z.2.2.1 12) ∧ (((I1 12 ((I1 3 6) - 11).toNatClampNeg) = (-1) → (vp_in ((I1 3 6) - 11) (Z.2.2.1 12) ∧ (∀ I4, I4 = rw1 I1 12 (upd (I1 12) ((I1 3 6) - 11).toNatClampNeg (I1 3 3)) → (∃ I5 L6, Cl g 3 mu_X5_next [rf g 3] (Z, I4, L) none (Z, I5, L6) ∧ ((¬ (I5 3 6) = 12 → (∃ I8 L9, Cl g 80 mu_X5_readSum [rf g 3] (Z, I5, L6) none (Z, I8, L9) ∧ ClT g Z (Z, I8, L9) M')) ∧ ((I5 3 6) = 12 → (∃ I17 L18, Cl g 80 mu_X5_readEither [rf g 3] (Z, I5, L6) none (Z, I17, L18) ∧ ClT g Z (Z, I17, L18) M'))))))) ∧ (¬ (I1 12 ((I1 3 6) - 11).toNatClampNeg) = (-1) → (∃ I26 L27, Cl g 3 mu_X5_fail [rf g 3, .int 4] (Z, I1, L) none (Z, I26, L27) ∧ ((none : Option Value) = none ∧ M' = (Z, I26, L27)))))
def ClR (g : GE) (Z : Zs) (L : Nat → Nat → Int64) (ts : List (Nat × Nat × Nat)) (i : Nat) (I : Nat → Nat → Int32) (res : CRs) : Prop := match res with
  | .inl q => ∃ I1, Cl g 81 mu_X5_readClause [rf g 3] (Z, I, L) none (Z, I1, L) ∧ FDz Z I1 ts q.1 q.2 ∧ q.2 < ts.length ∧ FD2 I I1
  | .inr q => ∃ I1 cl ords, Cl g 81 mu_X5_readClause [rf g 3] (Z, I, L) none (Z, I1, L) ∧ RDz Z I1 ts cl q.2 0 ords ∧ ords.length ≤ 2 * q.2 ∧ i + 1 ≤ q.2 ∧ q.2 < ts.length ∧ CZw I1 ords q.1 ∧ FD2 I I1
section CLA
variable {g : GE} {Z : Zs} {L : Nat → Nat → Int64} {ts : List (Nat × Nat × Nat)} {cl u : Nat} {i : Nat} {ords : List Nat} {I : Nat → Nat → Int32}
theorem cl_by (hS : Sh Z) (hT : TSz ts) (hr : RDz Z I ts cl i 0 ords) (hk : isCl (kT ts i)) {M' : Mem} (h : ∀ I1, I1 = rw1 I 3 (upd (I 3) 6 (I 3 5)) → ClB g Z I1 L M') : Cl g 81 mu_X5_readClause [rf g 3] (Z, I, L) none M' := by
  have e := fun x (hx : x < 2 ^ 31) => hr.k hT (x := x) hx
  refine cp_X5_readClause (hS.k 3 5 (by decide) (by decide)) (hS.r 3 2 12 (by decide)) (hS.k 12 13 (by decide) (by decide)) ⟨fun _ => h, fun n1 => ⟨fun _ => h, fun n2 => ⟨fun _ => h, fun n3 => ?_⟩⟩⟩
  rcases hk with z | z | z
  · exact absurd ((e 11 (by decide)).mpr z) n1
  · exact absurd ((e 12 (by decide)).mpr z) n2
  · exact absurd ((e 13 (by decide)).mpr z) n3
theorem RDz.cl12 {n : Nat} (h : RDz Z I ts cl i n ords) {I1 : Nat → Nat → Int32} {c : Nat} (hf : ∀ a, a ≠ 3 → a ≠ 12 → I1 a = I a) (h6 : I1 3 6 = nI c) (h3 : ∀ q, q ≠ 6 → I1 3 q = I 3 q) : RDz Z I1 ts c i n ords := by
  obtain ⟨b1, b2, b3, b4, b5, b6, b7, b8, b9, b10⟩ := h
  exact ⟨b1.kept (fun a h1 h2 => hf a (by omega) (by omega)), by rw [h3 4 (by decide)]; exact b2, by rw [h3 5 (by decide)]; exact b3, h6, by rw [h3 7 (by decide)]; exact b5, by rw [h3 8 (by decide)]; exact b6, by rw [h3 9 (by decide)]; exact b7, by rw [h3 3 (by decide)]; exact b8, b9, fun k v hk => by rw [hf 11 (by decide) (by decide)]; exact b10 k v hk⟩
theorem sp_clause (hS : Sh Z) (hT : TSz ts) (hr : RDz Z I ts cl i 0 ords) (ho : ords.length ≤ 2 * i) (hi : i < ts.length) (hu : ts.length * 10 + 9 < u) {t : TE} (hc : CZw I ords t) : ClR g Z L ts i I (clsF (kT ts) (vT ts) u i t) := by
  have hlen := hT.2.1
  have e := fun x (hx : x < 2 ^ 31) => hr.k hT (x := x) hx
  unfold clsF
  by_cases hk : isCl (kT ts i)
  case neg =>
    rw [if_neg hk]
    obtain ⟨J, a1, a2, a3⟩ := sp_rfail (g := g) (L := L) hS hr hi (f := 1) (by decide) (by decide)
    refine ⟨J, cp_X5_readClause (hS.k 3 5 (by decide) (by decide)) (hS.r 3 2 12 (by decide)) (hS.k 12 13 (by decide) (by decide)) ⟨fun z => absurd (Or.inl ((e 11 (by decide)).mp z)) hk, fun _ => ⟨fun z => absurd (Or.inr (Or.inl ((e 12 (by decide)).mp z))) hk, fun _ => ⟨fun z => absurd (Or.inr (Or.inr ((e 13 (by decide)).mp z))) hk, fun _ => ⟨J, L, a1, rfl, rfl⟩⟩⟩⟩, a2, hi, a3.t⟩
  rw [if_pos hk]
  obtain ⟨c, hcx⟩ : ∃ c, c = kT ts i := ⟨_, rfl⟩
  rw [← hcx] at hk ⊢
  have c3 : 11 ≤ c ∧ c ≤ 13 := by unfold isCl at hk; omega
  obtain ⟨J1, hJ1⟩ : ∃ J, J = rw1 I 3 (upd (I 3) 6 (I 3 5)) := ⟨_, rfl⟩
  have j6 : J1 3 6 = nI c := by rw [hJ1, rw1_s, upd_s, hr.2.2.1, hcx]
  have jo : ∀ a, a ≠ 3 → J1 a = I a := fun a ha => by rw [hJ1, rw1_n _ _ ha]
  have j3 : ∀ q, q ≠ 6 → J1 3 q = I 3 q := fun q hq => by rw [hJ1, rw1_s, upd_n _ _ hq]
  have r1 : RDz Z J1 ts c i 0 ords := hr.cl12 (fun a ha _ => jo a ha) j6 j3
  have es : J1 3 6 - 11 = nI (c - 11) := by rw [j6]; show nI c - nI 11 = nI (c - 11); exact pk_sub c3.1
  have ec : (nI (c - 11)).toNatClampNeg = c - 11 := nI_clamp (by omega)
  have n12 := hS.n 12 3 (by decide)
  have hin : vp_in (nI (c - 11)) (Z.2.2.1 12) := by rw [n12]; exact vp_in_nI (by omega) (by decide)
  have hcs := hc (c - 11) (by omega)
  have j12 : J1 12 = I 12 := jo 12 (by decide)
  by_cases hs : (gtE t (c - 11)).isSome = true
  · rw [if_pos hs]
    obtain ⟨f, hf⟩ := Option.isSome_iff_exists.mp hs
    rw [hf] at hcs
    obtain ⟨p, e2, p1, p2, -⟩ := hcs
    obtain ⟨J, a1, a2, a3⟩ := sp_rfail (g := g) (L := L) hS r1 hi (f := 4) (by decide) (by decide)
    refine ⟨J, cl_by hS hT hr (by rw [← hcx]; exact hk) (fun I1 h1 => ?_), a2, hi, (show FD2 I J1 from fun a ha _ _ => jo a ha).trans a3.t⟩
    rw [h1, ← hJ1]
    unfold ClB
    rw [es, ec, j12, p2]
    exact ⟨hin, fun z => absurd z (nI_ne_m1 (by omega)), fun _ => ⟨J, L, a1, rfl, rfl⟩⟩
  rw [if_neg hs]
  have hn : gtE t (c - 11) = none := by
    cases hg : gtE t (c - 11) with
    | none => rfl
    | some f => rw [hg] at hs; exact absurd rfl hs
  rw [hn] at hcs
  have hcs : I 12 (c - 11) = -1 := hcs
  obtain ⟨J2, hJ2⟩ : ∃ J, J = rw1 J1 12 (upd (J1 12) (c - 11) (J1 3 3)) := ⟨_, rfl⟩
  have ko : ∀ a, a ≠ 12 → J2 a = J1 a := fun a ha => by rw [hJ2, rw1_n _ _ ha]
  have r2 : RDz Z J2 ts c i 0 ords := r1.cl12 (fun a _ hb => ko a hb) (by rw [ko 3 (by decide)]; exact j6) (fun q _ => by rw [ko 3 (by decide)])
  have k12 : ∀ s, J2 12 s = if s = c - 11 then nI ords.length else I 12 s := fun s => by
    rw [hJ2, rw1_s]
    by_cases he : s = c - 11
    · rw [if_pos he, he, upd_s]; exact r1.2.2.2.2.2.2.2.1
    · rw [if_neg he, upd_n _ _ he, j12]
  have hi1 := hT.nx hi (by omega)
  obtain ⟨J3, b1, b2, b3⟩ := sp_rnext (g := g) (L := L) hS r2 (by omega)
  have s12 : J3 3 6 = 12 ↔ c = 12 := by rw [b2.2.2.2.1]; exact nI_eq (b := 12) (by omega) (by decide)
  obtain ⟨mu, hmu⟩ : ∃ mu, mu = if c = 12 then mu_X5_readEither else mu_X5_readSum := ⟨_, rfl⟩
  have go : ∀ {J4 J5 : Nat → Nat → Int32}, Cl g 80 mu [rf g 3] (Z, J3, L) none (Z, J4, L) → ClT g Z (Z, J4, L) (Z, J5, L) → Cl g 81 mu_X5_readClause [rf g 3] (Z, I, L) none (Z, J5, L) := fun {J4 J5} h1 h2 => by
    refine cl_by hS hT hr (by rw [← hcx]; exact hk) (fun I1 hI1 => ?_)
    rw [hI1, ← hJ1]
    unfold ClB
    rw [es, ec]
    refine ⟨hin, fun _ => ⟨hin, fun I4 h4 => ?_⟩, fun z => absurd (by rw [j12]; exact hcs) z⟩
    rw [← hJ2] at h4
    rw [h4]
    refine ⟨J3, L, b1, fun z => ⟨J4, L, ?_, h2⟩, fun z => ⟨J4, L, ?_, h2⟩⟩
    · rw [hmu, if_neg (fun y => z (s12.mpr y))] at h1; exact h1
    · rw [hmu, if_pos (s12.mp z)] at h1; exact h1
  have fr1 : FD2 I J3 := fun a h1 h2 h3 => by rw [b3 a h1 h2, ko a h3, jo a h1]
  have big : OPr g Z L ts c 80 mu 0 0 (i + 1) ords J3 (prF (kT ts) (vT ts) (decide (c = 13)) u (if c = 12 then 8 else 3) 0 (i + 1) (fun _ => 0)) := by
    have ih := rd_all (g := g) (L := L) (cl := c) hS hT (by omega) u
    by_cases h12 : c = 12
    · rw [if_pos h12, hmu, if_pos h12]
      exact ih_8 ih b2 (by omega) (by omega) (by omega) hi1 (by omega)
    · rw [if_neg h12, hmu, if_neg h12]
      have w := ih_3 (d := 80) (a := fun _ => 0) ih b2 (by omega) (by omega) (by omega) hi1 (by omega)
      cases hx : prF (kT ts) (vT ts) (decide (c = 13)) u 3 0 (i + 1) (fun _ => 0) with
      | inl q => rw [hx] at w; exact w
      | inr q =>
        rw [hx] at w
        obtain ⟨w1, w2, w3, w4, w5, w6, w7, w8, w9⟩ := w
        exact ⟨w1, w2, w3, w4, w5, w6, w7, w8, sg_less w9 (by omega)⟩
  cases hx : prF (kT ts) (vT ts) (decide (c = 13)) u (if c = 12 then 8 else 3) 0 (i + 1) (fun _ => 0) with
  | inl q =>
    rw [hx] at big
    obtain ⟨J4, w1, w2, w3, w4⟩ := big
    obtain ⟨J5, v1, v2, v3⟩ := fd_order (g := g) (L := L) (x := 33) hS w2
    exact ⟨J5, go w1 ⟨J4, L, fd_take (x := 33) hS w2 (by decide), J5, L, v1, rfl, rfl⟩, v2, w3, fr1.trans (w4.trans v3).t⟩
  | inr q =>
    obtain ⟨F, j⟩ := q
    rw [hx] at big
    obtain ⟨J4, seg, w1, w2, w3, w4, w5, w6, w7⟩ := big
    have w2 : RDz Z J4 ts c j 0 (ords ++ seg) := w2
    have w4 : i + 1 + 1 ≤ j := w4
    have w5 : j < ts.length := w5
    have w6 : seg.length ≤ 2 * (j - (i + 1)) := w6
    have t33 := sp_take (g := g) (L := L) hS w2 hT w5 (x := 33) (by decide)
    have lA : (ords ++ seg).length = ords.length + seg.length := List.length_append
    show ClR g Z L ts i I (if kT ts j = 33 then _ else _)
    by_cases q33 : kT ts j = 33
    case neg =>
      rw [if_neg q33]
      obtain ⟨J5, v1, v2, v3⟩ := t33.2 q33
      obtain ⟨J6, x1, x2, x3⟩ := fd_order (g := g) (L := L) (x := 33) hS v2
      exact ⟨J6, go w1 ⟨J5, L, v1, J6, L, x1, rfl, rfl⟩, x2, w5, fr1.trans ((w3.trans v3).trans x3).t⟩
    rw [if_pos q33]
    obtain ⟨J5, v1, v2, v3⟩ := t33.1 q33
    obtain ⟨J6, x1, x2, x3⟩ := sp_order (g := g) (L := L) hS v2 (by omega) 33
    have lB : (ords ++ seg ++ [33]).length = ords.length + seg.length + 1 := by rw [List.length_append, lA]; rfl
    have k6 : J6 12 = J2 12 := by rw [x3 12 (by decide) (by decide), v3 12 (by decide) (by decide), w3 12 (by decide) (by decide), b3 12 (by decide) (by decide)]
    refine ⟨J6, c, ords ++ seg ++ [33], go w1 ⟨J5, L, v1, J6, L, x1, rfl, rfl⟩, x2, by show (ords ++ seg ++ [33]).length ≤ 2 * (j + 1); rw [lB]; omega, by show i + 1 ≤ j + 1; omega, hT.nx w5 (by rw [q33]; decide), fun s hs3 => ?_, fr1.trans ((w3.trans v3).trans x3).t⟩
    rw [k6, k12 s]
    show CRw (ords ++ seg ++ [33]) _ (gtE (ptE t (kT ts i - 11) F) s)
    rw [← hcx, gtE_put (by omega) hs3]
    by_cases he : s = c - 11
    · rw [if_pos he, if_pos he]
      refine ⟨ords.length, ords.length + seg.length, by omega, rfl, by omega, ?_, fun rest env => ?_⟩
      · rw [← lA, List.getElem?_append_right (Nat.le_refl _), Nat.sub_self]; rfl
      · obtain ⟨n, y1, y2⟩ := w7 ords ([33] ++ rest) env [] rfl (Nat.zero_le _)
        refine ⟨n, by omega, ?_⟩
        rw [List.append_assoc]
        exact y2
    · rw [if_neg he, if_neg he, List.append_assoc]
      exact (hc s hs3).app _
end CLA
