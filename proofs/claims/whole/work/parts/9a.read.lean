/-! the class's reader: read() -/
/-- the cells with one Script more: its two cells, its two rows -/
def NSz (Z : Zs) (I : Nat → Nat → Int32) (n : Nat) (Z1 : Zs) (I1 : Nat → Nat → Int32) : Prop := Z1.2.2.2.1 = Z.2.2.2.1 + 2 ∧ Z1.2.2.2.2 ≤ Z.2.2.2.2 + n + 4 ∧ (∀ a, a < Z.2.2.2.1 → Z1.1 a = Z.1 a ∧ Z1.2.2.1 a = Z.2.2.1 a ∧ (∀ k, Z1.2.1 a k = Z.2.1 a k) ∧ I1 a = I a) ∧ Z1.1 Z.2.2.2.1 = 6 ∧ Z1.1 (Z.2.2.2.1 + 1) = 13 ∧ Z1.2.2.1 (Z.2.2.2.1 + 1) = n ∧ Z1.2.1 Z.2.2.2.1 0 = some (Z.2.2.2.1 + 1) ∧ (∀ k, k < n → I1 (Z.2.2.2.1 + 1) k = I 11 k) ∧ I1 Z.2.2.2.1 1 = I 12 0 ∧ I1 Z.2.2.2.1 2 = I 12 1 ∧ I1 Z.2.2.2.1 3 = I 12 2
theorem ns_sc {Z : Zs} {I : Nat → Nat → Int32} {L : Nat → Nat → Int64} (hS : Sh Z) (n : Nat) : ∃ Z1 I1 L1, scS (Z, I, L) n = (Z1, I1, L1) ∧ NSz Z I n Z1 I1 := by
  have h99 := hS.1
  refine ⟨(scS (Z, I, L) n).1, (scS (Z, I, L) n).2.1, (scS (Z, I, L) n).2.2, rfl, ?_⟩
  have x1 : ∀ a, a < Z.2.2.2.1 → a ≠ mx ((Z, I, L) : Mem) := fun a ha => Nat.ne_of_lt ha
  have x2 : ∀ a, a < Z.2.2.2.1 → a ≠ mx (nw ((Z, I, L) : Mem) 6 4) := fun a ha => Nat.ne_of_lt (Nat.lt_succ_of_lt ha)
  have y : Z.2.2.2.1 ≠ Z.2.2.2.1 + 1 := by omega
  obtain ⟨B0, e0⟩ : ∃ B, B = pR (cpS (Z, I, L) n) Z.2.2.2.1 0 (Z.2.2.2.1 + 1) := ⟨_, rfl⟩
  have sx : cI (scS (Z, I, L) n) Z.2.2.2.1 = upd (upd (upd (cI B0 Z.2.2.2.1) 1 (I 12 0)) 2 (I 12 1)) 3 (I 12 2) := by
    rw [e0]
    show cI (pI (pI (pI (pR (cpS (Z, I, L) n) Z.2.2.2.1 0 (Z.2.2.2.1 + 1)) Z.2.2.2.1 1 (I 12 0)) Z.2.2.2.1 2 (I 12 1)) Z.2.2.2.1 3 (I 12 2)) Z.2.2.2.1 = _
    rw [cI_pI, if_pos rfl, cI_pI, if_pos rfl, cI_pI, if_pos rfl]
  refine ⟨rfl, ?_, fun a ha => ⟨(rw1_n _ _ (x2 a ha)).trans (rw1_n _ _ (x1 a ha)), (rw1_n _ _ (x2 a ha)).trans (rw1_n _ _ (x1 a ha)), fun k => ?_, ?_⟩, (rw1_n _ _ y).trans (rw1_s _ _ _), rw1_s _ _ _, rw1_s _ _ _, ?_, fun k hk => ?_, ?_, ?_, ?_⟩
  · show Z.2.2.2.2 + _ + _ ≤ _
    omega
  · exact (congrFun (rw1_n _ _ (x1 a ha)) k).trans ((congrFun (rw1_n _ _ (x2 a ha)) k).trans (congrFun (rw1_n _ _ (x1 a ha)) k))
  · exact (rw1_n _ _ (x1 a ha)).trans ((rw1_n _ _ (x1 a ha)).trans ((rw1_n _ _ (x1 a ha)).trans ((rw1_n _ _ (x2 a ha)).trans ((rw1_n _ _ (x2 a ha)).trans (rw1_n _ _ (x1 a ha))))))
  · show (rw1 (mR (cpS (Z, I, L) n)) Z.2.2.2.1 (va_up (mR (cpS (Z, I, L) n) Z.2.2.2.1) 0 (some (Z.2.2.2.1 + 1)))) Z.2.2.2.1 0 = _
    rw [rw1_s]; rfl
  · refine (congrFun (rw1_n _ _ y.symm) k).trans ((congrFun (rw1_n _ _ y.symm) k).trans ((congrFun (rw1_n _ _ y.symm) k).trans ((congrFun (rw1_s _ _ _) k).trans ?_)))
    unfold va_cpy
    rw [if_pos ⟨Nat.zero_le _, by omega⟩, Nat.zero_add, Nat.sub_zero]
    exact congrFun ((rw1_n _ _ (x2 11 (by omega))).trans (rw1_n _ _ (x1 11 (by omega)))) k
  · show cI (scS (Z, I, L) n) Z.2.2.2.1 1 = _
    rw [sx, upd_n _ _ (by decide), upd_n _ _ (by decide), upd_s]
  · show cI (scS (Z, I, L) n) Z.2.2.2.1 2 = _
    rw [sx, upd_n _ _ (by decide), upd_s]
  · show cI (scS (Z, I, L) n) Z.2.2.2.1 3 = _
    rw [sx, upd_s]
theorem nI_sur (x : Int32) : ∃ n, x = nI n := ⟨x.toBitVec.toNat, by
  apply Int32.toBitVec_inj.mp
  show x.toBitVec = BitVec.ofNat 32 x.toBitVec.toNat
  rw [BitVec.ofNat_toNat, BitVec.setWidth_eq]⟩
def RdR (g : GE) (Z : Zs) (L : Nat → Nat → Int64) (ts : List (Nat × Nat × Nat)) (k : Nat) (I : Nat → Nat → Int32) (res : (Nat × Nat) ⊕ TE) : Prop := match res with
  | .inl q => ∃ I1, Lp_X5_read_55 g 82 3 (nI k) (Z, I, L) (some .null) (Z, I1, L) ∧ FDz Z I1 ts q.1 q.2 ∧ q.2 < ts.length ∧ FD2 I I1
  | .inr t => ∃ I1 cl i ords, Lp_X5_read_55 g 82 3 (nI k) (Z, I, L) (some (rf g Z.2.2.2.1)) (scS (Z, I1, L) ords.length) ∧ RDz Z I1 ts cl i 0 ords ∧ CZw I1 ords t ∧ ords.length ≤ 600 ∧ FD2 I I1
section RTY
variable {g : GE} {Z : Zs} {L : Nat → Nat → Int64} {ts : List (Nat × Nat × Nat)} {u : Nat}
theorem rd_55 (hS : Sh Z) (hT : TSz ts) (hu : ts.length * 10 + 9 < u) : ∀ (d k : Nat), k + d = 4 → ∀ (I : Nat → Nat → Int32) (cl i : Nat) (ords : List Nat) (t : TE), RDz Z I ts cl i 0 ords → ords.length ≤ 2 * i → i < ts.length → CZw I ords t → RdR g Z L ts k I (rdF (kT ts) (vT ts) u d i t) := by
  have k3 := hS.k 3 5 (by decide) (by decide)
  have hlen := hT.2.1
  have stop : ∀ {k : Nat} {J : Nat → Nat → Int32} {f j : Nat}, FDz Z J ts f j → Lp_X5_read_55 g 82 3 (nI k) (Z, J, L) (some .null) (Z, J, L) := fun {k J f j} h => wp_X5_read_55 (M := (Z, J, L)) k3 ⟨fun _ => ⟨fun z => absurd z h.ne, fun _ => ⟨rfl, rfl⟩⟩, fun _ => ⟨fun _ => ⟨fun z => absurd z h.ne, fun _ => ⟨rfl, rfl⟩⟩, fun z => absurd z h.ne⟩⟩
  intro d
  induction d with
  | zero =>
    intro k hk I cl i ords t hr ho hi hc
    have hk : k = 4 := hk
    subst hk
    exact ⟨I, cl, i, ords, wp_X5_read_55 (M := (Z, I, L)) k3 ⟨fun _ => en_rd hS hr.2.2.2.2.2.1 hr.2.2.2.2.2.2.2.1 (by omega), fun z => absurd (by decide) z⟩, hr, hc, by omega, fun _ _ _ _ => rfl⟩
  | succ d ih =>
    intro k hk I cl i ords t hr ho hi hc
    have h8 := hr.2.2.2.2.2.1
    have en := en_rd (g := g) (L := L) hS h8 hr.2.2.2.2.2.2.2.1 (show ords.length < 602 by omega)
    show RdR g Z L ts k I (if kT ts i = 37 then .inr t else _)
    by_cases h37 : kT ts i = 37
    · rw [if_pos h37]
      exact ⟨I, cl, i, ords, wp_X5_read_55 (M := (Z, I, L)) k3 ⟨fun _ => en, fun _ => ⟨fun _ => en, fun _ => ⟨fun _ => en, fun z => absurd ((hr.k hT (x := 37) (by decide)).mpr h37) z⟩⟩⟩, hr, hc, by omega, fun _ _ _ _ => rfl⟩
    rw [if_neg h37]
    have n4 : ¬ (4 : Int32) ≤ nI k := fun z => absurd ((nI_leI (a := 4) (by decide) (by omega)).mp z) (by omega)
    have go : ∀ {J : Nat → Nat → Int32} {r : Option Value} {M' : Mem}, Cl g 81 mu_X5_readClause [rf g 3] (Z, I, L) none (Z, J, L) → Lp_X5_read_55 g 82 3 (nI (k + 1)) (Z, J, L) r M' → Lp_X5_read_55 g 82 3 (nI k) (Z, I, L) r M' := fun {J r M'} h1 h2 => wp_X5_read_55 (M := (Z, I, L)) k3 ⟨fun z => absurd z n4, fun _ => ⟨fun z => absurd h8 z, fun _ => ⟨fun z => absurd ((hr.k hT (x := 37) (by decide)).mp z) h37, fun _ => ⟨(Z, J, L), h1, fun y hy => by rw [hy, nI_1]; exact h2⟩⟩⟩⟩
    have c := sp_clause (g := g) (L := L) hS hT hr ho hi hu hc
    cases hx : clsF (kT ts) (vT ts) u i t with
    | inl q =>
      rw [hx] at c
      obtain ⟨J, a1, a2, a3, a4⟩ := c
      exact ⟨J, go a1 (stop a2), a2, a3, a4⟩
    | inr q =>
      rw [hx] at c
      obtain ⟨J, cl2, ords2, a1, a2, a3, a4, a5, a6, a7⟩ := c
      have w := ih (k + 1) (by omega) J cl2 q.2 ords2 q.1 a2 a3 a5 a6
      show RdR g Z L ts k I (rdF (kT ts) (vT ts) u d q.2 q.1)
      cases hy : rdF (kT ts) (vT ts) u d q.2 q.1 with
      | inl z =>
        rw [hy] at w
        obtain ⟨J2, b1, b2, b3, b4⟩ := w
        exact ⟨J2, go a1 b1, b2, b3, a7.trans b4⟩
      | inr z =>
        rw [hy] at w
        obtain ⟨J2, b1, b2, b3, b4, b5, b6, b7, b8⟩ := w
        exact ⟨J2, b1, b2, b3, go a1 b4, b5, b6, b7, a7.trans b8⟩
end RTY
def FD3 (I I1 : Nat → Nat → Int32) : Prop := ∀ a, ¬ (3 ≤ a ∧ a ≤ 12) → I1 a = I a
def RdO (g : GE) (Z : Zs) (L : Nat → Nat → Int64) (ts : List (Nat × Nat × Nat)) (I : Nat → Nat → Int32) (res : (Nat × Nat) ⊕ TE) : Prop := match res with
  | .inl q => ∃ I1, Cl g 82 mu_X5_read [rf g 3, rf g 1] (Z, I, L) (some .null) (Z, I1, L) ∧ FDz Z I1 ts q.1 q.2 ∧ q.2 < ts.length ∧ FD3 I I1
  | .inr t => ∃ I1 cl i ords Z2 I2 L2, Cl g 82 mu_X5_read [rf g 3, rf g 1] (Z, I, L) (some (rf g Z.2.2.2.1)) (Z2, I2, L2) ∧ NSz Z I1 ords.length Z2 I2 ∧ RDz Z I1 ts cl i 0 ords ∧ CZw I1 ords t ∧ ords.length ≤ 600 ∧ FD3 I I1
section RTZ
variable {g : GE} {Z : Zs} {L : Nat → Nat → Int64} {I : Nat → Nat → Int32} {tp : List Nat} {ts : List (Nat × Nat × Nat)}
theorem sp_read (hS : Sh Z) (hT : IL Z I 1 2 300 tp) (h8 : T8 tp) (hK : TKz Z I ts) : RdO g Z L (tkL tp) I (rdF (kT (tkL tp)) (vT (tkL tp)) 3100 4 0 (none, none, none)) := by
  have hl : tp.length ≤ 300 := hT.2.2.2.2.2.1
  have hts := ts_ok hl
  obtain ⟨J1, a1, a2, a3⟩ := sp_scan (g := g) (L := L) hS hT h8 hK
  obtain ⟨J2, e2⟩ : ∃ J, J = rw1 J1 12 (fun q => if q < 3 then (-1 : Int32) else J1 12 q) := ⟨_, rfl⟩
  have fl := sp_fill (g := g) (Z := Z) (I := J1) (L := L) (v := -1) (hS.k 12 13 (by decide) (by decide)) (hS.n 12 3 (by decide)) (by decide)
  rw [← e2] at fl
  obtain ⟨J3, e3⟩ : ∃ J, J = rw1 J2 3 (upd (J2 3) 3 0) := ⟨_, rfl⟩
  obtain ⟨J4, e4⟩ : ∃ J, J = rw1 J3 3 (upd (J3 3) 4 0) := ⟨_, rfl⟩
  obtain ⟨J5, e5⟩ : ∃ J, J = rw1 J4 3 (upd (J4 3) 5 (nI (kT (tkL tp) 0))) := ⟨_, rfl⟩
  obtain ⟨J6, e6⟩ : ∃ J, J = rw1 J5 3 (upd (J5 3) 7 0) := ⟨_, rfl⟩
  obtain ⟨J7, e7⟩ : ∃ J, J = rw1 J6 3 (upd (J6 3) 8 0) := ⟨_, rfl⟩
  obtain ⟨J8, e8⟩ : ∃ J, J = rw1 J7 3 (upd (J7 3) 9 (-1)) := ⟨_, rfl⟩
  have o2 : ∀ a, a ≠ 12 → J2 a = J1 a := fun a ha => by rw [e2, rw1_n _ _ ha]
  have o4 : ∀ a, a ≠ 3 → J4 a = J2 a := fun a ha => by rw [e4, rw1_n _ _ ha, e3, rw1_n _ _ ha]
  have o8 : ∀ a, a ≠ 3 → J8 a = J2 a := fun a ha => by rw [e8, rw1_n _ _ ha, e7, rw1_n _ _ ha, e6, rw1_n _ _ ha, e5, rw1_n _ _ ha, o4 a ha]
  have k4 : TKz Z J4 (tkL tp) := a2.kept (fun a h1 h2 => by rw [o4 a (by omega), o2 a (by omega)])
  have ka := sp_kindAt (g := g) (L := L) (i := 0) hS k4 (by decide)
  obtain ⟨cl, hcl⟩ := nI_sur (J2 3 6)
  have r : RDz Z J8 (tkL tp) cl 0 0 [] := by
    refine ⟨a2.kept (fun a h1 h2 => by rw [o8 a (by omega), o2 a (by omega)]), ?_, ?_, ?_, ?_, ?_, ?_, ?_, Nat.zero_le _, fun k v hk => by cases hk⟩
    · rw [e8, rw1_s, upd_n _ _ (by decide), e7, rw1_s, upd_n _ _ (by decide), e6, rw1_s, upd_n _ _ (by decide), e5, rw1_s, upd_n _ _ (by decide), e4, rw1_s, upd_s]; rfl
    · rw [e8, rw1_s, upd_n _ _ (by decide), e7, rw1_s, upd_n _ _ (by decide), e6, rw1_s, upd_n _ _ (by decide), e5, rw1_s, upd_s]
    · rw [e8, rw1_s, upd_n _ _ (by decide), e7, rw1_s, upd_n _ _ (by decide), e6, rw1_s, upd_n _ _ (by decide), e5, rw1_s, upd_n _ _ (by decide), e4, rw1_s, upd_n _ _ (by decide), e3, rw1_s, upd_n _ _ (by decide)]; exact hcl
    · rw [e8, rw1_s, upd_n _ _ (by decide), e7, rw1_s, upd_n _ _ (by decide), e6, rw1_s, upd_s]; rfl
    · rw [e8, rw1_s, upd_n _ _ (by decide), e7, rw1_s, upd_s]
    · rw [e8, rw1_s, upd_s]
    · rw [e8, rw1_s, upd_n _ _ (by decide), e7, rw1_s, upd_n _ _ (by decide), e6, rw1_s, upd_n _ _ (by decide), e5, rw1_s, upd_n _ _ (by decide), e4, rw1_s, upd_n _ _ (by decide), e3, rw1_s, upd_s]; rfl
  have cz : CZw J8 [] (none, none, none) := fun s hs => by
    have : gtE (none, none, none) s = none := by
      unfold gtE
      split
      · rfl
      · split <;> rfl
    rw [this]
    show J8 12 s = -1
    rw [o8 12 (by decide), e2, rw1_s, if_pos hs]
  have fr : FD3 I J8 := fun a ha => by rw [o8 a (by omega), o2 a (by omega), a3 a (by omega)]
  have go : ∀ {v : Option Value} {M' : Mem}, Lp_X5_read_55 g 82 3 (nI 0) (Z, J8, L) v M' → Cl g 82 mu_X5_read [rf g 3, rf g 1] (Z, I, L) v M' := fun {v M'} h => by
    refine cp_X5_read (M := (Z, I, L)) (hS.k 3 5 (by decide) (by decide)) hT.1 ⟨4, hS.r 3 0 4 (by decide), hS.k 4 9 (by decide) (by decide), (Z, J1, L), a1, 12, hS.r 3 2 12 (by decide), hS.k 12 13 (by decide) (by decide), (Z, J2, L), fl, fun M14 h14 M19 h19 => ?_⟩
    have h14 : M14 = (Z, J3, L) := by rw [h14, e3]
    rw [h14] at h19
    have h19 : M19 = (Z, J4, L) := by rw [h19, e4]
    rw [h19]
    refine ⟨4, hS.r 3 0 4 (by decide), hS.k 4 9 (by decide) (by decide), _, (Z, J4, L), ka, fun M33 h33 M39 h39 M45 h45 M51 h51 => ?_⟩
    have h33 : M33 = (Z, J5, L) := by rw [h33, e5]
    rw [h33] at h39
    have h39 : M39 = (Z, J6, L) := by rw [h39, e6]
    rw [h39] at h45
    have h45 : M45 = (Z, J7, L) := by rw [h45, e7]
    rw [h45] at h51
    have h51 : M51 = (Z, J8, L) := by rw [h51, e8]
    rw [h51]
    exact h
  have hln := hts.2.1
  have w := rd_55 (g := g) (L := L) (u := 3100) hS hts (by omega) 4 0 rfl J8 cl 0 [] (none, none, none) r (Nat.zero_le _) hts.1 cz
  cases hy : rdF (kT (tkL tp)) (vT (tkL tp)) 3100 4 0 (none, none, none) with
  | inl z =>
    rw [hy] at w
    obtain ⟨J9, b1, b2, b3, b4⟩ := w
    exact ⟨J9, go b1, b2, b3, fun a ha => by rw [b4 a (by omega) (by omega) (by omega), fr a ha]⟩
  | inr z =>
    rw [hy] at w
    obtain ⟨J9, cl2, i, ords, b1, b2, b3, b4, b5⟩ := w
    obtain ⟨Z1, I1, L1, c1, c2⟩ := ns_sc (I := J9) (L := L) hS ords.length
    rw [c1] at b1
    exact ⟨J9, cl2, i, ords, Z1, I1, L1, go b1, c2, b2, b3, b4, fun a ha => by rw [b5 a (by omega) (by omega) (by omega), fr a ha]⟩
end RTZ
