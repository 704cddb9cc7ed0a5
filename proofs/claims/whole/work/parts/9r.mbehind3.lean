/-! the model's reader: behindOne(), whole -/
def BhR (g : GE) (Z : Zs) (L : Nat → Nat → Int64) (k : Nat) (tp : List Nat) (ts : List (Nat × Nat × Nat)) (ei : Bool) (I : Nat → Nat → Int32) (res : Option MSt) : Prop := match res with
  | none => Cl g 4 mu_X12_behindOne [rf g 76, .int (b2i ei)] (Z, I, L) (some (.int 0)) (Z, I, L)
  | some s => ∃ I1 L1, Cl g 4 mu_X12_behindOne [rf g 76, .int (b2i ei)] (Z, I, L) (some (.int 1)) (Z, I1, L1) ∧ MAz I1 L1 k tp ts s ∧ GFz k I I1
section MBHF
variable {g : GE} {Z : Zs} {I : Nat → Nat → Int32} {L : Nat → Nat → Int64} {tp : List Nat} {ts : List (Nat × Nat × Nat)} {k i : Nat} {P : List Nat} {cs : List (Nat × Nat)}
theorem mp_behind (hS : Sh Z) (h8 : T8 tp) (hT : TSz ts) (m : MAz I L k tp ts (P, cs, true, i)) {ei : Bool} : BhR g Z L k tp ts ei I (bhF (kT ts) ei P cs i) := by
  have k76 := hS.k 76 12 (by decide) (by decide)
  have r81 := hS.r 76 18 81 (by decide)
  have k81 := hS.k 81 13 (by decide) (by decide)
  have n81 := hS.n 81 160 (by decide)
  have tok : TokM I L (kT ts i) (vT ts i) := m.2.1.2.1
  have hk : kT ts i < 38 := by have := hT.2.2.2.1 i; omega
  have hv20 := hT.2.2.2.2.2.1 i
  have hpl : PLz I P := m.2.2.1.1
  have hl160 := hpl.2.1
  have bt := mp_between (g := g) (ei := ei) hS hT hpl tok
  have mkc := mp_marker (g := g) (L := L) hS hpl
  obtain ⟨s0, hs0⟩ : ∃ s0, s0 = oIn (mkF P) := ⟨_, rfl⟩
  -- all of it, from pc 25 on
  have start : ∀ {r : Option Value} {M' : Mem}, Lp_X12_behindOne_25 g 4 76 (oIn (btwF (kT ts) ei P i)) (nI (mxF P) - 1) s0 (Z, I, L) r M' → Cl g 4 mu_X12_behindOne [rf g 76, .int (b2i ei)] (Z, I, L) r M' := fun {r M'} h => by
    refine cp_X12_behindOne k76 r81 k81 ⟨_, bt, _, mkc, ?_⟩
    cases hm : mkF P with
    | none =>
      rw [hm] at hs0
      rw [mx_none hm, nI_m1] at h ⊢
      exact ⟨fun z => absurd z (by decide), fun _ => by rw [hs0] at h; exact h⟩
    | some q =>
      rw [hm] at hs0
      obtain ⟨n, e1, e2, e3, -⟩ := mx_some hpl.pr hm
      rw [e1, nI_pred] at h ⊢
      refine ⟨fun _ => ⟨by rw [n81]; exact vp_in_nI (by omega) (by decide), ?_⟩, fun z => absurd (by rw [← nI_0]; exact nI_le (by omega) (by omega)) z⟩
      rw [nI_clamp (by omega), e3]
      rw [hs0] at h; exact h
  have se : ∀ x, x < 64 → (s0 = nI x ↔ mkF P = some x) := fun x hx => by
    rw [hs0]
    cases hm : mkF P with
    | none =>
      refine ⟨fun z => ?_, fun z => by cases z⟩
      have z : (-1 : Int32) = nI x := z
      exact absurd z.symm (nI_ne_m1 (by omega))
    | some q =>
      obtain ⟨n, -, -, -, -, q64⟩ := mx_some hpl.pr hm
      show nI q = nI x ↔ _
      rw [nI_eq (by omega) (by omega)]
      exact ⟨fun z => by rw [z], fun z => Option.some.inj z⟩
  have s40 : s0 = 40 ↔ mkF P = some 40 := se 40 (by decide)
  have s41 : s0 = 41 ↔ mkF P = some 41 := se 41 (by decide)
  have s42 : s0 = 42 ↔ mkF P = some 42 := se 42 (by decide)
  have s43 : s0 = 43 ↔ mkF P = some 43 := se 43 (by decide)
  cases hb : btwF (kT ts) ei P i with
  | some o =>
    obtain ⟨oin, hne⟩ := bt_in hb
    rw [bh_op hb]
    obtain ⟨J1, J2, J3, I1, L1, a1, a2, a3, a4, a5, a6⟩ := ac_op (g := g) hS h8 hT m oin hne
    refine ⟨I1, L1, start ?_, a5, a6⟩
    rw [hb]
    refine wp_X12_behindOne_25 k76 ⟨fun z => absurd z (nI_pos (by omega)), fun _ => ⟨_, mp_rank (by omega), J1, L, a1, J2, L, a2, fun I29 h29 => ⟨I1, L1, ?_, rfl, rfl⟩⟩⟩
    rw [h29, ← a3]; exact a4
  | none =>
    rw [hb] at start
    have t41 : I 76 11 = 41 ↔ kT ts i = 32 := tk_eq (x := 41) (c := 32) tok hk (by decide) (by decide) (by decide) (by decide)
    have t63 : I 76 11 = 63 ↔ kT ts i = 34 := tk_eq (x := 63) (c := 34) tok hk (by decide) (by decide) (by decide) (by decide)
    have t58 : I 76 11 = 58 ↔ kT ts i = 35 := tk_eq (x := 58) (c := 35) tok hk (by decide) (by decide) (by decide) (by decide)
    have ic := mp_isCompared (g := g) (L := L) hS hpl
    have w15 := mp_isWord (g := g) (Z := Z) (I := I) (L := L) hS tok hk (w := 15) (by decide)
    rw [decide_eq_decide.mpr (wx_k (by decide) (by decide) hv20)] at w15
    have e3 := w3_c (g := g) (Z := Z) (I := I) (L := L) 15 (x := 101) (y := 110) (z := 100) (by decide)
    have neg : (-1 : Int32) < 0 := by decide
    unfold bhF
    rw [hb]
    show BhR g Z L k tp ts ei I (if _ then _ else if _ then _ else if _ then _ else if _ then _ else none)
    by_cases c1 : kT ts i = 32 ∧ mkF P = some 40
    · rw [if_pos c1]
      obtain ⟨J1, J2, J3, J4, J5, I1, L1, a1, a2, a3, a4, -, a6, a7, a8, a9⟩ := ac_close (g := g) hS h8 hT m c1.2 (by omega) false
      refine ⟨I1, L1, start (wp_X12_behindOne_25 k76 ⟨fun _ => ⟨fun z => absurd (t41.mpr c1.1) z, fun _ => ⟨fun _ => ⟨J1, L, a1, fun I4 h4 I5 h5 => ?_⟩, fun z => absurd (s40.mpr c1.2) z⟩⟩, fun z => absurd neg z⟩), a8, a9⟩
      rw [← a2] at h4
      rw [h4, ← a3] at h5
      rw [h5]
      refine ⟨fun _ => ⟨J5, L, by rw [← a4 rfl]; exact a6, I1, L1, a7, rfl, rfl⟩, fun z => ?_⟩
      have := s43.mp z
      rw [c1.2] at this; cases this
    rw [if_neg c1]
    -- on to pc 68
    have to68 : ∀ {r : Option Value} {M' : Mem}, Lp_X12_behindOne_68 g 4 76 (nI (mxF P) - 1) s0 (Z, I, L) r M' → Cl g 4 mu_X12_behindOne [rf g 76, .int (b2i ei)] (Z, I, L) r M' := fun {r M'} h => start (wp_X12_behindOne_25 k76 ⟨fun _ => ⟨fun _ => h, fun z => ⟨fun z2 => absurd ⟨t41.mp z, s40.mp z2⟩ c1, fun _ => h⟩⟩, fun z => absurd neg z⟩)
    by_cases c2 : kT ts i = 15 ∧ mkF P = some 43
    · rw [if_pos c2]
      rw [decide_eq_true c2.1] at w15
      obtain ⟨J1, J2, J3, J4, J5, I1, L1, a1, a2, a3, -, a5, a6, a7, a8, a9⟩ := ac_close (g := g) hS h8 hT m c2.2 (by omega) true
      refine ⟨I1, L1, to68 (wp_X12_behindOne_68 k76 r81 k81 ⟨_, e3, _, w15, fun z => absurd z (by decide), fun _ => ⟨fun z => absurd (s43.mpr c2.2) z, fun z1 => ⟨J1, L, a1, fun I4 h4 I5 h5 => ?_⟩⟩⟩), a8, a9⟩
      rw [← a2] at h4
      rw [h4, ← a3] at h5
      rw [h5]
      exact ⟨fun z => absurd z1 z, fun _ => ⟨J4, L, a5 rfl, J5, L, a6, I1, L1, a7, rfl, rfl⟩⟩
    rw [if_neg c2]
    by_cases c3 : kT ts i = 34 ∧ mkF P = some 41 ∧ cmpF P = true
    · rw [if_pos c3]
      rw [decide_eq_false (show ¬ kT ts i = 15 by omega)] at w15
      rw [c3.2.2] at ic
      obtain ⟨J1, J2, J3, I1, L1, a1, a2, a3, a4, a5, a6, a7⟩ := ac_turn (g := g) hS h8 hT m c3.2.1 (by decide) (by omega)
      have e41 := s41.mpr c3.2.1
      refine ⟨I1, L1, to68 (wp_X12_behindOne_68 k76 r81 k81 ⟨_, e3, _, w15, fun _ => ⟨fun z => absurd (t63.mpr c3.1) z, fun _ => ⟨fun z => absurd e41 z, fun _ => ⟨_, ic, fun _ => ⟨J1, L, a1, a2, fun I11 h11 I12 h12 => ⟨I1, L1, ?_, rfl, rfl⟩⟩, fun z => absurd z (by decide)⟩⟩⟩, fun z => absurd rfl z⟩), a6, a7⟩
      rw [e41] at h11
      have h11 : I11 = J2 := h11.trans a3.symm
      rw [h11, ← a4] at h12
      rw [h12]; exact a5
    rw [if_neg c3]
    -- on to pc 160
    have to160 : ∀ {r : Option Value} {M' : Mem}, Lp_X12_behindOne_160 g 4 76 (nI (mxF P) - 1) s0 (Z, I, L) r M' → Cl g 4 mu_X12_behindOne [rf g 76, .int (b2i ei)] (Z, I, L) r M' := fun {r M'} h => by
      have mid : ((¬ (I 76 11) = 63 → Lp_X12_behindOne_160 g 4 76 (nI (mxF P) - 1) s0 (Z, I, L) r M') ∧ ((I 76 11) = 63 → ((¬ s0 = 41 → Lp_X12_behindOne_160 g 4 76 (nI (mxF P) - 1) s0 (Z, I, L) r M') ∧ (s0 = 41 → cmpF P = false)))) := ⟨fun _ => h, fun z => ⟨fun _ => h, fun z2 => by
        cases hc : cmpF P with
        | false => rfl
        | true => exact absurd ⟨t63.mp z, s41.mp z2, hc⟩ c3⟩⟩
      refine to68 (wp_X12_behindOne_68 k76 r81 k81 ⟨_, e3, _, w15, fun _ => ⟨mid.1, fun z => ⟨(mid.2 z).1, fun z2 => ⟨_, ic, fun z3 => ?_, fun _ => h⟩⟩⟩, fun z => ⟨fun _ => ⟨mid.1, fun z1 => ⟨(mid.2 z1).1, fun z2 => ⟨_, ic, fun z3 => ?_, fun _ => h⟩⟩⟩, fun z1 => ?_⟩⟩)
      · rw [(mid.2 z).2 z2] at z3; exact absurd rfl z3
      · rw [(mid.2 z1).2 z2] at z3; exact absurd rfl z3
      · have y15 : kT ts i = 15 := Classical.byContradiction (fun x => z (by rw [decide_eq_false x]; rfl))
        exact absurd ⟨y15, s43.mp z1⟩ c2
    by_cases c4 : kT ts i = 35 ∧ mkF P = some 42
    · rw [if_pos c4]
      obtain ⟨J1, J2, J3, I1, L1, a1, a2, a3, a4, a5, a6, a7⟩ := ac_turn (g := g) hS h8 hT m c4.2 (by decide) (by omega)
      have e42 := s42.mpr c4.2
      refine ⟨I1, L1, to160 (wp_X12_behindOne_160 k76 r81 k81 ⟨fun z => absurd (t58.mpr c4.1) z, fun _ => ⟨fun z => absurd e42 z, fun _ => ⟨J1, L, a1, a2, fun I5 h5 I6 h6 => ⟨I1, L1, ?_, rfl, rfl⟩⟩⟩⟩), a6, a7⟩
      rw [e42] at h5
      have h5 : I5 = J2 := h5.trans a3.symm
      rw [h5, ← a4] at h6
      rw [h6]; exact a5
    · rw [if_neg c4]
      exact to160 (wp_X12_behindOne_160 k76 r81 k81 ⟨fun _ => ⟨rfl, rfl⟩, fun z => ⟨fun _ => ⟨rfl, rfl⟩, fun z2 => absurd ⟨t58.mp z, s42.mp z2⟩ c4⟩⟩)
end MBHF
