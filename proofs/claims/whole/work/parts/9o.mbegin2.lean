/-! the model's reader: beginOne(), whole -/
def BgR (g : GE) (Z : Zs) (L : Nat → Nat → Int64) (k : Nat) (tp : List Nat) (ts : List (Nat × Nat × Nat)) (ei : Bool) (I : Nat → Nat → Int32) (res : Nat ⊕ Option MSt) : Prop := match res with
  | .inl f => Cl g 5 mu_X12_beginOne [rf g 76, .int (b2i ei)] (Z, I, L) (some (.int (nI f))) (Z, I, L) ∧ 1 ≤ f ∧ f ≤ 5
  | .inr none => True
  | .inr (some s) => ∃ I1 L1, Cl g 5 mu_X12_beginOne [rf g 76, .int (b2i ei)] (Z, I, L) (some (.int 0)) (Z, I1, L1) ∧ MAz I1 L1 k tp ts s ∧ GFz k I I1
def NoB (g : GE) (Z : Zs) (I : Nat → Nat → Int32) (L : Nat → Nat → Int64) (x : Int32) (r : Option Value) (M' : Mem) : Prop := ∃ (v1 : Int64), Cl g 1 mu_X12_w3 [.int 110, .int 111, .int 116] (Z, I, L) (some (.long v1)) (Z, I, L) ∧ (∃ (v3 : Int32), Cl g 1 mu_X12_isWord [rf g 76, .long v1] (Z, I, L) (some (.int v3)) (Z, I, L) ∧ ((v3 = 0 → (r = some (.int 1) ∧ M' = (Z, I, L))) ∧ (¬ v3 = 0 → (∃ (v5 : Int32), Cl g 3 mu_X12_isAskAhead [rf g 76, .int x] (Z, I, L) (some (.int v5)) (Z, I, L) ∧ ((v5 = 0 → (r = some (.int 1) ∧ M' = (Z, I, L))) ∧ (¬ v5 = 0 → (∃ (v7 : Int32) (I8 : Nat → Nat → Int32) (L9 : Nat → Nat → Int64), Cl g 4 mu_X12_opensBy [rf g 76, .int 20] (Z, I, L) (some (.int v7)) (Z, I8, L9) ∧ (r = some (.int v7) ∧ M' = (Z, I8, L9)))))))))
section MBEH
variable {g : GE} {Z : Zs} {I : Nat → Nat → Int32} {L : Nat → Nat → Int64} {tp : List Nat} {ts : List (Nat × Nat × Nat)} {k i : Nat} {P : List Nat} {cs : List (Nat × Nat)}
theorem mp_isOf (hS : Sh Z) {lk : Bool} (hs : I 76 22 = 2 ↔ lk = true) {v : Nat} (hv : v < 100) : Cl g 1 mu_X12_isOf [rf g 76, .int (nI v)] (Z, I, L) (some (.int (b2i (decide (decide (6 ≤ v) = lk))))) (Z, I, L) := by
  have l5 : nI v ≤ 5 ↔ v ≤ 5 := nI_leI (b := 5) (by omega) (by decide)
  have l6 : (6 : Int32) ≤ nI v ↔ 6 ≤ v := nI_leI (a := 6) (by decide) (by omega)
  refine cp_X12_isOf (hS.k 76 12 (by decide) (by decide)) ⟨fun z => ?_, fun z => ?_⟩
  · have e : lk = false := by
      cases lk with
      | false => rfl
      | true => exact absurd (hs.mpr rfl) z
    rw [e]
    refine ⟨fun y => ⟨?_, rfl⟩, fun y => ⟨?_, rfl⟩⟩
    · rw [decide_eq_true (l6.mp y)]; rfl
    · rw [decide_eq_false (fun x => y (l6.mpr x))]; rfl
  · rw [hs.mp z]
    refine ⟨fun y => ⟨?_, rfl⟩, fun y => ⟨?_, rfl⟩⟩
    · rw [decide_eq_false (show ¬ 6 ≤ v by have := l5.mp y; omega)]; rfl
    · rw [decide_eq_true (show 6 ≤ v from Classical.byContradiction (fun x => y (l5.mpr (by omega))))]; rfl
theorem mp_begin (hS : Sh Z) (h8 : T8 tp) (hT : TSz ts) (h11 : ∀ i, 11 ≤ kT ts i) (m : MAz I L k tp ts (P, cs, false, i)) {lk ei : Bool} (hs : I 76 22 = 2 ↔ lk = true) : BgR g Z L k tp ts ei I (begF (kT ts) (vT ts) lk ei P cs i) := by
  have k76 := hS.k 76 12 (by decide) (by decide)
  have tok : TokM I L (kT ts i) (vT ts i) := m.2.1.2.1
  have hk : kT ts i < 38 := by have := hT.2.2.2.1 i; omega
  have hv20 := hT.2.2.2.2.2.1 i
  have hpl : PLz I P := m.2.2.1.1
  have t1 : I 76 11 = 1 ↔ kT ts i = 19 := tk_eq (x := 1) (c := 19) tok hk (by decide) (by decide) (by decide) (by decide)
  have t40 : I 76 11 = 40 ↔ kT ts i = 31 := tk_eq (x := 40) (c := 31) tok hk (by decide) (by decide) (by decide) (by decide)
  have t45 : I 76 11 = 45 ↔ kT ts i = 28 := tk_eq (x := 45) (c := 28) tok hk (by decide) (by decide) (by decide) (by decide)
  have nm := mp_nameOf (g := g) (Z := Z) (I := I) (L := L) hS tok hk (h11 i) hv20
  have one := mp_one (g := g) hS h8 hT m
  unfold begF
  by_cases h19 : kT ts i = 19
  · rw [if_pos h19]
    obtain ⟨mm, e12, nr⟩ : ∃ mm, I 76 12 = nI mm ∧ NRz (vT ts i) mm := by
      obtain ⟨t, -, -, -, -, a5, -⟩ := tok
      exact a5 h19
    rw [if_neg (by omega)] at nm
    by_cases h9 : 9999 < vT ts i
    · rw [if_pos h9]
      have hm : 10000 ≤ mm ∧ mm ≤ 1000000 := by unfold NRz at nr; omega
      refine ⟨cp_X12_beginOne k76 ⟨fun z => absurd (t1.mpr h19) z, fun _ => ⟨fun z => ?_, fun _ => ⟨rfl, rfl⟩⟩⟩, by decide, by decide⟩
      rw [e12] at z
      exact absurd ((nI_leI (b := 9999) (by omega) (by decide)).mp z) (by omega)
    · rw [if_neg h9]
      have hm : mm = vT ts i := by unfold NRz at nr; omega
      obtain ⟨I1, J1, J2, L1, a1, a2, a3, a4, a5⟩ := one (by omega) 0 (vT ts i)
      refine ⟨I1, L1, cp_X12_beginOne k76 ⟨fun z => absurd (t1.mpr h19) z, fun z1 => ⟨fun _ => ⟨_, nm, fun _ => ?_, fun y => absurd (by decide) y⟩, fun z => ?_⟩⟩, a4, a5⟩
      · refine wp_X12_beginOne_39 k76 ⟨fun _ => ⟨fun y => absurd z1 y, fun _ => wp_X12_beginOne_65 k76 k76 ⟨fun y => absurd z1 y, fun _ => ⟨J1, L, ?_, J2, L1, a2, I1, L1, a3, rfl, rfl⟩⟩⟩, fun y => absurd z1 y⟩
        rw [e12, hm]; exact a1
      · rw [e12] at z
        exact absurd ((nI_leI (b := 9999) (by omega) (by decide)).mpr (by omega)) z
  rw [if_neg h19]
  have n1 : ¬ I 76 11 = 1 := fun z => h19 (t1.mp z)
  by_cases h20 : kT ts i = 20
  · rw [if_pos h20]
    rw [if_pos h20] at nm
    have hv := hv20 h20
    have io := mp_isOf (g := g) (Z := Z) (I := I) (L := L) hS hs (v := vT ts i) (by omega)
    have pos : ¬ nI (vT ts i) < 0 := nI_pos (by omega)
    by_cases h9 : decide (6 ≤ vT ts i) = lk
    · rw [if_pos h9]
      rw [decide_eq_true h9] at io
      obtain ⟨I1, J1, J2, L1, a1, a2, a3, a4, a5⟩ := one (by omega) 1 (vT ts i)
      exact ⟨I1, L1, cp_X12_beginOne k76 ⟨fun _ => ⟨_, nm, fun y => absurd y pos, fun _ => ⟨_, io, fun _ => wp_X12_beginOne_39 k76 ⟨fun y => absurd y n1, fun _ => ⟨fun y => absurd y pos, fun _ => ⟨fun _ => wp_X12_beginOne_65 k76 k76 ⟨fun _ => ⟨J1, L, a1, J2, L1, a2, I1, L1, a3, rfl, rfl⟩, fun y => absurd y n1⟩, fun y => absurd y n1⟩⟩⟩, fun y => absurd y (by decide)⟩⟩, fun y => absurd y n1⟩, a4, a5⟩
    · rw [if_neg h9]
      rw [decide_eq_false h9] at io
      exact ⟨cp_X12_beginOne k76 ⟨fun _ => ⟨_, nm, fun y => absurd y pos, fun _ => ⟨_, io, fun y => absurd rfl y, fun _ => ⟨rfl, rfl⟩⟩⟩, fun y => absurd y n1⟩, by decide, by decide⟩
  rw [if_neg h20]
  rw [if_neg h20] at nm
  have neg : (-1 : Int32) < 0 := by decide
  have wx : wxF (kT ts i) (vT ts i) = kT ts i := if_neg h20
  have op := fun (o : Nat) (ho : o = 2 ∨ o = 20 ∨ (40 ≤ o ∧ o < 64)) (hne : ¬ kT ts i = 37) => mp_opensBy (g := g) hS h8 hT m hne ho
  -- an opener: what beginOne answers when it comes to opensBy
  have fin : ∀ o, (o = 2 ∨ o = 20 ∨ (40 ≤ o ∧ o < 64)) → ¬ kT ts i = 37 → (∀ {v : Int32} {I1 : Nat → Nat → Int32} {L1 : Nat → Nat → Int64}, Cl g 4 mu_X12_opensBy [rf g 76, .int (nI o)] (Z, I, L) (some (.int v)) (Z, I1, L1) → Lp_X12_beginOne_39 g 5 76 (b2i ei) (-1) (Z, I, L) (some (.int v)) (Z, I1, L1)) → BgR g Z L k tp ts ei I (pushF P cs i o) := fun o ho hne go => by
    unfold pushF
    by_cases h8' : opsF P = 8
    · rw [if_pos h8']
      exact ⟨cp_X12_beginOne k76 ⟨fun _ => ⟨_, nm, fun _ => go ((op o ho hne).1 h8'), fun y => absurd neg y⟩, fun y => absurd y n1⟩, by decide, by decide⟩
    · rw [if_neg h8']
      obtain ⟨I1, L1, a1, a2, a3⟩ := (op o ho hne).2 h8'
      exact ⟨I1, L1, cp_X12_beginOne k76 ⟨fun _ => ⟨_, nm, fun _ => go a1, fun y => absurd neg y⟩, fun y => absurd y n1⟩, a2, a3⟩
  by_cases h31 : kT ts i = 31
  · rw [if_pos h31]
    exact fin 40 (by decide) (by omega) (fun {v I1 L1} c => wp_X12_beginOne_39 k76 ⟨fun y => absurd y n1, fun _ => ⟨fun _ => ⟨fun y => absurd (t40.mpr h31) y, fun _ => ⟨_, I1, L1, c, rfl, rfl⟩⟩, fun y => absurd neg y⟩⟩)
  rw [if_neg h31]
  have n40 : ¬ I 76 11 = 40 := fun z => h31 (t40.mp z)
  by_cases h28 : kT ts i = 28
  · rw [if_pos h28]
    exact fin 2 (by decide) (by omega) (fun {v I1 L1} c => wp_X12_beginOne_39 k76 ⟨fun y => absurd y n1, fun _ => ⟨fun _ => ⟨fun _ => ⟨fun y => absurd (t45.mpr h28) y, fun _ => ⟨_, I1, L1, c, rfl, rfl⟩⟩, fun y => absurd y n40⟩, fun y => absurd neg y⟩⟩)
  rw [if_neg h28]
  have n45 : ¬ I 76 11 = 45 := fun z => h28 (t45.mp z)
  have w14 := tk_w tok hk (w := 14) (by decide)
  rw [wx] at w14
  have c14 : wC 14 = 26982 := by decide
  by_cases h14 : kT ts i = 14
  · rw [if_pos h14]
    have t2 : I 76 11 = 2 := Classical.byContradiction (fun z => w14.2 z h14)
    exact fin 41 (by decide) (by omega) (fun {v I1 L1} c => wp_X12_beginOne_39 k76 ⟨fun y => absurd y n1, fun _ => ⟨fun _ => ⟨fun _ => ⟨fun _ => ⟨fun y => absurd t2 y, fun _ => ⟨fun y => absurd ((lg_cmp_eq _ _).mpr (by rw [← c14]; exact (w14.1 t2).mpr h14)) y, fun _ => ⟨_, I1, L1, c, rfl, rfl⟩⟩⟩, fun y => absurd y n45⟩, fun y => absurd y n40⟩, fun y => absurd neg y⟩⟩)
  rw [if_neg h14]
  have e18 := mp_isWord (g := g) (Z := Z) (I := I) (L := L) hS tok hk (w := 18) (by decide)
  rw [wx] at e18
  have e3 := w3_c (g := g) (Z := Z) (I := I) (L := L) 18 (x := 110) (y := 111) (z := 116) (by decide)
  have ask := mp_isAskAhead (g := g) (L := L) hS hpl ei
  have rest : ∀ {r : Option Value} {M' : Mem}, NoB g Z I L (b2i ei) r M' → Lp_X12_beginOne_39 g 5 76 (b2i ei) (-1) (Z, I, L) r M' := fun {r M'} h => wp_X12_beginOne_39 k76 ⟨fun y => absurd y n1, fun _ => ⟨fun _ => ⟨fun _ => ⟨fun _ => ⟨fun _ => h, fun t2 => ⟨fun _ => h, fun y => absurd ((w14.1 t2).mp (by rw [c14]; exact (lg_cmp_eq _ _).mp y)) h14⟩⟩, fun y => absurd y n45⟩, fun y => absurd y n40⟩, fun y => absurd neg y⟩⟩
  by_cases h18 : kT ts i = 18 ∧ askF ei P = true
  · rw [if_pos h18]
    rw [decide_eq_true h18.1] at e18
    rw [h18.2] at ask
    exact fin 20 (by decide) (by omega) (fun {v I1 L1} c => rest ⟨_, e3, _, e18, fun y => absurd y (by decide), fun _ => ⟨_, ask, fun y => absurd y (by decide), fun _ => ⟨_, I1, L1, c, rfl, rfl⟩⟩⟩)
  · rw [if_neg h18]
    refine ⟨cp_X12_beginOne k76 ⟨fun _ => ⟨_, nm, fun _ => rest ?_, fun y => absurd neg y⟩, fun y => absurd y n1⟩, by decide, by decide⟩
    by_cases hh : kT ts i = 18
    · have ha : askF ei P = false := by
        cases z : askF ei P with
        | false => rfl
        | true => exact absurd ⟨hh, z⟩ h18
      rw [decide_eq_true hh] at e18
      rw [ha] at ask
      exact ⟨_, e3, _, e18, fun y => absurd y (by decide), fun _ => ⟨_, ask, fun _ => ⟨rfl, rfl⟩, fun y => absurd rfl y⟩⟩
    · rw [decide_eq_false hh] at e18
      exact ⟨_, e3, _, e18, fun _ => ⟨rfl, rfl⟩, fun y => absurd rfl y⟩
end MBEH
