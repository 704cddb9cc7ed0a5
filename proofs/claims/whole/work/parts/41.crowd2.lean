/-! crowd(): the class's rounds -/
section CROWD2
variable {g : GE} {Z : Zs} {I : Nat → Nat → Int32} {L : Nat → Nat → Int64} {w h : Nat} {S : Nat → List Nat} {tx : List TX} {q : Nat → Option Nat}
theorem rndS_n {home tap j : Nat} (hq : q j = none) : rndS w h S tx home tap j q = q := by
  unfold rndS; simp only [hq]
theorem rndS_s {home tap j p : Nat} (hq : q j = some p) : rndS w h S tx home tap j q = if stepF w h (S 0) (tpF S tx j) p tap % 200 / 4 = p / 4 ∨ tkB q (stepF w h (S 0) (tpF S tx j) p tap % 200 / 4) (S 1).length 0 = false then rw1 q j (unH home (stepF w h (S 0) (tpF S tx j) p tap % 200)) else q := by
  unfold rndS; simp only [hq]
theorem CW.put {n : Nat} (hC : CW I n q) (j : Nat) (o : Option Nat) : CW (rw1 I 75 (upd (I 75) j (oI o))) n (rw1 q j o) := by
  refine ⟨by rw [rw1_n _ _ (show (74 : Nat) ≠ 75 by decide)]; exact hC.1, fun i hi => ?_⟩
  rw [rw1_s]
  show (if i = j then oI o else I 75 i) = _
  by_cases hij : i = j
  · rw [if_pos hij, hij, rw1_s]
  · rw [if_neg hij, rw1_n _ _ hij]; exact hC.2 i hi
theorem CW.kept {n : Nat} {I1 : Nat → Nat → Int32} (hC : CW I n q) (h4 : I1 74 = I 74) (h5 : I1 75 = I 75) : CW I1 n q := ⟨by rw [h4]; exact hC.1, fun i hi => by rw [h5]; exact hC.2 i hi⟩
theorem or_run {home tap : Nat} (hh : home < w * h) (ht : tap < 4) : ∀ (d j : Nat) (q : Nat → Option Nat) (I : Nat → Nat → Int32), CL Z I w h S tx → qok w h S q → CW I (S 1).length q → j + d = (S 1).length →
    ∃ I1, Lp_X1_oneRound_2 g 6 74 (nI tap) (nI home) (nI j) (Z, I, L) none (Z, I1, L) ∧ CL Z I1 w h S tx ∧ qok w h S (rndF w h S tx home tap d j q) ∧ CW I1 (S 1).length (rndF w h S tx home tap d j q) ∧ ∀ a, ¬ nowA a → a ≠ 75 → I1 a = I a := by
  intro d
  induction d with
  | zero =>
    intro j q I c hq hC hj
    obtain ⟨k, hW, -⟩ := id c
    have hl1 : (S 1).length ≤ 6 := (k.il 1 (by decide)).2.2.2.2.2.1
    refine ⟨I, wp_X1_oneRound_2 (k.1.k 74 1 (by decide) (by decide)) (k.1.r 74 2 75 (by decide)) (k.1.k 75 13 (by decide) (by decide)) (k.1.r 74 1 66 (by decide)) (k.1.k 66 3 (by decide) (by decide)) (k.1.r 74 0 18 (by decide)) (k.1.k 18 8 (by decide) (by decide)) (k.1.r 18 4 21 (by decide)) (k.1.k 21 2 (by decide) (by decide)) ⟨fun _ => ⟨rfl, rfl⟩, fun e => ?_⟩, c, hq, hC, fun _ _ _ => rfl⟩
    rw [hC.1] at e
    exact absurd (nI_le (show (S 1).length ≤ j by omega) (by omega)) e
  | succ d ih =>
    intro j q I c hq hC hj
    obtain ⟨k, hW, -⟩ := id c
    have hm := k.2.1.mul
    have hl1 : (S 1).length ≤ 6 := (k.il 1 (by decide)).2.2.2.2.2.1
    have hjl : j < (S 1).length := by omega
    have e75 : I 75 j = oI (q j) := hC.2 j hjl
    have mk := fun (r : Option Value) (M' : Mem) => @wp_X1_oneRound_2 g Z I L r M' 74 (nI tap) (nI home) (nI j) 75 66 18 21 (k.1.k 74 1 (by decide) (by decide)) (k.1.r 74 2 75 (by decide)) (k.1.k 75 13 (by decide) (by decide)) (k.1.r 74 1 66 (by decide)) (k.1.k 66 3 (by decide) (by decide)) (k.1.r 74 0 18 (by decide)) (k.1.k 18 8 (by decide) (by decide)) (k.1.r 18 4 21 (by decide)) (k.1.k 21 2 (by decide) (by decide))
    have hgo : I 74 3 ≤ nI j → False := fun e => by
      rw [hC.1] at e
      exact absurd e (nI_ge hjl (by omega))
    rw [nI_clamp (show j < 2 ^ 31 by omega)] at mk
    cases hqj : q j with
    | none =>
      obtain ⟨I1, e1, e2, e3, e4, e5⟩ := ih (j + 1) q I c hq hC (by omega)
      rw [show rndF w h S tx home tap (d + 1) j q = rndF w h S tx home tap d (j + 1) q from by
        show rndF w h S tx home tap d (j + 1) (rndS w h S tx home tap j q) = _
        rw [rndS_n hqj]]
      refine ⟨I1, mk _ _ ⟨fun e => (hgo e).elim, fun _ => ⟨v75 k.1 (by omega), fun e => absurd (by rw [e75, hqj]; rfl) e, fun _ y hy => by rw [hy, nI_1]; exact e1⟩⟩, e2, e3, e4, e5⟩
    | some p =>
      have hp := hq j p hjl hqj
      have hp1 := hp.1
      have ep : I 75 j = nI p := by rw [e75, hqj]; rfl
      have ca := sp_at (g := g) (L := L) (k.il 2 (by decide)) (nI j)
      rw [atL_n _ (by omega)] at ca
      obtain ⟨I2, d1, d2, d3⟩ := sp_step (g := g) (L := L) c (hW.tp hjl) hp1 ht
      have hst := stepF_lt (K := S 0) (t := tpF S tx j) (tap := tap) k.2.1 hp1
      have hp2 := step_isP (tap := tap) (t := tpF S tx j) k.2.1 hW hp
      have hp21 := hp2.1
      have f4 : I2 74 = I 74 := d3 74 (by decide) (by decide) (by decide) (by decide)
      have f5 : I2 75 = I 75 := d3 75 (by decide) (by decide) (by decide) (by decide)
      have fr2 : ∀ a, ¬ nowA a → I2 a = I a := fun a ha => d3 a (by unfold nowA at ha; omega) (by unfold nowA at ha; omega) (by unfold nowA at ha; omega) (by unfold nowA at ha; omega)
      obtain ⟨p', ep'⟩ : ∃ p', p' = stepF w h (S 0) (tpF S tx j) p tap % 200 := ⟨_, rfl⟩
      have po := sp_poseOf (g := g) (Z := Z) (I := I2) (L := L) (n := stepF w h (S 0) (tpF S tx j) p tap) (by omega)
      rw [← ep'] at po hp2 hp21
      have q4 : nI p' / 4 = nI (p' / 4) := pk_div (d := 4) (by omega) (by decide) (by decide)
      have r4 : nI p / 4 = nI (p / 4) := pk_div (d := 4) (by omega) (by decide) (by decide)
      have hC2 : CW I2 (S 1).length q := hC.kept f4 f5
      have un := sp_unH (g := g) (Z := Z) (I := I2) (L := L) (p := p') (home := home) (by omega) (by omega)
      have ha := cw_has (g := g) (L := L) d2.1 hq hC2 (c := p' / 4) (by omega) (S 1).length 0 (Nat.zero_add _)
      have hac := @cp_X1_hasPairIn g Z I2 L _ _ 74 (nI (p' / 4)) (k.1.k 74 1 (by decide) (by decide)) ha
      -- the pair stays
      have stay : ¬ (p' / 4 = p / 4 ∨ tkB q (p' / 4) (S 1).length 0 = false) → ∃ I1, Lp_X1_oneRound_2 g 6 74 (nI tap) (nI home) (nI (j + 1)) (Z, I2, L) none (Z, I1, L) ∧ CL Z I1 w h S tx ∧ qok w h S (rndF w h S tx home tap (d + 1) j q) ∧ CW I1 (S 1).length (rndF w h S tx home tap (d + 1) j q) ∧ ∀ a, ¬ nowA a → a ≠ 75 → I1 a = I a := fun hn => by
        obtain ⟨I1, e1, e2, e3, e4, e5⟩ := ih (j + 1) q I2 d2 hq hC2 (by omega)
        rw [show rndF w h S tx home tap (d + 1) j q = rndF w h S tx home tap d (j + 1) q from by
          show rndF w h S tx home tap d (j + 1) (rndS w h S tx home tap j q) = _
          rw [rndS_s hqj, ← ep', if_neg hn]]
        exact ⟨I1, e1, e2, e3, e4, fun a ha h5 => by rw [e5 a ha h5, fr2 a ha]⟩
      have goes : (p' / 4 = p / 4 ∨ tkB q (p' / 4) (S 1).length 0 = false) → ∃ I1, Lp_X1_oneRound_2 g 6 74 (nI tap) (nI home) (nI (j + 1)) (Z, rw1 I2 75 (upd (I2 75) j (oI (unH home p'))), L) none (Z, I1, L) ∧ CL Z I1 w h S tx ∧ qok w h S (rndF w h S tx home tap (d + 1) j q) ∧ CW I1 (S 1).length (rndF w h S tx home tap (d + 1) j q) ∧ ∀ a, ¬ nowA a → a ≠ 75 → I1 a = I a := fun hy => by
        obtain ⟨I1, e1, e2, e3, e4, e5⟩ := ih (j + 1) (rw1 q j (unH home p')) (rw1 I2 75 (upd (I2 75) j (oI (unH home p')))) (d2.o7 (Or.inr rfl) _) (hq.put hp2) (hC2.put j _) (by omega)
        rw [show rndF w h S tx home tap (d + 1) j q = rndF w h S tx home tap d (j + 1) (rw1 q j (unH home p')) from by
          show rndF w h S tx home tap d (j + 1) (rndS w h S tx home tap j q) = _
          rw [rndS_s hqj, ← ep', if_pos hy]]
        exact ⟨I1, e1, e2, e3, e4, fun a ha h5 => by rw [e5 a ha h5, rw1_n _ _ h5, fr2 a ha]⟩
      have ne : ¬ I 75 j = -1 := by rw [ep]; exact nI_ne_m1 (by omega)
      have d1' : Cl g 5 mu_X3_step [rf g 66, .int (nI ((S 2).getD j 0)), .int (I 75 j), .int (nI tap)] (Z, I, L) (some (.int (nI (stepF w h (S 0) (tpF S tx j) p tap)))) (Z, I2, L) := by rw [ep]; exact d1
      by_cases h1 : p' / 4 = p / 4
      · obtain ⟨I1, e1, e2, e3, e4, e5⟩ := goes (Or.inl h1)
        refine ⟨I1, mk _ _ ⟨fun e => (hgo e).elim, fun _ => ⟨v75 k.1 (by omega), fun _ => ⟨_, ca, v75 k.1 (by omega), _, I2, L, d1', _, po, v75 k.1 (by omega), fun _ => ⟨_, un, v75 k.1 (by omega), fun I15 h15 y hy => by rw [hy, nI_1, h15]; exact e1⟩, fun e => absurd ?_ e⟩, fun e => absurd e ne⟩⟩, e2, e3, e4, e5⟩
        rw [f5, ep, q4, r4, h1]
      · have n4 : ¬ nI p' / 4 = I2 75 j / 4 := by rw [f5, ep, q4, r4]; exact fun e => h1 ((nI_eq (by omega) (by omega)).mp e)
        rcases hb : tkB q (p' / 4) (S 1).length 0 with _ | _
        · obtain ⟨I1, e1, e2, e3, e4, e5⟩ := goes (Or.inr hb)
          refine ⟨I1, mk _ _ ⟨fun e => (hgo e).elim, fun _ => ⟨v75 k.1 (by omega), fun _ => ⟨_, ca, v75 k.1 (by omega), _, I2, L, d1', _, po, v75 k.1 (by omega), fun e => absurd e n4, fun _ => ⟨_, by rw [q4]; exact hac, fun e => absurd (by rw [hb]; rfl) e, fun _ => ⟨_, un, v75 k.1 (by omega), fun I15 h15 y hy => by rw [hy, nI_1, h15]; exact e1⟩⟩⟩, fun e => absurd e ne⟩⟩, e2, e3, e4, e5⟩
        · obtain ⟨I1, e1, e2, e3, e4, e5⟩ := stay (fun z => by rcases z with z | z; exact h1 z; rw [hb] at z; cases z)
          exact ⟨I1, mk _ _ ⟨fun e => (hgo e).elim, fun _ => ⟨v75 k.1 (by omega), fun _ => ⟨_, ca, v75 k.1 (by omega), _, I2, L, d1', _, po, v75 k.1 (by omega), fun e => absurd e n4, fun _ => ⟨_, by rw [q4]; exact hac, fun _ y hy => by rw [hy, nI_1]; exact e1, fun e => absurd e (b2i_1 hb)⟩⟩, fun e => absurd e ne⟩⟩, e2, e3, e4, e5⟩
theorem ru_run {home : Nat} (hh : home < w * h) : ∀ (d r : Nat) (q : Nat → Option Nat) (I : Nat → Nat → Int32), CL Z I w h S tx → qok w h S q → CW I (S 1).length q → r + d = 201 →
    ∃ I1, Lp_X1_rounds_18 g 7 74 (nI home) (nI (S 3).length) (nI r) (Z, I, L) (some (.int (crF w h S tx home d r q))) (Z, I1, L) ∧ CL Z I1 w h S tx ∧ ∀ a, ¬ nowA a → a ≠ 75 → I1 a = I a := by
  intro d
  induction d with
  | zero =>
    intro r q I c hq hC hr
    obtain ⟨k, hW, -⟩ := id c
    exact ⟨I, wp_X1_rounds_18 (k.1.k 74 1 (by decide) (by decide)) (k.1.r 74 0 18 (by decide)) (k.1.k 18 8 (by decide) (by decide)) (k.1.r 18 5 23 (by decide)) (k.1.k 23 2 (by decide) (by decide)) ⟨fun _ => ⟨rfl, rfl⟩, fun e => absurd ((nI_ltI (a := 200) (b := r) (by decide) (by omega)).mpr (by omega)) e⟩, c, fun _ _ _ => rfl⟩
  | succ d ih =>
    intro r q I c hq hC hr
    obtain ⟨k, hW, -⟩ := id c
    have hl3 : (S 3).length ≤ 16 := (k.il 3 (by decide)).2.2.2.2.2.1
    have em := @cp_X1_isEmpty g Z I L _ _ 74 (k.1.k 74 1 (by decide) (by decide)) (cw_empty (g := g) (L := L) k hq hC (S 1).length 0 (Nat.zero_add _))
    have ge : ¬ (200 : Int32) < nI r := fun e => absurd ((nI_ltI (a := 200) (b := r) (by decide) (by omega)).mp e) (by omega)
    have mk := fun (R : Option Value) (M' : Mem) => @wp_X1_rounds_18 g Z I L R M' 74 (nI home) (nI (S 3).length) (nI r) 18 23 (k.1.k 74 1 (by decide) (by decide)) (k.1.r 74 0 18 (by decide)) (k.1.k 18 8 (by decide) (by decide)) (k.1.r 18 5 23 (by decide)) (k.1.k 23 2 (by decide) (by decide))
    rcases hb : emB q (S 1).length 0 with _ | _
    · by_cases h3 : (S 3).length = 0
      · obtain ⟨I1, e1, e2, e3⟩ := ih (r + 1) q I c hq hC (by omega)
        rw [show crF w h S tx home (d + 1) r q = crF w h S tx home d (r + 1) q from by
          show (if emB q (S 1).length 0 then nI r else if (S 3).length = 0 then crF w h S tx home d (r + 1) q else _) = _
          rw [hb, if_pos h3]; rfl]
        refine ⟨I1, mk _ _ ⟨fun e => absurd e ge, fun _ => ⟨_, em, fun _ => ⟨fun _ y hy => by rw [hy, nI_1]; exact e1, fun e => absurd (by rw [h3]; decide) e⟩, fun e => absurd (by rw [hb]; rfl) e⟩⟩, e2, e3⟩
      · have ht : (S 3).getD (r % (S 3).length) 0 < 4 := getD_ok hW.2.2.2.2.2.1 (Nat.mod_lt _ (by omega))
        obtain ⟨I1, a1, a2, a3, a4, a5⟩ := or_run (g := g) (L := L) hh ht (S 1).length 0 q I c hq hC (Nat.zero_add _)
        have ac := @cp_X1_oneRound g Z I L _ _ 74 (nI ((S 3).getD (r % (S 3).length) 0)) (nI home) (k.1.k 74 1 (by decide) (by decide)) a1
        obtain ⟨I2, e1, e2, e3⟩ := ih (r + 1) _ I1 a2 a3 a4 (by omega)
        rw [show crF w h S tx home (d + 1) r q = crF w h S tx home d (r + 1) (rndF w h S tx home ((S 3).getD (r % (S 3).length) 0) (S 1).length 0 q) from by
          show (if emB q (S 1).length 0 then nI r else if (S 3).length = 0 then crF w h S tx home d (r + 1) q else crF w h S tx home d (r + 1) (rndF w h S tx home ((S 3).getD (r % (S 3).length) 0) (S 1).length 0 q)) = _
          rw [hb, if_neg h3]; rfl]
        have ca := sp_at (g := g) (L := L) (k.il 3 (by decide)) (nI (r % (S 3).length))
        have hml := Nat.mod_lt r (show (S 3).length > 0 by omega)
        rw [atL_n _ (by omega)] at ca
        refine ⟨I2, mk _ _ ⟨fun e => absurd e ge, fun _ => ⟨_, em, fun _ => ⟨fun e => absurd ((nI_leI (a := (S 3).length) (b := 0) (by omega) (by decide)).mp e) (by omega), fun _ => ⟨fun e => h3 ((nI_eq (b := 0) (by omega) (by decide)).mp e), _, by rw [show nI r - nI r / nI (S 3).length * nI (S 3).length = nI (r % (S 3).length) from pk_rem (by omega) (by omega) (by omega)]; exact ca, I1, L, ac, fun y hy => by rw [hy, nI_1]; exact e1⟩⟩, fun e => absurd (by rw [hb]; rfl) e⟩⟩, e2, fun a h1 h2 => by rw [e3 a h1 h2, a5 a h1 h2]⟩
    · rw [show crF w h S tx home (d + 1) r q = nI r from by
        show (if emB q (S 1).length 0 then nI r else _) = _
        rw [hb]; rfl]
      exact ⟨I, mk _ _ ⟨fun e => absurd e ge, fun _ => ⟨_, em, fun e => absurd e (b2i_1 hb), fun _ => ⟨rfl, rfl⟩⟩⟩, c, fun _ _ _ => rfl⟩
theorem q0_ok (hW : WF w h S tx) (home : Nat) : qok w h S (q0F S home) := fun j p hj hp => by
  unfold q0F unH at hp
  split at hp
  · cases hp
  · cases hp; exact hW.pose hj
theorem op_crowd (c : CL Z I w h S tx) {home : Nat} (hh : home < w * h) : ∃ I1, Cl g 8 mu_X11_crowd [rf g 0, .int (nI home)] (Z, I, L) (some (.int (crF w h S tx home 201 0 (q0F S home)))) (Z, I1, L) ∧ CL Z I1 w h S tx ∧ ∀ a, ¬ nowA a → a ≠ 74 → a ≠ 75 → I1 a = I a := by
  obtain ⟨k, hW, -⟩ := id c
  have hm := k.2.1.mul
  obtain ⟨I1, a1, a2, a3, a4⟩ := cw_begin (g := g) (L := L) c hh
  obtain ⟨I2, e1, e2, e3⟩ := ru_run (g := g) (L := L) hh 201 0 (q0F S home) I1 a2 (q0_ok hW home) a3 (by decide)
  have sz := sp_size (g := g) (L := L) (a2.1.il 3 (by decide))
  have rc := @cp_X1_rounds g Z I L _ _ 74 (nI home) 18 23 (k.1.k 74 1 (by decide) (by decide)) (k.1.r 74 0 18 (by decide)) (k.1.k 18 8 (by decide) (by decide)) (k.1.r 18 5 23 (by decide)) (k.1.k 23 2 (by decide) (by decide)) ⟨I1, L, a1, _, sz, e1⟩
  exact ⟨I2, cp_X11_crowd (k.1.k 0 11 (by decide) (by decide)) (k.1.r 0 0 18 (by decide)) (k.1.k 18 8 (by decide) (by decide)) (k.1.r 0 7 74 (by decide)) (k.1.k 74 1 (by decide) (by decide)) ⟨_, sp_isCell k _, fun e => absurd e (ite_1 (nI_in0 hh (by omega))), fun _ => ⟨_, I2, L, rc, rfl, rfl⟩⟩, e2, fun a h1 h2 h3 => by rw [e3 a h1 h3, a4 a h2 h3]⟩
theorem op_crowdN (c : CL Z I w h S tx) {x : Int32} (hn : ¬ ∃ p, x = nI p ∧ p < w * h) : Cl g 8 mu_X11_crowd [rf g 0, .int x] (Z, I, L) (some (.int (-1))) (Z, I, L) := by
  obtain ⟨k, hW, -⟩ := id c
  have hm := k.2.1.mul
  refine cp_X11_crowd (k.1.k 0 11 (by decide) (by decide)) (k.1.r 0 0 18 (by decide)) (k.1.k 18 8 (by decide) (by decide)) (k.1.r 0 7 74 (by decide)) (k.1.k 74 1 (by decide) (by decide)) ⟨_, sp_isCell k _, fun _ => ⟨rfl, rfl⟩, fun e => ?_⟩
  by_cases h1 : ¬ x < 0 ∧ x < nI (w * h)
  · exact absurd (in0_nI (by omega) h1) hn
  · exact absurd (ite_0 h1) e
end CROWD2
