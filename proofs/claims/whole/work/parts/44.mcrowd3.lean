/-! crowd(), the model's whole -/
section MCROWD3
variable {g : GE} {Z : Zs} {I : Nat → Nat → Int32} {L : Nat → Nat → Int64} {w h : Nat} {S : Nat → List Nat} {tx : List TX} {q : Nat → Option Nat}
theorem hmO_id {home : Nat} {o : Option Nat} (hn : ∀ p, o = some p → p / 4 ≠ home) : hmO home o = o := by
  cases o with
  | none => rfl
  | some p =>
    show unH home p = some p
    unfold unH; rw [if_neg (hn p rfl)]
theorem crF_none {home : Nat} (h3 : (S 3).length = 0) (hb : emB q (S 1).length 0 = false) : ∀ (d r : Nat), crF w h S tx home d r q = -1 := by
  intro d
  induction d with
  | zero => intro r; rfl
  | succ d ih =>
    intro r
    show (if emB q (S 1).length 0 then nI r else if (S 3).length = 0 then crF w h S tx home d (r + 1) q else _) = _
    rw [hb, if_pos h3]
    exact ih (r + 1)
theorem m62_run {home : Nat} (hh : home < w * h) (h3 : 0 < (S 3).length) : ∀ (d r : Nat) (q : Nat → Option Nat) (I : Nat → Nat → Int32) (L : Nat → Nat → Int64), MB Z I w h S tx → qok w h S q → noH (S 1).length home q → PW I (S 1).length q → r + d = 200 →
    ∃ I1 L1, Lp_X12_crowd_62 g 6 76 (nI home) (nI r) (Z, I, L) (some (.int (crF w h S tx home d (r + 1) (rndF w h S tx home ((S 3).getD (r % (S 3).length) 0) (S 1).length 0 q)))) (Z, I1, L1) ∧ MB Z I1 w h S tx ∧ (∀ a, ¬ modA a → I1 a = I a) ∧ ∀ a, a ≠ 83 → L1 a = L a := by
  intro d
  induction d with
  | zero =>
    intro r q I L m hq hN hC hr
    exact ⟨I, L, wp_X12_crowd_62 (m.1.1.k 76 12 (by decide) (by decide)) ⟨fun _ => ⟨rfl, rfl⟩, fun e => absurd ((nI_leI (a := 200) (b := r) (by decide) (by omega)).mpr (by omega)) e⟩, m, fun _ _ => rfl, fun _ _ => rfl⟩
  | succ d ih =>
    intro r q I L m hq hN hC hr
    obtain ⟨k, hW, hrg⟩ := id m
    have hl1 : (S 1).length ≤ 6 := k.len 1 (by decide)
    have K := k.1.k 76 12 (by decide) (by decide)
    have ge : ¬ (200 : Int32) ≤ nI r := fun e => absurd ((nI_leI (a := 200) (b := r) (by decide) (by omega)).mp e) (by omega)
    obtain ⟨I1, L1, a1, a2, a3, a4, a5, a6, a7⟩ := m71_run (g := g) (r := r) hh (by omega) h3 (S 1).length 0 q I L m hq hN hC (Nat.zero_add _)
    obtain ⟨q', eq'⟩ : ∃ q', q' = rndF w h S tx home ((S 3).getD (r % (S 3).length) 0) (S 1).length 0 q := ⟨_, rfl⟩
    rw [← eq'] at a2 a3 a4 ⊢
    obtain ⟨I2, q1, b1, b2, b3, b4, b5⟩ := ah_run (g := g) (L := L1) hh (S 1).length 0 true q' I1 a1 a2 a4 (Nat.zero_add _)
    have e1 : q1 = q' := by
      funext i
      rw [b4 i]
      by_cases hi : 0 ≤ i ∧ i < (S 1).length
      · rw [if_pos hi]
        exact hmO_id (fun p hp => a3 i p hi.2 hp)
      · rw [if_neg hi]
    subst e1
    have bc := @cp_X12_areHome g Z I1 L1 _ _ 76 (nI home) K b1
    obtain ⟨hM, c0, c1, c2, c3, c4, c5, c6⟩ := a1.1.2.2.2.2.1
    rcases hb : emB q1 (S 1).length 0 with _ | _
    · obtain ⟨I3, L3, d1, d2, d3, d4⟩ := ih (r + 1) q1 I2 L1 b2 a2 a3 b3 (by omega)
      rw [show crF w h S tx home (d + 1) (r + 1) q1 = crF w h S tx home d (r + 1 + 1) (rndF w h S tx home ((S 3).getD ((r + 1) % (S 3).length) 0) (S 1).length 0 q1) from by
        show (if emB q1 (S 1).length 0 then nI (r + 1) else if (S 3).length = 0 then crF w h S tx home d (r + 1 + 1) q1 else crF w h S tx home d (r + 1 + 1) (rndF w h S tx home ((S 3).getD ((r + 1) % (S 3).length) 0) (S 1).length 0 q1)) = _
        rw [hb, if_neg (show ¬ (S 3).length = 0 by omega)]; rfl]
      refine ⟨I3, L3, wp_X12_crowd_62 K ⟨fun e => absurd e ge, fun _ => a7 _ _ (wp_X12_crowd_71 K (k.1.r 76 0 77 (by decide)) (k.1.k 77 13 (by decide) (by decide)) (k.1.r 76 41 97 (by decide)) (k.1.k 97 13 (by decide) (by decide)) ⟨vin k (j := 0) (by decide), fun _ => ⟨_, I2, L1, bc, fun _ y hy => by rw [hy, nI_1]; exact d1, fun e => absurd (by rw [hb]; rfl) e⟩, fun e => ?_⟩)⟩, d2, fun a ha => by rw [d3 a ha, b5 a (by unfold modA at ha; omega), a5 a ha], fun a ha => by rw [d4 a ha, a6 a ha]⟩
      rw [show I1 77 (0 : Int32).toNatClampNeg = nI (S 1).length from c0] at e
      exact absurd (nI_le (Nat.le_refl _) (by omega)) e
    · rw [show crF w h S tx home (d + 1) (r + 1) q1 = nI (r + 1) from by
        show (if emB q1 (S 1).length 0 then nI (r + 1) else _) = _
        rw [hb]; rfl]
      refine ⟨I2, L1, wp_X12_crowd_62 K ⟨fun e => absurd e ge, fun _ => a7 _ _ (wp_X12_crowd_71 K (k.1.r 76 0 77 (by decide)) (k.1.k 77 13 (by decide) (by decide)) (k.1.r 76 41 97 (by decide)) (k.1.k 97 13 (by decide) (by decide)) ⟨vin k (j := 0) (by decide), fun _ => ⟨_, I2, L1, bc, fun e => absurd e (b2i_1 (by rw [hb]; rfl)), fun _ => ⟨by rw [nI_1], rfl⟩⟩, fun e => ?_⟩)⟩, b2, fun a ha => by rw [b5 a (by unfold modA at ha; omega), a5 a ha], a6⟩
      rw [show I1 77 (0 : Int32).toNatClampNeg = nI (S 1).length from c0] at e
      exact absurd (nI_le (Nat.le_refl _) (by omega)) e
/-- the poses are written down -/
theorem m12_run {home : Nat} (hh : home < w * h) : ∀ (d j : Nat) (I : Nat → Nat → Int32), MB Z I w h S tx → (∀ i, i < j → I 97 i = nI ((S 1).getD i 0)) → j + d = (S 1).length →
    ∃ I1, MB Z I1 w h S tx ∧ (∀ i, i < (S 1).length → I1 97 i = nI ((S 1).getD i 0)) ∧ (∀ a, a ≠ 97 → I1 a = I a) ∧ ∀ R M', Lp_X12_crowd_12 g 6 76 (nI home) (nI (S 1).length) (Z, I1, L) R M' → Lp_X12_crowd_12 g 6 76 (nI home) (nI j) (Z, I, L) R M' := by
  intro d
  induction d with
  | zero =>
    intro j I m hP hj
    have hj : j = (S 1).length := hj
    subst hj
    exact ⟨I, m, hP, fun _ _ => rfl, fun _ _ z => z⟩
  | succ d ih =>
    intro j I m hP hj
    obtain ⟨k, hW, hr⟩ := id m
    obtain ⟨hM, c0, c1, c2, c3, c4, c5, c6⟩ := k.2.2.2.2.1
    have hl1 : (S 1).length ≤ 6 := k.len 1 (by decide)
    have hjl : j < (S 1).length := by omega
    obtain ⟨J, hJ⟩ : ∃ J, J = rw1 I 97 (upd (I 97) j (nI ((S 1).getD j 0))) := ⟨_, rfl⟩
    obtain ⟨I1, e1, e2, e3, e4⟩ := ih (j + 1) J (by rw [hJ]; exact m.o97 _) (fun i hi => by
      rw [hJ, rw1_s]
      show (if i = j then nI ((S 1).getD j 0) else I 97 i) = _
      by_cases hij : i = j
      · rw [if_pos hij, hij]
      · rw [if_neg hij]; exact hP i (by omega)) (by omega)
    refine ⟨I1, e1, e2, fun a ha => by rw [e3 a ha, hJ]; exact rw1_n _ _ ha, fun R M' hc => wp_X12_crowd_12 (k.1.k 76 12 (by decide) (by decide)) (k.1.r 76 0 77 (by decide)) (k.1.k 77 13 (by decide) (by decide)) (k.1.r 76 41 97 (by decide)) (k.1.k 97 13 (by decide) (by decide)) ⟨vin k (j := 0) (by decide), fun e => ?_, fun _ => ⟨_, ms_poseOf k hjl, v97 k.1 (by omega), fun I10 h10 y hy => ?_⟩⟩⟩
    · rw [show I 77 (0 : Int32).toNatClampNeg = nI (S 1).length from c0] at e
      exact absurd e (nI_ge hjl (by omega))
    · rw [nI_clamp (by omega)] at h10
      rw [hy, nI_1, h10, ← hJ]
      exact e4 R M' hc
theorem mo_crowd (m : MB Z I w h S tx) {home : Nat} (hh : home < w * h) : ∃ I1 L1, Cl g 6 mu_X12_crowd [rf g 76, .int (nI home)] (Z, I, L) (some (.int (crF w h S tx home 201 0 (q0F S home)))) (Z, I1, L1) ∧ MB Z I1 w h S tx ∧ (∀ a, ¬ modA a → I1 a = I a) ∧ ∀ a, a ≠ 83 → L1 a = L a := by
  obtain ⟨k, hW, hr⟩ := id m
  have hm := k.2.1.mul
  have hl1 : (S 1).length ≤ 6 := k.len 1 (by decide)
  have hl3 : (S 3).length ≤ 16 := k.len 3 (by decide)
  have K := k.1.k 76 12 (by decide) (by decide)
  obtain ⟨I1, a1, a2, a3, a4⟩ := m12_run (g := g) (L := L) hh (S 1).length 0 I m (fun i hi => absurd hi (by omega)) (Nat.zero_add _)
  obtain ⟨qq, eqq⟩ : ∃ qq : Nat → Option Nat, qq = fun i => if i < (S 1).length then some ((S 1).getD i 0) else q0F S home i := ⟨_, rfl⟩
  have hqq : qok w h S qq := fun i p hi hp => by
    rw [eqq] at hp
    have hp : (if i < (S 1).length then some ((S 1).getD i 0) else q0F S home i) = some p := hp
    rw [if_pos hi] at hp
    cases hp
    exact hW.pose hi
  have hPW : PW I1 (S 1).length qq := fun i hi => by
    rw [a2 i hi, eqq]
    show _ = oI (if i < (S 1).length then some ((S 1).getD i 0) else q0F S home i)
    rw [if_pos hi]; rfl
  obtain ⟨I2, q1, b1, b2, b3, b4, b5⟩ := ah_run (g := g) (L := L) hh (S 1).length 0 true qq I1 a1 hqq hPW (Nat.zero_add _)
  have e1 : q1 = q0F S home := by
    funext i
    rw [b4 i, eqq]
    by_cases hi : 0 ≤ i ∧ i < (S 1).length
    · rw [if_pos hi]
      show hmO home (if i < (S 1).length then some ((S 1).getD i 0) else q0F S home i) = _
      rw [if_pos hi.2]; rfl
    · rw [if_neg hi]
      show (if i < (S 1).length then some ((S 1).getD i 0) else q0F S home i) = _
      rw [if_neg (by omega)]
  subst e1
  have bc := @cp_X12_areHome g Z I1 L _ _ 76 (nI home) K b1
  obtain ⟨hM, c0, c1, c2, c3, c4, c5, c6⟩ := a1.1.2.2.2.2.1
  have g2 : I2 77 (2 : Int32).toNatClampNeg = nI (S 3).length := by rw [b5 77 (by decide)]; exact c2
  have hN : noH (S 1).length home (q0F S home) := fun i p hi hp => by
    unfold q0F unH at hp
    split at hp
    · cases hp
    · cases hp; assumption
  have fin : ∀ {R : Option Value} {M' : Mem}, (∃ (v2 : Int32) (I3 : Nat → Nat → Int32) (L4 : Nat → Nat → Int64), Cl g 1 mu_X12_areHome [rf g 76, .int (nI home)] (Z, I1, L) (some (.int v2)) (Z, I3, L4) ∧ ((v2 = 0 → (vp_in 2 (Z.2.2.1 77) ∧ ((¬ (I3 77 (2 : Int32).toNatClampNeg) = 0 → Lp_X12_crowd_62 g 6 76 (nI home) 0 (Z, I3, L4) R M') ∧ ((I3 77 (2 : Int32).toNatClampNeg) = 0 → (R = some (.int ((-1))) ∧ M' = (Z, I3, L4)))))) ∧ (¬ v2 = 0 → (R = some (.int 0) ∧ M' = (Z, I3, L4))))) → Cl g 6 mu_X12_crowd [rf g 76, .int (nI home)] (Z, I, L) R M' := fun hc => by
    refine cp_X12_crowd K ⟨_, ms_isCell k _, fun _ => a4 _ _ (wp_X12_crowd_12 K (k.1.r 76 0 77 (by decide)) (k.1.k 77 13 (by decide) (by decide)) (k.1.r 76 41 97 (by decide)) (k.1.k 97 13 (by decide) (by decide)) ⟨vin k (j := 0) (by decide), fun _ => hc, fun e => ?_⟩), fun e => absurd e (ite_1 (nI_in0 hh (by omega)))⟩
    rw [show I1 77 (0 : Int32).toNatClampNeg = nI (S 1).length from c0] at e
    exact absurd (nI_le (Nat.le_refl _) (by omega)) e
  have fr : ∀ a, ¬ modA a → I2 a = I a := fun a ha => by rw [b5 a (by unfold modA at ha; omega), a3 a (by unfold modA at ha; omega)]
  rcases hb : emB (q0F S home) (S 1).length 0 with _ | _
  · by_cases h3 : (S 3).length = 0
    · rw [crF_none h3 hb]
      exact ⟨I2, L, fin ⟨_, I2, L, bc, fun _ => ⟨vin k (j := 2) (by decide), fun e => absurd (by rw [g2, h3]; rfl) e, fun _ => ⟨rfl, rfl⟩⟩, fun e => absurd (by rw [hb]; rfl) e⟩, b2, fr, fun _ _ => rfl⟩
    · obtain ⟨I3, L3, d1, d2, d3, d4⟩ := m62_run (g := g) hh (by omega) 200 0 (q0F S home) I2 L b2 (q0_ok hW home) hN b3 rfl
      rw [show crF w h S tx home 201 0 (q0F S home) = crF w h S tx home 200 (0 + 1) (rndF w h S tx home ((S 3).getD (0 % (S 3).length) 0) (S 1).length 0 (q0F S home)) from by
        show (if emB (q0F S home) (S 1).length 0 then nI 0 else if (S 3).length = 0 then crF w h S tx home 200 (0 + 1) (q0F S home) else crF w h S tx home 200 (0 + 1) (rndF w h S tx home ((S 3).getD (0 % (S 3).length) 0) (S 1).length 0 (q0F S home))) = _
        rw [hb, if_neg h3]; rfl]
      refine ⟨I3, L3, fin ⟨_, I2, L, bc, fun _ => ⟨vin k (j := 2) (by decide), fun _ => d1, fun e => ?_⟩, fun e => absurd (by rw [hb]; rfl) e⟩, d2, fun a ha => by rw [d3 a ha, fr a ha], d4⟩
      rw [g2] at e
      exact absurd ((nI_eq (b := 0) (by omega) (by decide)).mp e) h3
  · rw [show crF w h S tx home 201 0 (q0F S home) = 0 from by
      show (if emB (q0F S home) (S 1).length 0 then nI 0 else _) = _
      rw [hb]; rfl]
    exact ⟨I2, L, fin ⟨_, I2, L, bc, fun e => absurd e (b2i_1 (by rw [hb]; rfl)), fun _ => ⟨rfl, rfl⟩⟩, b2, fr, fun _ _ => rfl⟩
theorem mo_crowdN (m : MB Z I w h S tx) {x : Int32} (hn : ¬ ∃ p, x = nI p ∧ p < w * h) : Cl g 6 mu_X12_crowd [rf g 76, .int x] (Z, I, L) (some (.int (-1))) (Z, I, L) := by
  obtain ⟨k, hW, hr⟩ := id m
  have hm := k.2.1.mul
  refine cp_X12_crowd (k.1.k 76 12 (by decide) (by decide)) ⟨_, ms_isCell k _, fun e => ?_, fun _ => ⟨rfl, rfl⟩⟩
  by_cases h1 : ¬ x < 0 ∧ x < nI (w * h)
  · exact absurd (in0_nI (by omega) h1) hn
  · exact absurd (ite_0 h1) e
end MCROWD3
