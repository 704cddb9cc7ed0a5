/-! crowd(), the model's rounds -/
section MCROWD2
variable {g : GE} {Z : Zs} {I : Nat → Nat → Int32} {L : Nat → Nat → Int64} {w h : Nat} {S : Nat → List Nat} {tx : List TX} {q : Nat → Option Nat}
theorem it_run (k : MM Z I w h S tx) (hq : qok w h S q) (hC : PW I (S 1).length q) {u c : Nat} (hu : u < 2 ^ 31) (hc : c < 2 ^ 31) (hn : inC (q u) c = false) : ∀ (d j : Nat), j + d = (S 1).length → Lp_X12_isTaken_2 g 1 76 (nI u) (nI c) (nI j) (Z, I, L) (some (.int (b2i (tkB q c d j)))) (Z, I, L) := by
  obtain ⟨hM, c0, c1, c2, c3, c4, c5, c6⟩ := k.2.2.2.2.1
  have hm := k.2.1.mul
  have hl1 : (S 1).length ≤ 6 := k.len 1 (by decide)
  intro d
  induction d with
  | zero =>
    intro j hj
    refine wp_X12_isTaken_2 (k.1.k 76 12 (by decide) (by decide)) (k.1.r 76 0 77 (by decide)) (k.1.k 77 13 (by decide) (by decide)) (k.1.r 76 41 97 (by decide)) (k.1.k 97 13 (by decide) (by decide)) ⟨vin k (j := 0) (by decide), fun _ => ⟨rfl, rfl⟩, fun e => ?_⟩
    rw [show I 77 (0 : Int32).toNatClampNeg = nI (S 1).length from c0] at e
    exact absurd (nI_le (show (S 1).length ≤ j by omega) (by omega)) e
  | succ d ih =>
    intro j hj
    have hjl : j < (S 1).length := by omega
    have e97 : I 97 (nI j).toNatClampNeg = oI (q j) := by rw [nI_clamp (by omega)]; exact hC j hjl
    have ql := qlt k.2.1 hq hjl
    have nx := ih (j + 1) (by omega)
    refine wp_X12_isTaken_2 (k.1.k 76 12 (by decide) (by decide)) (k.1.r 76 0 77 (by decide)) (k.1.k 77 13 (by decide) (by decide)) (k.1.r 76 41 97 (by decide)) (k.1.k 97 13 (by decide) (by decide)) ⟨vin k (j := 0) (by decide), fun e => ?_, fun _ => ⟨fun e y hy => ?_, fun e => ⟨v97 k.1 (by omega), ?_⟩⟩⟩
    · rw [show I 77 (0 : Int32).toNatClampNeg = nI (S 1).length from c0] at e
      exact absurd e (nI_ge hjl (by omega))
    · have eu : j = u := (nI_eq (by omega) hu).mp e
      rw [hy, nI_1, show tkB q c (d + 1) j = tkB q c d (j + 1) from by
        show (inC (q j) c || tkB q c d (j + 1)) = _
        rw [eu, hn]; rfl]
      exact nx
    · rw [e97, oI_neg ql]
      refine ⟨fun e2 y hy => ?_, fun e2 => ⟨v97 k.1 (by omega), ?_⟩⟩
      · rw [hy, nI_1, show tkB q c (d + 1) j = tkB q c d (j + 1) from by
          show (inC (q j) c || tkB q c d (j + 1)) = _
          rw [e2]; rfl]
        exact nx
      · cases hqj : q j with
        | none => exact absurd hqj e2
        | some p =>
          have hp := (hq j p hjl hqj).1
          have r4 : nI p / 4 = nI (p / 4) := pk_div (d := 4) (by omega) (by decide) (by decide)
          rw [show oI (some p) = nI p from rfl, r4]
          refine ⟨fun e3 y hy => ?_, fun e3 => ⟨?_, rfl⟩⟩
          · rw [hy, nI_1, show tkB q c (d + 1) j = tkB q c d (j + 1) from by
              show (inC (q j) c || tkB q c d (j + 1)) = _
              rw [hqj]
              show (decide (p / 4 = c) || _) = _
              rw [decide_eq_false (fun z => e3 (by rw [z]))]; rfl]
            exact nx
          · rw [show tkB q c (d + 1) j = true from by
              show (inC (q j) c || tkB q c d (j + 1)) = _
              rw [hqj]
              show (decide (p / 4 = c) || _) = _
              rw [decide_eq_true ((nI_eq (by omega) hc).mp e3)]; rfl]; rfl
theorem noH.put {home p j n : Nat} (k : noH n home q) : noH n home (rw1 q j (unH home p)) := fun i r hi hr => by
  by_cases hij : i = j
  · subst hij
    rw [rw1_s] at hr
    unfold unH at hr
    split at hr
    · cases hr
    · cases hr; assumption
  · rw [rw1_n _ _ hij] at hr
    exact k i r hi hr
theorem PW.kept {n : Nat} {I1 : Nat → Nat → Int32} (hC : PW I n q) (h5 : I1 97 = I 97) : PW I1 n q := fun i hi => by rw [h5]; exact hC i hi
/-- the pairs' turns of one round, and what comes behind it -/
theorem m71_run {home r : Nat} (hh : home < w * h) (hr200 : r < 200) (h3 : 0 < (S 3).length) : ∀ (d j : Nat) (q : Nat → Option Nat) (I : Nat → Nat → Int32) (L : Nat → Nat → Int64), MB Z I w h S tx → qok w h S q → noH (S 1).length home q → PW I (S 1).length q → j + d = (S 1).length →
    ∃ I1 L1, MB Z I1 w h S tx ∧ qok w h S (rndF w h S tx home ((S 3).getD (r % (S 3).length) 0) d j q) ∧ noH (S 1).length home (rndF w h S tx home ((S 3).getD (r % (S 3).length) 0) d j q) ∧ PW I1 (S 1).length (rndF w h S tx home ((S 3).getD (r % (S 3).length) 0) d j q) ∧ (∀ a, ¬ modA a → I1 a = I a) ∧ (∀ a, a ≠ 83 → L1 a = L a) ∧ ∀ R M', Lp_X12_crowd_71 g 6 76 (nI home) (nI r) (nI (S 1).length) (Z, I1, L1) R M' → Lp_X12_crowd_71 g 6 76 (nI home) (nI r) (nI j) (Z, I, L) R M' := by
  intro d
  induction d with
  | zero =>
    intro j q I L m hq hN hC hj
    have hj : j = (S 1).length := hj
    subst hj
    exact ⟨I, L, m, hq, hN, hC, fun _ _ => rfl, fun _ _ => rfl, fun _ _ z => z⟩
  | succ d ih =>
    intro j q I L m hq hN hC hj
    obtain ⟨k, hW, hr⟩ := id m
    obtain ⟨hM, c0, c1, c2, c3, c4, c5, c6⟩ := k.2.2.2.2.1
    have hm := k.2.1.mul
    have hl1 : (S 1).length ≤ 6 := k.len 1 (by decide)
    have hl3 : (S 3).length ≤ 16 := k.len 3 (by decide)
    have h12 : (S 1).length = (S 2).length := hW.2.2.1
    have hjl : j < (S 1).length := by omega
    have e97 : I 97 j = oI (q j) := hC j hjl
    have ql := qlt k.2.1 hq hjl
    have hml := Nat.mod_lt r h3
    obtain ⟨tap, etap⟩ : ∃ tap, tap = (S 3).getD (r % (S 3).length) 0 := ⟨_, rfl⟩
    have ht : tap < 4 := by rw [etap]; exact getD_ok hW.2.2.2.2.2.1 hml
    rw [← etap] at ih ⊢
    have mk := fun (R : Option Value) (M' : Mem) => @wp_X12_crowd_71 g Z I L R M' 76 (nI home) (nI r) (nI j) 77 97 (k.1.k 76 12 (by decide) (by decide)) (k.1.r 76 0 77 (by decide)) (k.1.k 77 13 (by decide) (by decide)) (k.1.r 76 41 97 (by decide)) (k.1.k 97 13 (by decide) (by decide))
    rw [nI_clamp (show j < 2 ^ 31 by omega)] at mk
    have hgo : I 77 (0 : Int32).toNatClampNeg ≤ nI j → False := fun e => by
      rw [show I 77 (0 : Int32).toNatClampNeg = nI (S 1).length from c0] at e
      exact absurd e (nI_ge hjl (by omega))
    cases hqj : q j with
    | none =>
      obtain ⟨I1, L1, e1, e2, e3, e4, e5, e6, e7⟩ := ih (j + 1) q I L m hq hN hC (by omega)
      rw [show rndF w h S tx home tap (d + 1) j q = rndF w h S tx home tap d (j + 1) q from by
        show rndF w h S tx home tap d (j + 1) (rndS w h S tx home tap j q) = _
        rw [rndS_n hqj]]
      refine ⟨I1, L1, e1, e2, e3, e4, e5, e6, fun R M' hc => mk _ _ ⟨vin k (j := 0) (by decide), fun e => (hgo e).elim, fun _ => ⟨v97 k.1 (by omega), fun e => ?_, fun _ y hy => by rw [hy, nI_1]; exact e7 R M' hc⟩⟩⟩
      rw [e97, oI_ge ql] at e
      exact absurd hqj e
    | some p =>
      have hp := hq j p hjl hqj
      have hp1 := hp.1
      have ep : I 97 j = nI p := by rw [e97, hqj]; rfl
      obtain ⟨I2, L2, d1, d2, d3, d4⟩ := ms_made (g := g) (L := L) m (hW.tp hjl) hp1 ht
      have hst := stepF_lt (K := S 0) (t := tpF S tx j) (tap := tap) k.2.1 hp1
      have hp2 := step_isP (tap := tap) (t := tpF S tx j) k.2.1 hW hp
      have hp21 := hp2.1
      have f5 : I2 97 = I 97 := d3 97 (by decide) (by decide)
      have fr2 : ∀ a, ¬ modA a → I2 a = I a := fun a ha => d3 a (by unfold modA at ha; omega) (by unfold modA at ha; omega)
      obtain ⟨p', ep'⟩ : ∃ p', p' = stepF w h (S 0) (tpF S tx j) p tap % 200 := ⟨_, rfl⟩
      have po := rem200 (n := stepF w h (S 0) (tpF S tx j) p tap) (by omega)
      rw [← ep'] at po hp2 hp21
      have q4 : nI p' / 4 = nI (p' / 4) := pk_div (d := 4) (by omega) (by decide) (by decide)
      have r4 : nI p / 4 = nI (p / 4) := pk_div (d := 4) (by omega) (by decide) (by decide)
      have hC2 : PW I2 (S 1).length q := hC.kept f5
      have goes : (p' / 4 = p / 4 ∨ tkB q (p' / 4) (S 1).length 0 = false) → ∃ I1 L1, MB Z I1 w h S tx ∧ qok w h S (rndF w h S tx home tap (d + 1) j q) ∧ noH (S 1).length home (rndF w h S tx home tap (d + 1) j q) ∧ PW I1 (S 1).length (rndF w h S tx home tap (d + 1) j q) ∧ (∀ a, ¬ modA a → I1 a = I a) ∧ (∀ a, a ≠ 83 → L1 a = L a) ∧ ∀ R M', Lp_X12_crowd_71 g 6 76 (nI home) (nI r) (nI (S 1).length) (Z, I1, L1) R M' → Lp_X12_crowd_71 g 6 76 (nI home) (nI r) (nI (j + 1)) (Z, rw1 I2 97 (upd (I2 97) j (oI (unH home p'))), L2) R M' := fun hy => by
        obtain ⟨I1, L1, e1, e2, e3, e4, e5, e6, e7⟩ := ih (j + 1) (rw1 q j (unH home p')) (rw1 I2 97 (upd (I2 97) j (oI (unH home p')))) L2 (d2.o97 _) (hq.put hp2) hN.put (hC2.put j _) (by omega)
        rw [show rndF w h S tx home tap (d + 1) j q = rndF w h S tx home tap d (j + 1) (rw1 q j (unH home p')) from by
          show rndF w h S tx home tap d (j + 1) (rndS w h S tx home tap j q) = _
          rw [rndS_s hqj, ← ep', if_pos hy]]
        exact ⟨I1, L1, e1, e2, e3, e4, fun a ha => by rw [e5 a ha, rw1_n _ _ (by unfold modA at ha; omega), fr2 a ha], fun a ha => by rw [e6 a ha, d4 a ha], e7⟩
      have ne : 0 ≤ I 97 j := by rw [ep]; exact Int32.not_lt.mp (nI_pos (by omega))
      have hb := ms_habitOf (g := g) (L := L) k (q := j) (by omega)
      have d1' : Cl g 5 mu_X12_made [rf g 76, .int (nI ((S 2).getD j 0)), .int (I 97 j), .int (nI tap)] (Z, I, L) (some (.int (nI (stepF w h (S 0) (tpF S tx j) p tap)))) (Z, I2, L2) := by rw [ep]; exact d1
      have eix : (50 : Int32) + (nI r - nI r / I 77 (2 : Int32).toNatClampNeg * I 77 (2 : Int32).toNatClampNeg) = nI (50 + r % (S 3).length) := by
        rw [show I 77 (2 : Int32).toNatClampNeg = nI (S 3).length from c2, show nI r - nI r / nI (S 3).length * nI (S 3).length = nI (r % (S 3).length) from pk_rem (by omega) (by omega) (by omega)]
        exact nI_add 50 _
      have n20 : ¬ I 77 (2 : Int32).toNatClampNeg = 0 := by
        rw [show I 77 (2 : Int32).toNatClampNeg = nI (S 3).length from c2]
        exact fun e => absurd ((nI_eq (b := 0) (by omega) (by decide)).mp e) (by omega)
      have eI : I 77 (50 + r % (S 3).length) = nI tap := by
        have := k.atD 3 (by decide) hml
        rw [← etap, show mB 3 + mDl 3 * (r % (S 3).length) = 50 + r % (S 3).length by show 50 + 1 * _ = _; omega] at this
        exact this
      rw [eix] at mk
      rw [nI_clamp (show 50 + r % (S 3).length < 2 ^ 31 by omega), eI] at mk
      -- what is written
      have wr : ∀ {R : Option Value} {M' : Mem}, Lp_X12_crowd_71 g 6 76 (nI home) (nI r) (nI (j + 1)) (Z, rw1 I2 97 (upd (I2 97) j (oI (unH home p'))), L2) R M' → (¬ nI p' / 4 = nI home → (vp_in (nI j) (Z.2.2.1 97) ∧ (∀ I21 : Nat → Nat → Int32, I21 = rw1 I2 97 (upd (I2 97) j (nI p')) → (∀ y22 : Int32, y22 = (nI j + 1) → Lp_X12_crowd_71 g 6 76 (nI home) (nI r) y22 (Z, I21, L2) R M')))) ∧ (nI p' / 4 = nI home → (vp_in (nI j) (Z.2.2.1 97) ∧ (∀ I24 : Nat → Nat → Int32, I24 = rw1 I2 97 (upd (I2 97) j ((-1))) → (∀ y25 : Int32, y25 = (nI j + 1) → Lp_X12_crowd_71 g 6 76 (nI home) (nI r) y25 (Z, I24, L2) R M')))) := fun hc => by
        refine ⟨fun e => ⟨v97 k.1 (by omega), fun I21 h21 y hy => ?_⟩, fun e => ⟨v97 k.1 (by omega), fun I21 h21 y hy => ?_⟩⟩
        · rw [q4] at e
          have e : ¬ p' / 4 = home := fun z => e (by rw [z])
          unfold unH at hc
          rw [if_neg e] at hc
          rw [hy, nI_1, h21]; exact hc
        · rw [q4] at e
          have e : p' / 4 = home := (nI_eq (by omega) (by omega)).mp e
          unfold unH at hc
          rw [if_pos e] at hc
          rw [hy, nI_1, h21]; exact hc
      by_cases h1 : p' / 4 = p / 4
      · obtain ⟨I1, L1, e1, e2, e3, e4, e5, e6, e7⟩ := goes (Or.inl h1)
        refine ⟨I1, L1, e1, e2, e3, e4, e5, e6, fun R M' hc => mk _ _ ⟨vin k (j := 0) (by decide), fun e => (hgo e).elim, fun _ => ⟨v97 k.1 (by omega), fun _ => ⟨_, hb, v97 k.1 (by omega), vin k (j := 2) (by decide), n20, vin k (by omega), _, I2, L2, d1', fun y hy => ?_⟩, fun e => absurd ne e⟩⟩⟩
        rw [po] at hy
        subst hy
        refine ⟨v97 k.1 (by omega), fun _ => wr (e7 R M' hc), fun e => absurd ?_ e⟩
        rw [f5, ep, q4, r4, h1]
      · have n4 : ¬ nI p' / 4 = I2 97 j / 4 := by rw [f5, ep, q4, r4]; exact fun e => h1 ((nI_eq (by omega) (by omega)).mp e)
        have hni : inC (q j) (p' / 4) = false := by
          rw [hqj]
          show decide (p / 4 = p' / 4) = false
          exact decide_eq_false (fun z => h1 z.symm)
        have ta := it_run (g := g) (L := L2) d2.1 hq hC2 (u := j) (c := p' / 4) (by omega) (by omega) hni (S 1).length 0 (Nat.zero_add _)
        have tc := @cp_X12_isTaken g Z I2 L2 _ _ 76 (nI j) (nI (p' / 4)) (k.1.k 76 12 (by decide) (by decide)) ta
        rcases hb2 : tkB q (p' / 4) (S 1).length 0 with _ | _
        · obtain ⟨I1, L1, e1, e2, e3, e4, e5, e6, e7⟩ := goes (Or.inr hb2)
          refine ⟨I1, L1, e1, e2, e3, e4, e5, e6, fun R M' hc => mk _ _ ⟨vin k (j := 0) (by decide), fun e => (hgo e).elim, fun _ => ⟨v97 k.1 (by omega), fun _ => ⟨_, hb, v97 k.1 (by omega), vin k (j := 2) (by decide), n20, vin k (by omega), _, I2, L2, d1', fun y hy => ?_⟩, fun e => absurd ne e⟩⟩⟩
          rw [po] at hy
          subst hy
          exact ⟨v97 k.1 (by omega), fun e => absurd e n4, fun _ => ⟨_, by rw [q4]; exact tc, fun e => absurd (by rw [hb2]; rfl) e, fun _ => wr (e7 R M' hc)⟩⟩
        · obtain ⟨I1, L1, e1, e2, e3, e4, e5, e6, e7⟩ := ih (j + 1) q I2 L2 d2 hq hN hC2 (by omega)
          rw [show rndF w h S tx home tap (d + 1) j q = rndF w h S tx home tap d (j + 1) q from by
            show rndF w h S tx home tap d (j + 1) (rndS w h S tx home tap j q) = _
            rw [rndS_s hqj, ← ep', if_neg (fun z => by rcases z with z | z; exact h1 z; rw [hb2] at z; cases z)]]
          refine ⟨I1, L1, e1, e2, e3, e4, fun a ha => by rw [e5 a ha, fr2 a ha], fun a ha => by rw [e6 a ha, d4 a ha], fun R M' hc => mk _ _ ⟨vin k (j := 0) (by decide), fun e => (hgo e).elim, fun _ => ⟨v97 k.1 (by omega), fun _ => ⟨_, hb, v97 k.1 (by omega), vin k (j := 2) (by decide), n20, vin k (by omega), _, I2, L2, d1', fun y hy => ?_⟩, fun e => absurd ne e⟩⟩⟩
          rw [po] at hy
          subst hy
          exact ⟨v97 k.1 (by omega), fun e => absurd e n4, fun _ => ⟨_, by rw [q4]; exact tc, fun _ y2 hy2 => by rw [hy2, nI_1]; exact e7 R M' hc, fun e => absurd e (b2i_1 hb2)⟩⟩
end MCROWD2
