/-! wed(): the model's answer -/
section MWED3
variable {g : GE} {Z : Zs} {I : Nat → Nat → Int32} {L : Nat → Nat → Int64} {w h : Nat} {S : Nat → List Nat} {tx : List TX}
theorem w43 {x2 x3 : Int32} : ∀ (d j : Nat) (I : Nat → Nat → Int32), j + d = 12 → MB Z I w h S tx → (∀ q, q < j → I 95 q = -1) → ∃ I1, (∀ r M', Lp_X12_wed_67 g 5 76 x2 x3 0 (Z, I1, L) r M' → Lp_X12_wed_43 g 5 76 x2 x3 (nI j) (Z, I, L) r M') ∧ MB Z I1 w h S tx ∧ (∀ q, q < 12 → I1 95 q = -1) ∧ ∀ a, a ≠ 95 → I1 a = I a := by
  intro d
  induction d with
  | zero =>
    intro j I hj m hq
    have hj : j = 12 := hj
    subst hj
    obtain ⟨k, hW, hrg⟩ := id m
    exact ⟨I, fun r M' hc => wp_X12_wed_43 (k.1.k 76 12 (by decide) (by decide)) (k.1.r 76 39 95 (by decide)) (k.1.k 95 13 (by decide) (by decide)) ⟨fun _ => hc, fun e => absurd (nI_le (Nat.le_refl 12) (by decide)) e⟩, m, hq, fun _ _ => rfl⟩
  | succ d ih =>
    intro j I hj m hq
    obtain ⟨k, hW, hrg⟩ := id m
    obtain ⟨I1, e1, e2, e3, e4⟩ := ih (j + 1) (rw1 I 95 (upd (I 95) j (-1))) (by omega) (m.ow (by decide) _) (fun q hq' => by
      rw [rw1_s]
      unfold upd
      by_cases he : q = j
      · rw [if_pos he]
      · rw [if_neg he]; exact hq q (by omega))
    refine ⟨I1, fun r M' hc => wp_X12_wed_43 (k.1.k 76 12 (by decide) (by decide)) (k.1.r 76 39 95 (by decide)) (k.1.k 95 13 (by decide) (by decide)) ⟨fun e => absurd ((nI_leI (a := 12) (by decide) (by omega)).mp e) (by omega), fun _ => ⟨v95 k.1 (by omega), fun I2 h2 y hy => ?_⟩⟩, e2, e3, fun a ha => by rw [e4 a ha, rw1_n _ _ ha]⟩
    rw [nI_clamp (by omega)] at h2
    rw [hy, nI_1, h2]
    exact e1 r M' hc
theorem w67 {side : Nat} {x3 : Int32} (hs : side < 2) : ∀ (d j : Nat) (I : Nat → Nat → Int32), j + d = 72 → MB Z I w h S tx → (∀ q, q < j → I 96 q = 0) → ∃ I1, (∀ r M', Lp_X12_wed_108 g 5 76 (nI side) x3 (nI (nAsk S side)) 0 (Z, I1, L) r M' → Lp_X12_wed_67 g 5 76 (nI side) x3 (nI j) (Z, I, L) r M') ∧ MB Z I1 w h S tx ∧ (∀ q, q < 72 → I1 96 q = 0) ∧ ∀ a, a ≠ 96 → I1 a = I a := by
  intro d
  induction d with
  | zero =>
    intro j I hj m hq
    have hj : j = 72 := hj
    subst hj
    obtain ⟨k, hW, hrg⟩ := id m
    obtain ⟨hMR, c0, c1, c2, c3, c4, c5, c6⟩ := k.2.2.2.2.1
    refine ⟨I, fun r M' hc => wp_X12_wed_67 (k.1.k 76 12 (by decide) (by decide)) (k.1.r 76 0 77 (by decide)) (k.1.k 77 13 (by decide) (by decide)) (k.1.r 76 40 96 (by decide)) (k.1.k 96 13 (by decide) (by decide)) ⟨fun _ => ⟨fun e => ⟨vin k (j := 6) (by decide), fun y hy => ?_⟩, fun e => ⟨vin k (j := 5) (by decide), fun y hy => ?_⟩⟩, fun e => absurd (nI_le (Nat.le_refl 72) (by decide)) e⟩, m, hq, fun _ _ => rfl⟩
    · rw [hy, show I 77 (6 : Int32).toNatClampNeg = nI (S 10).length from c6]
      have : nAsk S side = (S 10).length := by unfold nAsk; rw [if_neg (fun z => e (by rw [z]; rfl))]
      rw [← this]; exact hc
    · rw [hy, show I 77 (5 : Int32).toNatClampNeg = nI (S 9).length from c5]
      have : nAsk S side = (S 9).length := by unfold nAsk; rw [if_pos ((nI_eq (b := 0) (by omega) (by decide)).mp e)]
      rw [← this]; exact hc
  | succ d ih =>
    intro j I hj m hq
    obtain ⟨k, hW, hrg⟩ := id m
    obtain ⟨I1, e1, e2, e3, e4⟩ := ih (j + 1) (rw1 I 96 (upd (I 96) j 0)) (by omega) (m.ow (by decide) _) (fun q hq' => by
      rw [rw1_s]
      unfold upd
      by_cases he : q = j
      · rw [if_pos he]
      · rw [if_neg he]; exact hq q (by omega))
    refine ⟨I1, fun r M' hc => wp_X12_wed_67 (k.1.k 76 12 (by decide) (by decide)) (k.1.r 76 0 77 (by decide)) (k.1.k 77 13 (by decide) (by decide)) (k.1.r 76 40 96 (by decide)) (k.1.k 96 13 (by decide) (by decide)) ⟨fun e => absurd ((nI_leI (a := 72) (by decide) (by omega)).mp e) (by omega), fun _ => ⟨v96 k.1 (by omega), fun I2 h2 y hy => ?_⟩⟩, e2, e3, fun a ha => by rw [e4 a ha, rw1_n _ _ ha]⟩
    rw [nI_clamp (by omega)] at h2
    rw [hy, nI_1, h2]
    exact e1 r M' hc
theorem mo_wed (m : MB Z I w h S tx) {hb side rider : Nat} {t : TX} (htx : tx[hb]? = some t) (hs : side < 2) (hr : rider < (S 9).length) : ∃ I1 L1, Cl g 5 mu_X12_wed [rf g 76, .int (nI hb), .int (nI side), .int (nI rider)] (Z, I, L) (some (.int (oI (wedF t S side rider)))) (Z, I1, L1) ∧ MB Z I1 w h S tx ∧ ∀ a, ¬ modA a → I1 a = I a := by
  obtain ⟨k, hW, hrg⟩ := id m
  obtain ⟨hMR, c0, c1, c2, c3, c4, c5, c6⟩ := k.2.2.2.2.1
  have e5 : I 77 (5 : Int32).toNatClampNeg = nI (S 9).length := c5
  have hx4 := k.2.2.2.2.2.1
  have hbl := (List.getElem?_eq_some_iff.mp htx).1
  have h9 : (S 9).length ≤ 6 := k.len 9 (by decide)
  obtain ⟨J1, L1, a1, a2, a3, a4⟩ := ms_findLikings (g := g) (L := L) m htx
  obtain ⟨J2, b1, b2, b3, b4⟩ := w43 (g := g) (L := L1) (x2 := nI side) (x3 := nI rider) 12 0 J1 (Nat.zero_add _) a2 (fun q hq => absurd hq (by omega))
  obtain ⟨J3, d1, d2, d3, d4⟩ := w67 (g := g) (L := L1) (x3 := nI rider) hs 72 0 J2 (Nat.zero_add _) b2 (fun q hq => absurd hq (by omega))
  obtain ⟨J4, e1, e2, e3⟩ := wd_run (g := g) (t := t) hs (rider := rider) (by omega) 36 (nAsk S side) 0 s0W J3 s0W_cnt (Nat.zero_add _) d2 a3 ⟨fun q hq => by rw [d3 q (by omega)]; rfl, fun q hq => by rw [d4 95 (by decide), b3 q (by omega)]; rfl, fun q hq => by rw [d4 95 (by decide), b3 _ (by omega)]; rfl⟩ (s0W_ok _ _) (fun j hj => absurd hj (by omega))
  refine ⟨J4, L1, cp_X12_wed (k.1.k 76 12 (by decide) (by decide)) (k.1.r 76 0 77 (by decide)) (k.1.k 77 13 (by decide) (by decide)) ⟨_, ms_isText k _, fun e => absurd e (ite_1 (nI_in0 hbl (by omega))), fun _ => ⟨_, sp_isIn _ _ _, fun e => absurd e (ite_1 ⟨nI_pos (by omega), fun z => absurd ((nI_ltI (a := 1) (by decide) (by omega)).mp z) (by omega)⟩), fun _ => ⟨vin k (j := 5) (by decide), ?_⟩⟩⟩, e2, fun a ha => by
    unfold modA at ha
    rw [e3 a (by omega) (by omega), d4 a (by omega), b4 a (by omega), a4 a (by omega) (by omega)]⟩
  rw [e5]
  exact ⟨_, sp_in0 _ (by omega), fun _ => ⟨J1, L1, a1, b1 _ _ (d1 _ _ e1)⟩, fun e => absurd e (ite_1 (nI_in0 hr (by omega)))⟩
theorem mo_wedN (m : MB Z I w h S tx) {x1 x2 x3 : Int32} (hn : ¬ vWed S tx x1 x2 x3) : Cl g 5 mu_X12_wed [rf g 76, .int x1, .int x2, .int x3] (Z, I, L) (some (.int (-1))) (Z, I, L) := by
  obtain ⟨k, hW, hrg⟩ := id m
  obtain ⟨hMR, c0, c1, c2, c3, c4, c5, c6⟩ := k.2.2.2.2.1
  have e5 : I 77 (5 : Int32).toNatClampNeg = nI (S 9).length := c5
  have hx4 := k.2.2.2.2.2.1
  have h9 : (S 9).length ≤ 6 := k.len 9 (by decide)
  refine cp_X12_wed (k.1.k 76 12 (by decide) (by decide)) (k.1.r 76 0 77 (by decide)) (k.1.k 77 13 (by decide) (by decide)) ⟨_, ms_isText k _, fun _ => ⟨rfl, rfl⟩, fun n1 => ⟨_, sp_isIn _ _ _, fun _ => ⟨rfl, rfl⟩, fun n2 => ⟨vin k (j := 5) (by decide), ?_⟩⟩⟩
  rw [e5]
  refine ⟨_, sp_in0 _ (by omega), fun n3 => absurd ?_ hn, fun _ => ⟨rfl, rfl⟩⟩
  exact ⟨in0_nI (by omega) (Classical.byContradiction (fun z => n1 (ite_0 z))), Classical.byContradiction (fun z => n2 (ite_0 z)), in0_nI (by omega) (Classical.byContradiction (fun z => n3 (ite_0 z)))⟩
end MWED3
