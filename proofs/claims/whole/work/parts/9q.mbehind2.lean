/-! the model's reader: behindOne() -/
section MBHE
variable {g : GE} {Z : Zs} {I : Nat → Nat → Int32} {L : Nat → Nat → Int64} {tp : List Nat} {ts : List (Nat × Nat × Nat)} {k i : Nat} {P : List Nat} {cs : List (Nat × Nat)}
/-- the closing of an opener: settle, one less, SELECT behind an if, whole, next -/
theorem ac_close (hS : Sh Z) (h8 : T8 tp) (hT : TSz ts) (m : MAz I L k tp ts (P, cs, true, i)) {mk : Nat} (hm : mkF P = some mk) (hk : ¬ kT ts i = 37) (se : Bool) : ∃ J1 J2 J3 J4 J5 I1 L1, Cl g 2 mu_X12_settle [rf g 76, .int 1] (Z, I, L) none (Z, J1, L) ∧ J2 = rw1 J1 76 (upd (J1 76) 19 (J1 76 19 - 1)) ∧ J3 = rw1 J2 76 (upd (J2 76) 20 (J2 76 20 - 1)) ∧ (se = false → J4 = J3) ∧ (se = true → Cl g 1 mu_X12_emit [rf g 76, .int 23, .int 0] (Z, J3, L) none (Z, J4, L)) ∧ Cl g 3 mu_X12_whole [rf g 76] (Z, J4, L) none (Z, J5, L) ∧ Cl g 3 mu_X12_nextToken [rf g 76] (Z, J5, L) none (Z, I1, L1) ∧ MAz I1 L1 k tp ts (whlF (stl 7 (stl 1 P cs).1.tail (if se then (stl 1 P cs).2 ++ [(23, 0)] else (stl 1 P cs).2)) (i + 1)) ∧ GFz k I I1 := by
  obtain ⟨m1, m2, m3, m4, ⟨b1, b2, b3⟩, m6⟩ := m
  have m1 : MT I tp := m1
  have m2 : MTk I L tp ts i := m2
  have m3 : PMs I k P cs := m3
  have b1 : cs.length + P.length ≤ i := b1
  have b2 : 2 * P.length + 1 ≤ i + opsF P := b2
  have b3 : opsF P ≤ 8 := b3
  have m6 : i < ts.length := m6
  have hl := hT.2.1
  obtain ⟨J1, a1, a2, a3⟩ := mp_settle (g := g) (L := L) (l := 1) hS (by decide) (by decide) m3 (by omega)
  obtain ⟨s1, s2, s3⟩ := stl_b 1 P cs
  obtain ⟨P', e1, -, h40⟩ := stl1_mk P cs hm
  obtain ⟨c', hc'⟩ : ∃ c', c' = (stl 1 P cs).2 := ⟨_, rfl⟩
  rw [e1, ← hc'] at a2 s1
  rw [e1] at s2 s3
  rw [e1, ← hc']
  have ou : opsF (mk :: P') = opsF P' + 1 := ops_u (by omega)
  rw [ou] at s2 s3
  rw [List.length_cons] at s1 s2
  obtain ⟨J2, e2⟩ : ∃ J, J = rw1 J1 76 (upd (J1 76) 19 (J1 76 19 - 1)) := ⟨_, rfl⟩
  obtain ⟨J3, e3⟩ : ∃ J, J = rw1 J2 76 (upd (J2 76) 20 (J2 76 20 - 1)) := ⟨_, rfl⟩
  have f19 : J1 76 19 - 1 = nI P'.length := by rw [a2.1.1, List.length_cons, nI_pred]
  have g20 : J2 76 20 = nI (opsF P' + 1) := by rw [e2, rw1_s, upd_n _ _ (by decide), a2.2.2, ou]
  have o3 : ∀ a, a ≠ 76 → J3 a = J1 a := fun a ha => by rw [e3, rw1_n _ _ ha, e2, rw1_n _ _ ha]
  have r3 : ∀ q, ¬ q = 19 → ¬ q = 20 → J3 76 q = J1 76 q := fun q h1 h2 => by rw [e3, rw1_s, upd_n _ _ h2, e2, rw1_s, upd_n _ _ h1]
  have p3 : PMs J3 k P' c' := ⟨a2.1.pop (o3 81 (by decide)) (by rw [e3, rw1_s, upd_n _ _ (by decide), e2, rw1_s, upd_s]; exact f19), a2.2.1.kept (o3 79 (by decide)) (r3 14 (by decide) (by decide)) (r3 16 (by decide) (by decide)), by rw [e3, rw1_s, upd_s, g20, nI_pred]⟩
  have gf3 : GFz k J1 J3 := ⟨fun a h1 _ _ => o3 a h1, fun x _ => by rw [o3 79 (by decide)], fun q _ _ h2 h3 _ => r3 q h2 h3⟩
  -- SELECT, or not
  obtain ⟨c2, hc2⟩ : ∃ c2, c2 = (if se then c' ++ [(23, 0)] else c') := ⟨_, rfl⟩
  have em : ∃ J4, (se = false → J4 = J3) ∧ (se = true → Cl g 1 mu_X12_emit [rf g 76, .int 23, .int 0] (Z, J3, L) none (Z, J4, L)) ∧ PMs J4 k P' c2 ∧ SFz k J3 J4 := by
    cases se with
    | false => exact ⟨J3, fun _ => rfl, fun z => (by cases z), by rw [hc2]; exact p3, SFz.refl k J3⟩
    | true =>
      obtain ⟨J4, q1, q2, q3, q4, q5⟩ := mp_emit (g := g) (L := L) hS p3.2.1 (by omega) 23 0
      exact ⟨J4, fun z => (by cases z), fun _ => q1, by rw [hc2]; exact ⟨p3.1.kept (q3.1 81 (by decide) (by decide)) q4, q2, by rw [q5]; exact p3.2.2⟩, q3⟩
  obtain ⟨J4, q1, q2, q3, q4⟩ := em
  have lc2 : c2.length ≤ c'.length + 1 := by
    rw [hc2]
    cases se with
    | false => show c'.length ≤ _; omega
    | true => show (c' ++ [(23, 0)]).length ≤ _; rw [List.length_append]; exact Nat.le_refl _
  obtain ⟨J5, d1, d2, d3, d4, d5, d6⟩ := mp_whole (g := g) (L := L) hS q3 (by omega)
  have rr : ∀ q, ¬ q = 16 → ¬ q = 19 → ¬ q = 20 → ¬ q = 21 → J5 76 q = I 76 q := fun q h1 h2 h3 h4 => by rw [d5 q h1 h2 h3 h4, q4.2.2 q h1 h2 h3, r3 q h2 h3, a3.2.2 q h1 h2 h3]
  have mt5 : MT J5 tp := m1.sf (rr 6 (by decide) (by decide) (by decide) (by decide)) (by rw [d6 80 (by decide) (by decide), q4.1 80 (by decide) (by decide), o3 80 (by decide), a3.1 80 (by decide) (by decide)])
  obtain ⟨I1, L1, f1, f2, f3, f4⟩ := mp_next (g := g) (L := L) hS h8 mt5 (m2.kept (fun q h1 h2 => rr q (by omega) (by omega) (by omega) (by omega))) hk
  obtain ⟨u1, u2, u3⟩ := stl_b 7 P' c2
  show ∃ J1 J2 J3 J4 J5 I1 L1, _
  refine ⟨J1, J2, J3, J4, J5, I1, L1, a1, e2, e3, q1, q2, d1, f1, ?_, (((a3.gf.trans gf3).trans q4.gf).trans d4).trans f2.gf⟩
  rw [← hc2]
  refine ⟨mt5.nf f2, f3, d2.nf f2, ?_, ⟨?_, ?_, ?_⟩, f4⟩
  · show I1 76 21 = 1
    rw [f2.2 21 (by omega)]; exact d3
  · show (stl 7 P' c2).2.length + (stl 7 P' c2).1.length ≤ i + 1
    omega
  · show 2 * (stl 7 P' c2).1.length + 1 ≤ i + 1 + opsF (stl 7 P' c2).1
    omega
  · show opsF (stl 7 P' c2).1 ≤ 8
    omega
/-- ? or : -/
theorem ac_turn (hS : Sh Z) (h8 : T8 tp) (hT : TSz ts) (m : MAz I L k tp ts (P, cs, true, i)) {mk : Nat} (hm : mkF P = some mk) (hm2 : mk < 50) (hk : ¬ kT ts i = 37) : ∃ J1 J2 J3 I1 L1, Cl g 2 mu_X12_settle [rf g 76, .int 1] (Z, I, L) none (Z, J1, L) ∧ vp_in (nI (mxF P) - 1) (Z.2.2.1 81) ∧ J2 = rw1 J1 81 (upd (J1 81) (nI (mxF P) - 1).toNatClampNeg (nI mk + 1)) ∧ J3 = rw1 J2 76 (upd (J2 76) 21 0) ∧ Cl g 3 mu_X12_nextToken [rf g 76] (Z, J3, L) none (Z, I1, L1) ∧ MAz I1 L1 k tp ts ((mk + 1) :: (stl 1 P cs).1.tail, (stl 1 P cs).2, false, i + 1) ∧ GFz k I I1 := by
  obtain ⟨m1, m2, m3, m4, ⟨b1, b2, b3⟩, m6⟩ := m
  have m1 : MT I tp := m1
  have m2 : MTk I L tp ts i := m2
  have m3 : PMs I k P cs := m3
  have b1 : cs.length + P.length ≤ i := b1
  have b2 : 2 * P.length + 1 ≤ i + opsF P := b2
  have b3 : opsF P ≤ 8 := b3
  have m6 : i < ts.length := m6
  have hl := hT.2.1
  obtain ⟨J1, a1, a2, a3⟩ := mp_settle (g := g) (L := L) (l := 1) hS (by decide) (by decide) m3 (by omega)
  obtain ⟨s1, s2, s3⟩ := stl_b 1 P cs
  obtain ⟨P', e1, ex, h40⟩ := stl1_mk P cs hm
  obtain ⟨c', hc'⟩ : ∃ c', c' = (stl 1 P cs).2 := ⟨_, rfl⟩
  rw [e1, ← hc'] at a2 s1
  rw [e1] at s2 s3
  rw [e1, ← hc', ex, nI_pred, nI_1]
  have ou : opsF (mk :: P') = opsF P' + 1 := ops_u (by omega)
  have ou2 : opsF ((mk + 1) :: P') = opsF P' + 1 := ops_u (by omega)
  rw [ou] at s2 s3
  rw [List.length_cons] at s1 s2
  have lp := a2.1.2.1
  rw [List.length_cons] at lp
  rw [nI_clamp (show P'.length < 2 ^ 31 by omega)]
  obtain ⟨J2, e2⟩ : ∃ J, J = rw1 J1 81 (upd (J1 81) P'.length (nI (mk + 1))) := ⟨_, rfl⟩
  obtain ⟨J3, e3⟩ : ∃ J, J = rw1 J2 76 (upd (J2 76) 21 0) := ⟨_, rfl⟩
  have p76 : J2 76 = J1 76 := by rw [e2, rw1_n _ _ (by decide)]
  have oo : ∀ a, a ≠ 76 → a ≠ 81 → J3 a = J1 a := fun a h1 h2 => by rw [e3, rw1_n _ _ h1, e2, rw1_n _ _ h2]
  have rr0 : ∀ q, ¬ q = 21 → J3 76 q = J1 76 q := fun q hq => by rw [e3, rw1_s, upd_n _ _ hq, p76]
  have pl : PLz J3 ((mk + 1) :: P') := by
    obtain ⟨x1, x2, x3, x4⟩ := a2.1
    refine ⟨by rw [rr0 19 (by decide)]; exact x1, x2, fun x hx => ?_, fun j v hj => ?_⟩
    · rcases List.mem_cons.mp hx with rfl | hx
      · omega
      · exact x3 x (List.mem_cons_of_mem _ hx)
    · rw [e3, rw1_n _ _ (by decide), e2, rw1_s]
      rw [List.reverse_cons] at hj
      by_cases he : j = P'.length
      · rw [he, List.getElem?_append_right (by rw [List.length_reverse]; exact Nat.le_refl _), List.length_reverse, Nat.sub_self] at hj
        rw [he, upd_s, Option.some.inj hj]
      · have hjl := (List.getElem?_eq_some_iff.mp hj).1
        rw [List.length_append, List.length_reverse, List.length_singleton] at hjl
        rw [List.getElem?_append_left (by rw [List.length_reverse]; omega)] at hj
        rw [upd_n _ _ he]
        refine x4 j v ?_
        rw [List.reverse_cons, List.getElem?_append_left (by rw [List.length_reverse]; omega)]
        exact hj
  have p3 : PMs J3 k ((mk + 1) :: P') c' := ⟨pl, a2.2.1.kept (oo 79 (by decide) (by decide)) (rr0 14 (by decide)) (rr0 16 (by decide)), by rw [rr0 20 (by decide), a2.2.2, ou, ou2]⟩
  have rr : ∀ q, ¬ q = 16 → ¬ q = 19 → ¬ q = 20 → ¬ q = 21 → J3 76 q = I 76 q := fun q h1 h2 h3 h4 => by rw [rr0 q h4, a3.2.2 q h1 h2 h3]
  have mt3 : MT J3 tp := m1.sf (rr 6 (by decide) (by decide) (by decide) (by decide)) (by rw [oo 80 (by decide) (by decide), a3.1 80 (by decide) (by decide)])
  obtain ⟨I1, L1, f1, f2, f3, f4⟩ := mp_next (g := g) (L := L) hS h8 mt3 (m2.kept (fun q h1 h2 => rr q (by omega) (by omega) (by omega) (by omega))) hk
  refine ⟨J1, J2, J3, I1, L1, a1, by rw [hS.n 81 160 (by decide)]; exact vp_in_nI (by omega) (by decide), e2, e3, f1, ⟨mt3.nf f2, f3, p3.nf f2, ?_, ⟨?_, ?_, ?_⟩, f4⟩, ?_⟩
  · show I1 76 21 = 0
    rw [f2.2 21 (by omega), e3, rw1_s, upd_s]
  · show c'.length + ((mk + 1) :: P').length ≤ i + 1
    rw [List.length_cons]; omega
  · show 2 * ((mk + 1) :: P').length + 0 ≤ i + 1 + opsF ((mk + 1) :: P')
    rw [List.length_cons, ou2]; omega
  · show opsF ((mk + 1) :: P') ≤ 8
    omega
  · exact (a3.gf.trans ⟨fun a h1 _ h3 => oo a h1 h3, fun x _ => by rw [oo 79 (by decide) (by decide)], fun q _ _ _ _ h4 => rr0 q h4⟩).trans f2.gf
end MBHE
