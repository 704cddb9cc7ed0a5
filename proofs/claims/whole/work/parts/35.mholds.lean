/-! the model's holds() -/
section MHOLDS
variable {g : GE} {Z : Zs} {I : Nat → Nat → Int32} {L : Nat → Nat → Int64} {w h : Nat} {S : Nat → List Nat} {tx : List TX}
theorem mh_19 {hb : Nat} {t : TX} {acc : Int32} : ∀ (d j : Nat) (b : Bool) (I : Nat → Nat → Int32) (L : Nat → Nat → Int64), MB Z I w h S tx → tx[hb]? = some t → j + d = (S 6).length →
    ∃ I1 L1, (∀ r M', Lp_X12_holds_4 g 6 76 (if b && hB w h S t d j then acc ||| (1 <<< (nI hb &&& 31)) else acc) (nI (hb + 1)) (Z, I1, L1) r M' → Lp_X12_holds_19 g 6 76 acc (nI hb) (b2i b) (nI j) (Z, I, L) r M') ∧ MB Z I1 w h S tx ∧ (∀ a, ¬ modA a → I1 a = I a) ∧ ∀ a, a ≠ 83 → L1 a = L a := by
  intro d
  induction d with
  | zero =>
    intro j b I L m htx hj
    obtain ⟨k, hW, hr⟩ := id m
    obtain ⟨hM, c0, c1, c2, c3, c4, c5, c6⟩ := k.2.2.2.2.1
    have hl6 : (S 6).length ≤ 20 := k.len 6 (by decide)
    refine ⟨I, L, fun r M' hc => wp_X12_holds_19 (k.1.k 76 12 (by decide) (by decide)) (k.1.r 76 0 77 (by decide)) (k.1.k 77 13 (by decide) (by decide)) ⟨vin k (j := 4) (by decide), fun _ => ⟨fun e y hy y2 hy2 => ?_, fun e y hy y2 hy2 => ?_⟩, fun e => ?_⟩, m, fun _ _ => rfl, fun _ _ => rfl⟩
    · rw [b2i_0] at e
      subst e
      rw [hy, hy2, nI_1, Int32.or_zero]
      exact hc
    · rw [b2i_0, Bool.not_eq_false] at e
      subst e
      rw [hy, hy2, nI_1]
      exact hc
    · rw [show I 77 (4 : Int32).toNatClampNeg = nI (S 6).length from c4] at e
      exact absurd (nI_le (show (S 6).length ≤ j by omega) (by omega)) e
  | succ d ih =>
    intro j b I L m htx hj
    obtain ⟨k, hW, hr⟩ := id m
    obtain ⟨hM, c0, c1, c2, c3, c4, c5, c6⟩ := k.2.2.2.2.1
    have hm := k.2.1.mul
    have hl6 : (S 6).length ≤ 20 := k.len 6 (by decide)
    have l7 : (S 6).length = (S 7).length := hW.2.2.2.2.2.2.2.2.2.1
    have l8 : (S 6).length = (S 8).length := hW.2.2.2.2.2.2.2.2.2.2.1
    have hjl : j < (S 6).length := by omega
    have b6 := getD_ok hW.2.2.2.2.2.2.2.2.2.2.2.1 hjl
    have b7 := getD_ok hW.2.2.2.2.2.2.2.2.2.2.2.2.1 (show j < (S 7).length by omega)
    have b8 := getD_ok hW.2.2.2.2.2.2.2.2.2.2.2.2.2.1 (show j < (S 8).length by omega)
    have a6 : I 77 (130 + 3 * j) = nI ((S 6).getD j 0) := k.atD 6 (by decide) hjl
    have a7 : I 77 (130 + 3 * j + 1) = nI ((S 7).getD j 0) := by
      rw [show 130 + 3 * j + 1 = 131 + 3 * j by omega]; exact k.atD 7 (by decide) (by omega)
    have a8 : I 77 (130 + 3 * j + 2) = nI ((S 8).getD j 0) := by
      rw [show 130 + 3 * j + 2 = 132 + 3 * j by omega]; exact k.atD 8 (by decide) (by omega)
    have v4 := vin k (j := 4) (by decide)
    have hgo : I 77 (4 : Int32).toNatClampNeg ≤ nI j → False := fun e => by
      rw [show I 77 (4 : Int32).toNatClampNeg = nI (S 6).length from c4] at e
      exact absurd e (nI_ge hjl (by omega))
    have mk := fun (r : Option Value) (M' : Mem) => @wp_X12_holds_19 g Z I L r M' 76 acc (nI hb) (b2i b) (nI j) 77 (k.1.k 76 12 (by decide) (by decide)) (k.1.r 76 0 77 (by decide)) (k.1.k 77 13 (by decide) (by decide))
    have p6 := m_isPose (g := g) (L := L) k hW (p := (S 6).getD j 0) (by omega)
    have ey : (130 : Int32) + 3 * nI j = nI (130 + 3 * j) := e130 j
    cases b with
    | false =>
      obtain ⟨I2, L2, e1, e2, e3, e4⟩ := ih (j + 1) false I L m htx (by omega)
      refine ⟨I2, L2, fun r M' hc => mk _ _ ⟨v4, fun e => (hgo e).elim, fun _ y hy => ⟨fun _ y2 hy2 => ?_, fun e => absurd rfl e⟩⟩, e2, e3, e4⟩
      rw [hy2, nI_1]
      exact e1 r M' hc
    | true =>
      by_cases h6 : isP w h S ((S 6).getD j 0)
      · obtain ⟨I1, L1, d1, d2, d3, d4⟩ := ms_made (g := g) (L := L) m htx b6 b7
        have hst := stepF_lt (K := S 0) (t := t) (tap := (S 7).getD j 0) k.2.1 b6
        have z8 : I1 77 (130 + 3 * j + 2) = nI ((S 8).getD j 0) := by rw [d3 77 (by decide) (by decide)]; exact a8
        by_cases he : stepF w h (S 0) t ((S 6).getD j 0) ((S 7).getD j 0) % 200 = (S 8).getD j 0
        · obtain ⟨I2, L2, e1, e2, e3, e4⟩ := ih (j + 1) true I1 L1 d2 htx (by omega)
          have h8 : isP w h S ((S 8).getD j 0) := by rw [← he]; exact step_isP k.2.1 hW h6
          rw [show hB w h S t (d + 1) j = hB w h S t d (j + 1) from by
            show (okAt w h S t j && hB w h S t d (j + 1)) = _
            unfold okAt; rw [pB_t h6, pB_t h8, decide_eq_true he]; rfl]
          refine ⟨I2, L2, fun r M' hc => mk _ _ ⟨v4, fun e => (hgo e).elim, fun _ y hy => ⟨fun e => absurd e (by decide), fun _ => ?_⟩⟩, e2, fun a ha => by rw [e3 a ha]; unfold modA at ha; exact d3 a (by omega) (by omega), fun a ha => by rw [e4 a ha, d4 a ha]⟩
          rw [ey] at hy
          subst hy
          rw [show nI (130 + 3 * j) + 1 = nI (130 + 3 * j + 1) from nI_add _ 1, show nI (130 + 3 * j) + 2 = nI (130 + 3 * j + 2) from nI_add _ 2, nI_clamp (by omega), nI_clamp (by omega), nI_clamp (by omega), a6, a7]
          refine ⟨vin k (by omega), _, p6, fun e => absurd e (b2i_1 (pB_t h6)), fun _ => ⟨vin k (by omega), vin k (by omega), _, I1, L1, d1, vin k (by omega), fun e => absurd ?_ e, fun _ y2 hy2 => ?_⟩⟩
          · rw [rem200 (by omega), z8, he]
          · rw [hy2, nI_1]; exact e1 r M' hc
        · obtain ⟨I2, L2, e1, e2, e3, e4⟩ := ih (j + 1) false I1 L1 d2 htx (by omega)
          rw [show hB w h S t (d + 1) j = false from by
            show (okAt w h S t j && hB w h S t d (j + 1)) = _
            unfold okAt; rw [decide_eq_false he, Bool.and_false]; rfl]
          refine ⟨I2, L2, fun r M' hc => mk _ _ ⟨v4, fun e => (hgo e).elim, fun _ y hy => ⟨fun e => absurd e (by decide), fun _ => ?_⟩⟩, e2, fun a ha => by rw [e3 a ha]; unfold modA at ha; exact d3 a (by omega) (by omega), fun a ha => by rw [e4 a ha, d4 a ha]⟩
          rw [ey] at hy
          subst hy
          rw [show nI (130 + 3 * j) + 1 = nI (130 + 3 * j + 1) from nI_add _ 1, show nI (130 + 3 * j) + 2 = nI (130 + 3 * j + 2) from nI_add _ 2, nI_clamp (by omega), nI_clamp (by omega), nI_clamp (by omega), a6, a7]
          refine ⟨vin k (by omega), _, p6, fun e => absurd e (b2i_1 (pB_t h6)), fun _ => ⟨vin k (by omega), vin k (by omega), _, I1, L1, d1, vin k (by omega), fun _ y2 hy2 => ?_, fun e => ?_⟩⟩
          · rw [hy2, nI_1]; exact e1 r M' hc
          · rw [rem200 (by omega), z8] at e
            exact absurd ((nI_eq (by omega) (by omega)).mp e) he
      · obtain ⟨I2, L2, e1, e2, e3, e4⟩ := ih (j + 1) false I L m htx (by omega)
        rw [show hB w h S t (d + 1) j = false from by
            show (okAt w h S t j && hB w h S t d (j + 1)) = _
            unfold okAt; rw [pB_f h6]; rfl]
        refine ⟨I2, L2, fun r M' hc => mk _ _ ⟨v4, fun e => (hgo e).elim, fun _ y hy => ⟨fun e => absurd e (by decide), fun _ => ?_⟩⟩, e2, e3, e4⟩
        rw [ey] at hy
        subst hy
        rw [nI_clamp (by omega), a6]
        refine ⟨vin k (by omega), _, p6, fun _ y2 hy2 => ?_, fun e => absurd (by rw [pB_f h6]; rfl) e⟩
        rw [hy2, nI_1]; exact e1 r M' hc
theorem mh_4 : ∀ (ts : List TX) (j : Nat) (acc : Int32) (I : Nat → Nat → Int32) (L : Nat → Nat → Int64), MB Z I w h S tx → tx.drop j = ts → j ≤ tx.length →
    ∃ I1 L1, Lp_X12_holds_4 g 6 76 acc (nI j) (Z, I, L) (some (.int (holdsF w h S ts j acc))) (Z, I1, L1) ∧ MB Z I1 w h S tx ∧ (∀ a, ¬ modA a → I1 a = I a) ∧ ∀ a, a ≠ 83 → L1 a = L a := by
  intro ts
  induction ts with
  | nil =>
    intro j acc I L m hd hj
    obtain ⟨k, hW, hr⟩ := id m
    obtain ⟨hM, c0, c1, c2, c3, c4, c5, c6⟩ := k.2.2.2.2.1
    have hx4 := k.2.2.2.2.2.1
    have hj : tx.length ≤ j := List.drop_eq_nil_iff.mp hd
    refine ⟨I, L, wp_X12_holds_4 (k.1.k 76 12 (by decide) (by decide)) (k.1.r 76 0 77 (by decide)) (k.1.k 77 13 (by decide) (by decide)) ⟨vin k (j := 1) (by decide), fun _ => ⟨rfl, rfl⟩, fun e => ?_⟩, m, fun _ _ => rfl, fun _ _ => rfl⟩
    rw [show I 77 (1 : Int32).toNatClampNeg = nI tx.length from c1] at e
    exact absurd (nI_le hj (by omega)) e
  | cons t ts ih =>
    intro j acc I L m hd hj
    obtain ⟨k, hW, hr⟩ := id m
    obtain ⟨hM, c0, c1, c2, c3, c4, c5, c6⟩ := k.2.2.2.2.1
    have hx4 := k.2.2.2.2.2.1
    have hjl : j < tx.length := by
      rcases Nat.lt_or_ge j tx.length with h1 | h1
      · exact h1
      · rw [List.drop_eq_nil_of_le h1] at hd; cases hd
    rw [List.drop_eq_getElem_cons hjl] at hd
    obtain ⟨h1, h2⟩ := List.cons.inj hd
    have htx : tx[j]? = some t := by rw [List.getElem?_eq_getElem hjl, h1]
    obtain ⟨I1, L1, d1, d2, d3, d4⟩ := mh_19 (g := g) (S := S) (hb := j) (t := t) (acc := acc) (S 6).length 0 true I L m htx (Nat.zero_add _)
    obtain ⟨I2, L2, e1, e2, e3, e4⟩ := ih (j + 1) (if true && hB w h S t (S 6).length 0 then acc ||| (1 <<< (nI j &&& 31)) else acc) I1 L1 d2 h2 (by omega)
    refine ⟨I2, L2, wp_X12_holds_4 (k.1.k 76 12 (by decide) (by decide)) (k.1.r 76 0 77 (by decide)) (k.1.k 77 13 (by decide) (by decide)) ⟨vin k (j := 1) (by decide), fun e => ?_, fun _ => d1 _ _ e1⟩, e2, fun a ha => by rw [e3 a ha, d3 a ha], fun a ha => by rw [e4 a ha, d4 a ha]⟩
    rw [show I 77 (1 : Int32).toNatClampNeg = nI tx.length from c1] at e
    exact absurd e (nI_ge hjl (by omega))
theorem mo_holds (m : MB Z I w h S tx) : ∃ I1 L1, Cl g 6 mu_X12_holds [rf g 76] (Z, I, L) (some (.int (holdsF w h S tx 0 0))) (Z, I1, L1) ∧ MB Z I1 w h S tx ∧ (∀ a, ¬ modA a → I1 a = I a) ∧ ∀ a, a ≠ 83 → L1 a = L a := by
  obtain ⟨I1, L1, d1, d2, d3, d4⟩ := mh_4 (g := g) tx 0 0 I L m rfl (Nat.zero_le _)
  exact ⟨I1, L1, cp_X12_holds (m.1.1.k 76 12 (by decide) (by decide)) d1, d2, d3, d4⟩
end MHOLDS
