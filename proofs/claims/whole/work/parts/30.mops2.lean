/-! the model's pair, seen, of, goes -/
section MOPS2
variable {g : GE} {Z : Zs} {I : Nat → Nat → Int32} {L : Nat → Nat → Int64} {w h : Nat} {S : Nat → List Nat} {tx : List TX}
/-- one write into the row a of the model -/
theorem r77 (J : Nat → Nat → Int32) (j q : Nat) (v : Int32) : rw1 J 77 (upd (J 77) j v) 77 q = if q = j then v else J 77 q := by rw [rw1_s]; rfl
theorem o77 {J : Nat → Nat → Int32} {f : Nat → Int32} {a : Nat} (h : a ≠ 77) : rw1 J 77 f a = J a := rw1_n _ _ h
theorem mo_pair (m : MB Z I w h S tx) {p hb : Nat} (hp : isP w h S p) (hh : hb < tx.length) (hl : (S 1).length < 6) : ∃ I1, Cl g 3 mu_X12_pair [rf g 76, .int (nI p), .int (nI hb)] (Z, I, L) (some (.int (nI (S 1).length))) (Z, I1, L) ∧ MB Z I1 w h (rw1 (rw1 S 1 (S 1 ++ [p])) 2 (S 2 ++ [hb])) tx ∧ ∀ a, ¬ modA a → I1 a = I a := by
  obtain ⟨k, hW, hr⟩ := id m
  obtain ⟨hM, c0, c1, c2, c3, c4, c5, c6⟩ := k.2.2.2.2.1
  have hx4 := k.2.2.2.2.2.1
  have h12 : (S 1).length = (S 2).length := hW.2.2.1
  obtain ⟨n, hn⟩ : ∃ n, n = (S 1).length := ⟨_, rfl⟩
  rw [← hn] at hl c0 h12 ⊢
  obtain ⟨b, p1, p2⟩ := ms_isPose (g := g) (L := L) k hW (nI p)
  obtain ⟨J1, q1⟩ : ∃ J, J = rw1 I 77 (upd (I 77) (35 + 2 * n) (nI p)) := ⟨_, rfl⟩
  obtain ⟨J2, q2⟩ : ∃ J, J = rw1 J1 77 (upd (J1 77) (35 + 2 * n + 1) (nI hb)) := ⟨_, rfl⟩
  obtain ⟨J3, q3⟩ : ∃ J, J = rw1 J2 77 (upd (J2 77) 0 (nI (n + 1))) := ⟨_, rfl⟩
  have u1 : ∀ q, J1 77 q = if q = 35 + 2 * n then nI p else I 77 q := fun q => by rw [q1, r77]
  have u2 : ∀ q, J2 77 q = if q = 35 + 2 * n + 1 then nI hb else if q = 35 + 2 * n then nI p else I 77 q := fun q => by rw [q2, r77, u1]
  have u : ∀ q, J3 77 q = if q = 0 then nI (n + 1) else if q = 35 + 2 * n + 1 then nI hb else if q = 35 + 2 * n then nI p else I 77 q := fun q => by rw [q3, r77, u2]
  have f : ∀ a, a ≠ 77 → J3 a = I a := fun a ha => by rw [q3, o77 ha, q2, o77 ha, q1, o77 ha]
  have e1 : (35 : Int32) + 2 * nI n = nI (35 + 2 * n) := by rw [show (2 : Int32) * nI n = nI (2 * n) from pk_mul 2 n]; exact nI_add 35 _
  refine ⟨J3, cp_X12_pair (k.1.k 76 12 (by decide) (by decide)) (k.1.r 76 0 77 (by decide)) (k.1.k 77 13 (by decide) (by decide)) ⟨_, p1, fun e => absurd e (b2i_1 (p2.mpr ⟨p, rfl, hp⟩)), fun _ => ⟨_, ms_isText k _, fun e => absurd e (ite_1 (nI_in0 hh (by omega))), fun _ => ⟨vin k (j := 0) (by decide), fun _ => ⟨vin k (j := 0) (by decide), ?_⟩, fun e => ?_⟩⟩⟩, m.to (k.2.2.2.2.1.upd (fun q => q = 0 ∨ q = 35 + 2 * n + 1 ∨ q = 35 + 2 * n) (fun q hq => by rw [u, if_neg (by omega), if_neg (by omega), if_neg (by omega)]) (fun j hj => ?_) ⟨?_, ?_, ?_, ?_, ?_, ?_, ?_⟩) (hW.pair hp hh) (fun a ha => f a (by omega)), fun a ha => f a (by unfold modA at ha; omega)⟩
  · rw [show I 77 (0 : Int32).toNatClampNeg = nI n from c0, e1, nI_clamp (by omega)]
    refine ⟨vin k (by omega), fun I8 hI8 => ?_⟩
    have hI8 : I8 = J1 := hI8.trans q1.symm
    subst hI8
    have z1 : I8 77 (0 : Int32).toNatClampNeg = nI n := by
      show I8 77 0 = nI n
      rw [u1, if_neg (by omega)]; exact c0
    rw [z1, e1, nI_1, nI_clamp (by omega)]
    refine ⟨vin k (j := 0) (by decide), vin k (by omega), fun I11 hI11 => ?_⟩
    have hI11 : I11 = J2 := hI11.trans q2.symm
    subst hI11
    have z2 : I11 77 (0 : Int32).toNatClampNeg = nI n := by
      show I11 77 0 = nI n
      rw [u2, if_neg (by omega), if_neg (by omega)]; exact c0
    rw [z2, nI_1]
    refine ⟨vin k (j := 0) (by decide), vin k (j := 0) (by decide), fun I14 hI14 => ?_⟩
    have hI14 : I14 = J3 := hI14.trans q3.symm
    subst hI14
    refine ⟨vin k (j := 0) (by decide), ?_, rfl⟩
    rw [show I14 77 (0 : Int32).toNatClampNeg = nI (n + 1) from by show I14 77 0 = _; rw [u, if_pos rfl], nI_pred]
  · rw [show I 77 (0 : Int32).toNatClampNeg = nI n from c0] at e
    exact absurd ((nI_eq (b := 6) (by omega) (by decide)).mp e) (by omega)
  · by_cases hj1 : j = 1
    · subst hj1
      refine Or.inr ⟨?_, fun q v hv => ?_⟩
      · show (S 1 ++ [p]).length ≤ 6
        rw [List.length_append, List.length_singleton, ← hn]; omega
      · have hv : (S 1 ++ [p])[q]? = some v := hv
        show J3 77 (35 + 2 * q) = nI v
        rcases getElem_app hv with h1 | ⟨rfl, rfl⟩
        · have hql := (List.getElem?_eq_some_iff.mp h1).1
          rw [u, if_neg (by omega), if_neg (by omega), if_neg (by omega)]
          exact k.at 1 (by decide) h1
        · rw [u, if_neg (by omega), if_neg (by omega), if_pos (by omega)]
    · by_cases hj2 : j = 2
      · subst hj2
        refine Or.inr ⟨?_, fun q v hv => ?_⟩
        · show (S 2 ++ [hb]).length ≤ 6
          rw [List.length_append, List.length_singleton, ← h12]; omega
        · have hv : (S 2 ++ [hb])[q]? = some v := hv
          show J3 77 (36 + 2 * q) = nI v
          rcases getElem_app hv with h1 | ⟨rfl, rfl⟩
          · have hql := (List.getElem?_eq_some_iff.mp h1).1
            rw [u, if_neg (by omega), if_neg (by omega), if_neg (by omega)]
            exact k.at 2 (by decide) h1
          · rw [u, if_neg (by omega), if_pos (by omega)]
      · exact Or.inl ⟨by rw [rw1_n _ _ hj2, rw1_n _ _ hj1], fun q hq => by rcases mpos k.2.1 hj hq with z | z | z | z | z | z | z | z | z | z | z <;> omega⟩
  · rw [u, if_pos rfl]
    show nI (n + 1) = nI (S 1 ++ [p]).length
    rw [List.length_append, List.length_singleton, ← hn]
  · rw [u, if_neg (by decide), if_neg (by omega), if_neg (by omega)]; exact c1
  · rw [u, if_neg (by decide), if_neg (by omega), if_neg (by omega)]; exact c2
  · rw [u, if_neg (by decide), if_neg (by omega), if_neg (by omega)]; exact c3
  · rw [u, if_neg (by decide), if_neg (by omega), if_neg (by omega)]; exact c4
  · rw [u, if_neg (by decide), if_neg (by omega), if_neg (by omega)]; exact c5
  · rw [u, if_neg (by decide), if_neg (by omega), if_neg (by omega)]; exact c6
theorem mo_pairN (m : MB Z I w h S tx) {x1 x2 : Int32} (hn : ¬ vPair w h S tx x1 x2) : Cl g 3 mu_X12_pair [rf g 76, .int x1, .int x2] (Z, I, L) (some (.int (-1))) (Z, I, L) := by
  obtain ⟨k, hW, hr⟩ := id m
  obtain ⟨hM, c0, c1, c2, c3, c4, c5, c6⟩ := k.2.2.2.2.1
  have hx4 := k.2.2.2.2.2.1
  have hl1 : (S 1).length ≤ 6 := k.len 1 (by decide)
  obtain ⟨b, p1, p2⟩ := ms_isPose (g := g) (L := L) k hW x1
  have mk := @cp_X12_pair g Z I L (some (.int (-1))) (Z, I, L) 76 x1 x2 77 (k.1.k 76 12 (by decide) (by decide)) (k.1.r 76 0 77 (by decide)) (k.1.k 77 13 (by decide) (by decide))
  by_cases h1 : b = true
  · by_cases h2 : ¬ x2 < 0 ∧ x2 < nI tx.length
    · refine mk ⟨_, p1, fun e => absurd e (b2i_1 h1), fun _ => ⟨_, ms_isText k _, fun e => absurd e (ite_1 h2), fun _ => ⟨vin k (j := 0) (by decide), fun e => ?_, fun _ => ⟨rfl, rfl⟩⟩⟩⟩
      refine absurd ⟨p2.mp h1, in0_nI (by omega) h2, ?_⟩ hn
      rcases Nat.lt_or_ge (S 1).length 6 with z | z
      · exact z
      · exact absurd (by rw [show I 77 (0 : Int32).toNatClampNeg = nI (S 1).length from c0, show (S 1).length = 6 by omega]; rfl) e
    · exact mk ⟨_, p1, fun e => absurd e (b2i_1 h1), fun _ => ⟨_, ms_isText k _, fun _ => ⟨rfl, rfl⟩, fun e => absurd (ite_0 h2) e⟩⟩
  · exact mk ⟨_, p1, fun _ => ⟨rfl, rfl⟩, fun e => absurd (b2i_f h1) e⟩
theorem mo_of (m : MB Z I w h S tx) (x1 x2 : Int32) : Cl g 3 mu_X12_of [rf g 76, .int x1, .int x2] (Z, I, L) (some (.int (ofF S x1 x2))) (Z, I, L) := by
  obtain ⟨k, hW, hr⟩ := id m
  have hl1 : (S 1).length ≤ 6 := k.len 1 (by decide)
  have h12 : (S 1).length = (S 2).length := hW.2.2.1
  have ci := sp_isIn (g := g) (Z := Z) (I := I) (L := L) x2 0 1
  refine cp_X12_of (k.1.k 76 12 (by decide) (by decide)) (k.1.r 76 0 77 (by decide)) (k.1.k 77 13 (by decide) (by decide)) ⟨_, ms_isPair k x1, fun e => ⟨?_, rfl⟩, fun e => ⟨_, ci, fun e2 => ⟨?_, rfl⟩, fun e2 => ?_⟩⟩
  · unfold ofF
    by_cases hx : ¬ x1 < 0 ∧ x1 < nI (S 1).length
    · exact absurd e (ite_1 hx)
    · rw [if_neg hx]
  · unfold ofF
    by_cases hx : ¬ x1 < 0 ∧ x1 < nI (S 1).length
    · rw [if_pos hx]
      by_cases h2 : ¬ x2 < 0 ∧ ¬ (1 : Int32) < x2
      · exact absurd e2 (ite_1 h2)
      · rw [if_neg (fun z => h2 (by rw [z]; exact ⟨by decide, by decide⟩)), if_neg (fun z => h2 (by rw [z]; exact ⟨by decide, by decide⟩))]
    · exact absurd (ite_0 hx) e
  · by_cases hx : ¬ x1 < 0 ∧ x1 < nI (S 1).length
    · by_cases h2 : ¬ x2 < 0 ∧ ¬ (1 : Int32) < x2
      · unfold ofF
        rw [if_pos hx]
        obtain ⟨n, rfl, hn⟩ := in0_nI (by omega) hx
        have e1 : (35 : Int32) + 2 * nI n = nI (35 + 2 * n) := by rw [show (2 : Int32) * nI n = nI (2 * n) from pk_mul 2 n]; exact nI_add 35 _
        have hx2 : x2 = 0 ∨ x2 = 1 := by
          obtain ⟨v, hv, rfl⟩ := nI_of h2.1
          have : ¬ 1 < v := fun z => h2.2 ((nI_ltI (a := 1) (by decide) hv).mpr z)
          have : v = 0 ∨ v = 1 := by omega
          rcases this with rfl | rfl
          · exact Or.inl rfl
          · exact Or.inr rfl
        rcases hx2 with rfl | rfl
        · rw [e1, Int32.add_zero, nI_clamp (by omega), if_pos rfl, nI_clamp (by omega), show I 77 (35 + 2 * n) = nI ((S 1).getD n 0) from k.atD 1 (by decide) hn]
          exact ⟨vin k (by omega), rfl, rfl⟩
        · rw [e1, nI_1, nI_clamp (by omega), if_neg (by decide), if_pos rfl, nI_clamp (by omega), show I 77 (35 + 2 * n + 1) = nI ((S 2).getD n 0) from by
            have := k.atD 2 (by decide) (j := n) (by omega)
            rw [show mB 2 + mDl 2 * n = 35 + 2 * n + 1 by show 36 + 2 * n = _; omega] at this
            exact this]
          exact ⟨vin k (by omega), rfl, rfl⟩
      · exact absurd (ite_0 h2) e2
    · exact absurd (ite_0 hx) e
end MOPS2
