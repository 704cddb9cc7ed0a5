/-! the model's rider, carrier -/
section MSIDE
variable {g : GE} {Z : Zs} {I : Nat → Nat → Int32} {L : Nat → Nat → Int64} {w h : Nat} {S : Nat → List Nat} {tx : List TX}
theorem mo_rider (m : MB Z I w h S tx) {v0 : Nat} (ht : v0 ≤ 9) (hl : (S 9).length < 6) : ∃ I1, Cl g 2 mu_X12_rider [rf g 76, .int (nI v0)] (Z, I, L) (some (.int (nI ((S 9).length + 1)))) (Z, I1, L) ∧ MB Z I1 w h (rw1 S 9 (S 9 ++ [v0])) tx ∧ ∀ a, ¬ modA a → I1 a = I a := by
  obtain ⟨k, hW, hr⟩ := id m
  obtain ⟨hM, c0, c1, c2, c3, c4, c5, c6⟩ := k.2.2.2.2.1
  obtain ⟨n, hn⟩ : ∃ n, n = (S 9).length := ⟨_, rfl⟩
  rw [← hn] at hl c5 ⊢
  obtain ⟨J, hJ⟩ : ∃ J, J = rw1 (rw1 I 77 (upd (I 77) (190 + n) (nI v0))) 77 (upd (upd (I 77) (190 + n) (nI v0)) 5 (nI (n + 1))) := ⟨_, rfl⟩
  have f : ∀ a, a ≠ 77 → J a = I a := fun a ha => by rw [hJ, rw1_n _ _ ha, rw1_n _ _ ha]
  have u : ∀ q, J 77 q = if q = 5 then nI (n + 1) else if q = 190 + n then nI v0 else I 77 q := fun q => by rw [hJ, rw1_s]; rfl
  have e1 : (190 : Int32) + nI n = nI (190 + n) := nI_add 190 n
  have ci := sp_isIn (g := g) (Z := Z) (I := I) (L := L) (nI v0) 0 9
  rw [if_pos ((in9 _).mpr ⟨v0, rfl, ht⟩)] at ci
  refine ⟨J, cp_X12_rider (k.1.k 76 12 (by decide) (by decide)) (k.1.r 76 0 77 (by decide)) (k.1.k 77 13 (by decide) (by decide)) ⟨_, ci, fun e => absurd e (by decide), fun _ => ⟨vin k (j := 5) (by decide), fun _ => ⟨vin k (j := 5) (by decide), ?_⟩, fun e => ?_⟩⟩, m.to (k.2.2.2.2.1.upd (fun q => q = 5 ∨ q = 190 + n) (fun q hq => by rw [u, if_neg (fun z => hq (Or.inl z)), if_neg (fun z => hq (Or.inr z))]) (fun j hj => ?_) ⟨?_, ?_, ?_, ?_, ?_, ?_, ?_⟩) (hW.sight ht) (fun a ha => f a (by omega)), fun a ha => f a (by unfold modA at ha; omega)⟩
  · rw [show I 77 (5 : Int32).toNatClampNeg = nI n from c5, e1, nI_clamp (by omega)]
    refine ⟨vin k (by omega), fun I6 hI6 => ⟨vin k (j := 5) (by decide), vin k (j := 5) (by decide), fun I9 hI9 => ⟨vin k (j := 5) (by decide), ?_, ?_⟩⟩⟩
    · have z : I9 77 (5 : Int32).toNatClampNeg = I6 77 (5 : Int32).toNatClampNeg + 1 := by rw [hI9, rw1_s]; rfl
      have z2 : I6 77 (5 : Int32).toNatClampNeg = nI n := by
        rw [hI6, rw1_s]
        show (if 5 = 190 + n then nI v0 else I 77 5) = _
        rw [if_neg (by omega)]; exact c5
      rw [z, z2, nI_1]
    · have z2 : I6 77 (5 : Int32).toNatClampNeg = nI n := by
        rw [hI6, rw1_s]
        show (if 5 = 190 + n then nI v0 else I 77 5) = _
        rw [if_neg (by omega)]; exact c5
      rw [hI9, z2, nI_1, hI6, hJ, rw1_s]; rfl
  · rw [show I 77 (5 : Int32).toNatClampNeg = nI n from c5] at e
    exact absurd ((nI_eq (b := 6) (by omega) (by decide)).mp e) (by omega)
  · by_cases hj3 : j = 9
    · subst hj3
      refine Or.inr ⟨?_, fun q v hv => ?_⟩
      · rw [rw1_s, List.length_append, List.length_singleton, ← hn]; show n + 1 ≤ 6; omega
      · rw [rw1_s] at hv
        show J 77 (190 + 1 * q) = nI v
        rcases getElem_app hv with h1 | ⟨rfl, rfl⟩
        · have hql := (List.getElem?_eq_some_iff.mp h1).1
          rw [u, if_neg (by omega), if_neg (by omega)]
          exact k.at 9 (by decide) h1
        · rw [u, if_neg (by omega), if_pos (by omega)]
    · exact Or.inl ⟨rw1_n _ _ hj3, fun q hq => by rcases mpos k.2.1 hj hq with z | z | z | z | z | z | z | z | z | z | z <;> omega⟩
  · rw [u, if_neg (by decide), if_neg (by omega)]; exact c0
  · rw [u, if_neg (by decide), if_neg (by omega)]; exact c1
  · rw [u, if_neg (by decide), if_neg (by omega)]; exact c2
  · rw [u, if_neg (by decide), if_neg (by omega)]; exact c3
  · rw [u, if_neg (by decide), if_neg (by omega)]; exact c4
  · rw [u, if_pos rfl, rw1_s, List.length_append, List.length_singleton, ← hn]
  · rw [u, if_neg (by decide), if_neg (by omega)]; exact c6
theorem mo_riderN (m : MB Z I w h S tx) {x : Int32} (hn : ¬ ((∃ v, x = nI v ∧ v ≤ 9) ∧ (S 9).length < 6)) : Cl g 2 mu_X12_rider [rf g 76, .int x] (Z, I, L) (some (.int (-1))) (Z, I, L) := by
  obtain ⟨k, hW, hr⟩ := id m
  obtain ⟨hM, c0, c1, c2, c3, c4, c5, c6⟩ := k.2.2.2.2.1
  have hl3 : (S 9).length ≤ 6 := k.len 9 (by decide)
  have ci := sp_isIn (g := g) (Z := Z) (I := I) (L := L) x 0 9
  refine cp_X12_rider (k.1.k 76 12 (by decide) (by decide)) (k.1.r 76 0 77 (by decide)) (k.1.k 77 13 (by decide) (by decide)) ⟨_, ci, fun _ => ⟨rfl, rfl⟩, fun e => ⟨vin k (j := 5) (by decide), fun e2 => ?_, fun _ => ⟨rfl, rfl⟩⟩⟩
  by_cases h2 : ¬ x < 0 ∧ ¬ (9 : Int32) < x
  · refine absurd ⟨(in9 x).mp h2, ?_⟩ hn
    rcases Nat.lt_or_ge (S 9).length 6 with z | z
    · exact z
    · exact absurd (by rw [show I 77 (5 : Int32).toNatClampNeg = nI (S 9).length from c5, show (S 9).length = 6 by omega]; rfl) e2
  · exact absurd (if_neg h2) e
theorem mo_carrier (m : MB Z I w h S tx) {v0 : Nat} (ht : v0 ≤ 9) (hl : (S 10).length < 6) : ∃ I1, Cl g 2 mu_X12_carrier [rf g 76, .int (nI v0)] (Z, I, L) (some (.int (nI ((S 10).length + 1)))) (Z, I1, L) ∧ MB Z I1 w h (rw1 S 10 (S 10 ++ [v0])) tx ∧ ∀ a, ¬ modA a → I1 a = I a := by
  obtain ⟨k, hW, hr⟩ := id m
  obtain ⟨hM, c0, c1, c2, c3, c4, c5, c6⟩ := k.2.2.2.2.1
  obtain ⟨n, hn⟩ : ∃ n, n = (S 10).length := ⟨_, rfl⟩
  rw [← hn] at hl c6 ⊢
  obtain ⟨J, hJ⟩ : ∃ J, J = rw1 (rw1 I 77 (upd (I 77) (196 + n) (nI v0))) 77 (upd (upd (I 77) (196 + n) (nI v0)) 6 (nI (n + 1))) := ⟨_, rfl⟩
  have f : ∀ a, a ≠ 77 → J a = I a := fun a ha => by rw [hJ, rw1_n _ _ ha, rw1_n _ _ ha]
  have u : ∀ q, J 77 q = if q = 6 then nI (n + 1) else if q = 196 + n then nI v0 else I 77 q := fun q => by rw [hJ, rw1_s]; rfl
  have e1 : (196 : Int32) + nI n = nI (196 + n) := nI_add 196 n
  have ci := sp_isIn (g := g) (Z := Z) (I := I) (L := L) (nI v0) 0 9
  rw [if_pos ((in9 _).mpr ⟨v0, rfl, ht⟩)] at ci
  refine ⟨J, cp_X12_carrier (k.1.k 76 12 (by decide) (by decide)) (k.1.r 76 0 77 (by decide)) (k.1.k 77 13 (by decide) (by decide)) ⟨_, ci, fun e => absurd e (by decide), fun _ => ⟨vin k (j := 6) (by decide), fun _ => ⟨vin k (j := 6) (by decide), ?_⟩, fun e => ?_⟩⟩, m.to (k.2.2.2.2.1.upd (fun q => q = 6 ∨ q = 196 + n) (fun q hq => by rw [u, if_neg (fun z => hq (Or.inl z)), if_neg (fun z => hq (Or.inr z))]) (fun j hj => ?_) ⟨?_, ?_, ?_, ?_, ?_, ?_, ?_⟩) (hW.pace ht) (fun a ha => f a (by omega)), fun a ha => f a (by unfold modA at ha; omega)⟩
  · rw [show I 77 (6 : Int32).toNatClampNeg = nI n from c6, e1, nI_clamp (by omega)]
    refine ⟨vin k (by omega), fun I6 hI6 => ⟨vin k (j := 6) (by decide), vin k (j := 6) (by decide), fun I9 hI9 => ⟨vin k (j := 6) (by decide), ?_, ?_⟩⟩⟩
    · have z : I9 77 (6 : Int32).toNatClampNeg = I6 77 (6 : Int32).toNatClampNeg + 1 := by rw [hI9, rw1_s]; rfl
      have z2 : I6 77 (6 : Int32).toNatClampNeg = nI n := by
        rw [hI6, rw1_s]
        show (if 6 = 196 + n then nI v0 else I 77 6) = _
        rw [if_neg (by omega)]; exact c6
      rw [z, z2, nI_1]
    · have z2 : I6 77 (6 : Int32).toNatClampNeg = nI n := by
        rw [hI6, rw1_s]
        show (if 6 = 196 + n then nI v0 else I 77 6) = _
        rw [if_neg (by omega)]; exact c6
      rw [hI9, z2, nI_1, hI6, hJ, rw1_s]; rfl
  · rw [show I 77 (6 : Int32).toNatClampNeg = nI n from c6] at e
    exact absurd ((nI_eq (b := 6) (by omega) (by decide)).mp e) (by omega)
  · by_cases hj3 : j = 10
    · subst hj3
      refine Or.inr ⟨?_, fun q v hv => ?_⟩
      · rw [rw1_s, List.length_append, List.length_singleton, ← hn]; show n + 1 ≤ 6; omega
      · rw [rw1_s] at hv
        show J 77 (196 + 1 * q) = nI v
        rcases getElem_app hv with h1 | ⟨rfl, rfl⟩
        · have hql := (List.getElem?_eq_some_iff.mp h1).1
          rw [u, if_neg (by omega), if_neg (by omega)]
          exact k.at 10 (by decide) h1
        · rw [u, if_neg (by omega), if_pos (by omega)]
    · exact Or.inl ⟨rw1_n _ _ hj3, fun q hq => by rcases mpos k.2.1 hj hq with z | z | z | z | z | z | z | z | z | z | z <;> omega⟩
  · rw [u, if_neg (by decide), if_neg (by omega)]; exact c0
  · rw [u, if_neg (by decide), if_neg (by omega)]; exact c1
  · rw [u, if_neg (by decide), if_neg (by omega)]; exact c2
  · rw [u, if_neg (by decide), if_neg (by omega)]; exact c3
  · rw [u, if_neg (by decide), if_neg (by omega)]; exact c4
  · rw [u, if_neg (by decide), if_neg (by omega)]; exact c5
  · rw [u, if_pos rfl, rw1_s, List.length_append, List.length_singleton, ← hn]
theorem mo_carrierN (m : MB Z I w h S tx) {x : Int32} (hn : ¬ ((∃ v, x = nI v ∧ v ≤ 9) ∧ (S 10).length < 6)) : Cl g 2 mu_X12_carrier [rf g 76, .int x] (Z, I, L) (some (.int (-1))) (Z, I, L) := by
  obtain ⟨k, hW, hr⟩ := id m
  obtain ⟨hM, c0, c1, c2, c3, c4, c5, c6⟩ := k.2.2.2.2.1
  have hl3 : (S 10).length ≤ 6 := k.len 10 (by decide)
  have ci := sp_isIn (g := g) (Z := Z) (I := I) (L := L) x 0 9
  refine cp_X12_carrier (k.1.k 76 12 (by decide) (by decide)) (k.1.r 76 0 77 (by decide)) (k.1.k 77 13 (by decide) (by decide)) ⟨_, ci, fun _ => ⟨rfl, rfl⟩, fun e => ⟨vin k (j := 6) (by decide), fun e2 => ?_, fun _ => ⟨rfl, rfl⟩⟩⟩
  by_cases h2 : ¬ x < 0 ∧ ¬ (9 : Int32) < x
  · refine absurd ⟨(in9 x).mp h2, ?_⟩ hn
    rcases Nat.lt_or_ge (S 10).length 6 with z | z
    · exact z
    · exact absurd (by rw [show I 77 (6 : Int32).toNatClampNeg = nI (S 10).length from c6, show (S 10).length = 6 by omega]; rfl) e2
  · exact absurd (if_neg h2) e
end MSIDE
