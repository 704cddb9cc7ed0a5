/-! the model's calls on its state -/
def modA (a : Nat) : Prop := a = 77 ∨ (82 ≤ a ∧ a ≤ 98)
theorem mpos {w h f k : Nat} (hwh : wh w h) (hf : f < 11) (hk : k < cpF w h f) : (f = 0 ∧ mB f + mDl f * k = 10 + k ∧ k < 25) ∨ (f = 1 ∧ mB f + mDl f * k = 35 + 2 * k ∧ k < 6) ∨ (f = 2 ∧ mB f + mDl f * k = 36 + 2 * k ∧ k < 6) ∨ (f = 3 ∧ mB f + mDl f * k = 50 + k ∧ k < 16) ∨ (f = 4 ∧ mB f + mDl f * k = 70 + 2 * k ∧ k < 30) ∨ (f = 5 ∧ mB f + mDl f * k = 71 + 2 * k ∧ k < 30) ∨ (f = 6 ∧ mB f + mDl f * k = 130 + 3 * k ∧ k < 20) ∨ (f = 7 ∧ mB f + mDl f * k = 131 + 3 * k ∧ k < 20) ∨ (f = 8 ∧ mB f + mDl f * k = 132 + 3 * k ∧ k < 20) ∨ (f = 9 ∧ mB f + mDl f * k = 190 + k ∧ k < 6) ∨ (f = 10 ∧ mB f + mDl f * k = 196 + k ∧ k < 6) := by
  have hm := hwh.mul
  have cs : f = 0 ∨ f = 1 ∨ f = 2 ∨ f = 3 ∨ f = 4 ∨ f = 5 ∨ f = 6 ∨ f = 7 ∨ f = 8 ∨ f = 9 ∨ f = 10 := by omega
  rcases cs with rfl | rfl | rfl | rfl | rfl | rfl | rfl | rfl | rfl | rfl | rfl
  · have hk : k < w * h := hk
    exact Or.inl ⟨rfl, by show 10 + 1 * k = 10 + k; omega, by omega⟩
  · exact Or.inr (Or.inl ⟨rfl, rfl, hk⟩)
  · exact Or.inr (Or.inr (Or.inl ⟨rfl, rfl, hk⟩))
  · exact Or.inr (Or.inr (Or.inr (Or.inl ⟨rfl, by show 50 + 1 * k = 50 + k; omega, hk⟩)))
  · exact Or.inr (Or.inr (Or.inr (Or.inr (Or.inl ⟨rfl, rfl, hk⟩))))
  · exact Or.inr (Or.inr (Or.inr (Or.inr (Or.inr (Or.inl ⟨rfl, rfl, hk⟩)))))
  · exact Or.inr (Or.inr (Or.inr (Or.inr (Or.inr (Or.inr (Or.inl ⟨rfl, rfl, hk⟩))))))
  · exact Or.inr (Or.inr (Or.inr (Or.inr (Or.inr (Or.inr (Or.inr (Or.inl ⟨rfl, rfl, hk⟩)))))))
  · exact Or.inr (Or.inr (Or.inr (Or.inr (Or.inr (Or.inr (Or.inr (Or.inr (Or.inl ⟨rfl, rfl, hk⟩))))))))
  · exact Or.inr (Or.inr (Or.inr (Or.inr (Or.inr (Or.inr (Or.inr (Or.inr (Or.inr (Or.inl ⟨rfl, by show 190 + 1 * k = 190 + k; omega, hk⟩)))))))))
  · exact Or.inr (Or.inr (Or.inr (Or.inr (Or.inr (Or.inr (Or.inr (Or.inr (Or.inr (Or.inr ⟨rfl, by show 196 + 1 * k = 196 + k; omega, hk⟩)))))))))
section MOPS
variable {g : GE} {Z : Zs} {I : Nat → Nat → Int32} {L : Nat → Nat → Int64} {w h : Nat} {S : Nat → List Nat} {tx : List TX}
theorem MR.upd {I1 : Nat → Nat → Int32} {S1 : Nat → List Nat} {arr n : Nat} (hM : MR I arr w h S n) (D : Nat → Prop) (hD : ∀ q, ¬ D q → I1 arr q = I arr q) (hS : ∀ f, f < 11 → (S1 f = S f ∧ ∀ k, k < cpF w h f → ¬ D (mB f + mDl f * k)) ∨ ((S1 f).length ≤ cpF w h f ∧ ∀ (k : Nat) v, (S1 f)[k]? = some v → I1 arr (mB f + mDl f * k) = nI v)) (hc : I1 arr 0 = nI (S1 1).length ∧ I1 arr 1 = nI n ∧ I1 arr 2 = nI (S1 3).length ∧ I1 arr 3 = nI (S1 4).length ∧ I1 arr 4 = nI (S1 6).length ∧ I1 arr 5 = nI (S1 9).length ∧ I1 arr 6 = nI (S1 10).length) : MR I1 arr w h S1 n := by
  refine ⟨fun f hf => ?_, hc⟩
  rcases hS f hf with ⟨h1, h2⟩ | h1
  · rw [h1]
    obtain ⟨m1, m2⟩ := hM.1 f hf
    refine ⟨m1, fun k v hk => ?_⟩
    have hl := (List.getElem?_eq_some_iff.mp hk).1
    rw [hD _ (h2 k (by omega))]
    exact m2 k v hk
  · exact h1
theorem MB.to {I1 : Nat → Nat → Int32} {S1 : Nat → List Nat} (m : MB Z I w h S tx) (hM : MR I1 77 w h S1 tx.length) (hW : WF w h S1 tx) (hf : ∀ a, a = 76 ∨ a = 79 ∨ a = 82 → I1 a = I a) : MB Z I1 w h S1 tx := by
  obtain ⟨⟨k0, k1, k2, k3, k4, k5, k6⟩, -, hr⟩ := m
  have e6 := hf 76 (Or.inl rfl)
  have e9 := hf 79 (Or.inr (Or.inl rfl))
  have e2 := hf 82 (Or.inr (Or.inr rfl))
  refine ⟨⟨k0, k1, by rw [e6]; exact k2, by rw [e6]; exact k3, hM, k5, fun j t hj => ?_⟩, hW, fun j hj => by rw [e2]; exact hr j hj⟩
  obtain ⟨h1, h2, h3⟩ := k6 j t hj
  exact ⟨h1.kept e9, h2.kept e9, h3.kept e9⟩
theorem vin (k : MM Z I w h S tx) {j : Nat} (hj : j < 205) : vp_in (nI j) (Z.2.2.1 77) := by rw [k.1.n 77 205 (by decide)]; exact vp_in_nI hj (by decide)
theorem in3 (x : Int32) : (¬ x < 0 ∧ ¬ (3 : Int32) < x) ↔ (¬ x < 0 ∧ x < 4) := in_iff (n := 4) (by decide) (by decide)
theorem in9 (x : Int32) : (¬ x < 0 ∧ ¬ (9 : Int32) < x) ↔ ∃ v, x = nI v ∧ v ≤ 9 := by
  constructor
  · rintro ⟨h1, h2⟩
    obtain ⟨v, hv, rfl⟩ := nI_of h1
    exact ⟨v, rfl, Nat.le_of_not_lt (fun z => h2 ((nI_ltI (a := 9) (by decide) hv).mpr z))⟩
  · rintro ⟨v, rfl, hv⟩
    exact ⟨nI_pos (by omega), fun z => absurd ((nI_ltI (a := 9) (by decide) (by omega)).mp z) (by omega)⟩
theorem mo_row0 (m : MB Z I w h S tx) : ∃ I1, Cl g 2 mu_X12_row [rf g 76, .int (-1)] (Z, I, L) (some (.int 0)) (Z, I1, L) ∧ MB Z I1 w h (rw1 S 3 []) tx ∧ ∀ a, ¬ modA a → I1 a = I a := by
  obtain ⟨k, hW, hr⟩ := id m
  obtain ⟨hM, c0, c1, c2, c3, c4, c5, c6⟩ := k.2.2.2.2.1
  have f : ∀ a, a ≠ 77 → rw1 I 77 (upd (I 77) 2 0) a = I a := fun a ha => rw1_n _ _ ha
  have u : ∀ q, rw1 I 77 (upd (I 77) 2 0) 77 q = if q = 2 then 0 else I 77 q := fun q => by rw [rw1_s]; rfl
  refine ⟨rw1 I 77 (upd (I 77) 2 0), cp_X12_row (k.1.k 76 12 (by decide) (by decide)) (k.1.r 76 0 77 (by decide)) (k.1.k 77 13 (by decide) (by decide)) ⟨fun e => absurd rfl e, fun _ => ⟨vin k (j := 2) (by decide), fun I12 hI12 => ⟨rfl, by rw [hI12]; rfl⟩⟩⟩, m.to (k.2.2.2.2.1.upd (fun q => q = 2) (fun q hq => by rw [u, if_neg hq]) (fun j hj => ?_) ⟨?_, ?_, ?_, ?_, ?_, ?_, ?_⟩) hW.row0 (fun a ha => f a (by omega)), fun a ha => f a (by unfold modA at ha; omega)⟩
  · by_cases hj3 : j = 3
    · subst hj3
      exact Or.inr ⟨Nat.zero_le _, fun k v hv => by rw [rw1_s] at hv; cases hv⟩
    · exact Or.inl ⟨rw1_n _ _ hj3, fun q hq => by rcases mpos k.2.1 hj hq with z | z | z | z | z | z | z | z | z | z | z <;> omega⟩
  · rw [u, if_neg (by decide)]; exact c0
  · rw [u, if_neg (by decide)]; exact c1
  · rw [u, if_pos rfl]; rfl
  · rw [u, if_neg (by decide)]; exact c3
  · rw [u, if_neg (by decide)]; exact c4
  · rw [u, if_neg (by decide)]; exact c5
  · rw [u, if_neg (by decide)]; exact c6
theorem mo_row (m : MB Z I w h S tx) {tap : Nat} (ht : tap < 4) (hl : (S 3).length < 16) : ∃ I1, Cl g 2 mu_X12_row [rf g 76, .int (nI tap)] (Z, I, L) (some (.int (nI ((S 3).length + 1)))) (Z, I1, L) ∧ MB Z I1 w h (rw1 S 3 (S 3 ++ [tap])) tx ∧ ∀ a, ¬ modA a → I1 a = I a := by
  obtain ⟨k, hW, hr⟩ := id m
  obtain ⟨hM, c0, c1, c2, c3, c4, c5, c6⟩ := k.2.2.2.2.1
  obtain ⟨n, hn⟩ : ∃ n, n = (S 3).length := ⟨_, rfl⟩
  rw [← hn] at hl c2 ⊢
  obtain ⟨J, hJ⟩ : ∃ J, J = rw1 (rw1 I 77 (upd (I 77) (50 + n) (nI tap))) 77 (upd (upd (I 77) (50 + n) (nI tap)) 2 (nI (n + 1))) := ⟨_, rfl⟩
  have f : ∀ a, a ≠ 77 → J a = I a := fun a ha => by rw [hJ, rw1_n _ _ ha, rw1_n _ _ ha]
  have u : ∀ q, J 77 q = if q = 2 then nI (n + 1) else if q = 50 + n then nI tap else I 77 q := fun q => by rw [hJ, rw1_s]; rfl
  have e1 : (50 : Int32) + nI n = nI (50 + n) := nI_add 50 n
  have ci := sp_isIn (g := g) (Z := Z) (I := I) (L := L) (nI tap) 0 3
  rw [if_pos ((in3 _).mpr (nI_in0 (m := 4) ht (by decide)))] at ci
  refine ⟨J, cp_X12_row (k.1.k 76 12 (by decide) (by decide)) (k.1.r 76 0 77 (by decide)) (k.1.k 77 13 (by decide) (by decide)) ⟨fun _ => ⟨_, ci, fun e => absurd e (by decide), fun _ => ⟨vin k (j := 2) (by decide), fun _ => ⟨vin k (j := 2) (by decide), ?_⟩, fun e => ?_⟩⟩, fun e => absurd e (nI_ne_m1 (by omega))⟩, m.to (k.2.2.2.2.1.upd (fun q => q = 2 ∨ q = 50 + n) (fun q hq => by rw [u, if_neg (fun z => hq (Or.inl z)), if_neg (fun z => hq (Or.inr z))]) (fun j hj => ?_) ⟨?_, ?_, ?_, ?_, ?_, ?_, ?_⟩) (hW.row ht) (fun a ha => f a (by omega)), fun a ha => f a (by unfold modA at ha; omega)⟩
  · rw [show I 77 (2 : Int32).toNatClampNeg = nI n from c2, e1, nI_clamp (by omega)]
    refine ⟨vin k (by omega), fun I6 hI6 => ⟨vin k (j := 2) (by decide), vin k (j := 2) (by decide), fun I9 hI9 => ⟨vin k (j := 2) (by decide), ?_, ?_⟩⟩⟩
    · have z : I9 77 (2 : Int32).toNatClampNeg = I6 77 (2 : Int32).toNatClampNeg + 1 := by rw [hI9, rw1_s]; rfl
      have z2 : I6 77 (2 : Int32).toNatClampNeg = nI n := by
        rw [hI6, rw1_s]
        show (if 2 = 50 + n then nI tap else I 77 2) = _
        rw [if_neg (by omega)]; exact c2
      rw [z, z2, nI_1]
    · have z2 : I6 77 (2 : Int32).toNatClampNeg = nI n := by
        rw [hI6, rw1_s]
        show (if 2 = 50 + n then nI tap else I 77 2) = _
        rw [if_neg (by omega)]; exact c2
      rw [hI9, z2, nI_1, hI6, hJ, rw1_s]; rfl
  · rw [show I 77 (2 : Int32).toNatClampNeg = nI n from c2] at e
    exact absurd ((nI_eq (b := 16) (by omega) (by decide)).mp e) (by omega)
  · by_cases hj3 : j = 3
    · subst hj3
      refine Or.inr ⟨?_, fun q v hv => ?_⟩
      · rw [rw1_s, List.length_append, List.length_singleton, ← hn]; show n + 1 ≤ 16; omega
      · rw [rw1_s] at hv
        show J 77 (50 + 1 * q) = nI v
        rcases getElem_app hv with h1 | ⟨rfl, rfl⟩
        · have hql := (List.getElem?_eq_some_iff.mp h1).1
          rw [u, if_neg (by omega), if_neg (by omega)]
          exact k.at 3 (by decide) h1
        · rw [u, if_neg (by omega), if_pos (by omega)]
    · exact Or.inl ⟨rw1_n _ _ hj3, fun q hq => by rcases mpos k.2.1 hj hq with z | z | z | z | z | z | z | z | z | z | z <;> omega⟩
  · rw [u, if_neg (by decide), if_neg (by omega)]; exact c0
  · rw [u, if_neg (by decide), if_neg (by omega)]; exact c1
  · rw [u, if_pos rfl, rw1_s, List.length_append, List.length_singleton, ← hn]
  · rw [u, if_neg (by decide), if_neg (by omega)]; exact c3
  · rw [u, if_neg (by decide), if_neg (by omega)]; exact c4
  · rw [u, if_neg (by decide), if_neg (by omega)]; exact c5
  · rw [u, if_neg (by decide), if_neg (by omega)]; exact c6
theorem mo_rowN (m : MB Z I w h S tx) {x : Int32} (h1 : ¬ x = -1) (hn : ¬ ((∃ tap, x = nI tap ∧ tap < 4) ∧ (S 3).length < 16)) : Cl g 2 mu_X12_row [rf g 76, .int x] (Z, I, L) (some (.int (-1))) (Z, I, L) := by
  obtain ⟨k, hW, hr⟩ := id m
  obtain ⟨hM, c0, c1, c2, c3, c4, c5, c6⟩ := k.2.2.2.2.1
  have hl3 : (S 3).length ≤ 16 := k.len 3 (by decide)
  have ci := sp_isIn (g := g) (Z := Z) (I := I) (L := L) x 0 3
  refine cp_X12_row (k.1.k 76 12 (by decide) (by decide)) (k.1.r 76 0 77 (by decide)) (k.1.k 77 13 (by decide) (by decide)) ⟨fun _ => ⟨_, ci, fun _ => ⟨rfl, rfl⟩, fun e => ⟨vin k (j := 2) (by decide), fun e2 => ?_, fun _ => ⟨rfl, rfl⟩⟩⟩, fun e => absurd e h1⟩
  by_cases h2 : ¬ x < 0 ∧ ¬ (3 : Int32) < x
  · refine absurd ⟨in0_nI (m := 4) (by decide) ((in3 x).mp h2), ?_⟩ hn
    rcases Nat.lt_or_ge (S 3).length 16 with z | z
    · exact z
    · exact absurd (by rw [show I 77 (2 : Int32).toNatClampNeg = nI (S 3).length from c2, show (S 3).length = 16 by omega]; rfl) e2
  · exact absurd (if_neg h2) e
end MOPS
