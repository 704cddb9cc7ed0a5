/-! the model's undo, cell -/
section MOPS4
variable {g : GE} {Z : Zs} {I : Nat → Nat → Int32} {L : Nat → Nat → Int64} {w h : Nat} {S : Nat → List Nat} {tx : List TX}
theorem getElem_take {xs : List Nat} {n i x : Nat} (h : (xs.take n)[i]? = some x) : i < n ∧ xs[i]? = some x := by
  have hl := (List.getElem?_eq_some_iff.mp h).1
  rw [List.length_take] at hl
  rw [List.getElem?_take_of_lt (by omega)] at h
  exact ⟨by omega, h⟩
theorem mo_undo (m : MB Z I w h S tx) (h0 : 0 < (S 4).length) : ∃ I1, Cl g 1 mu_X12_undo [rf g 76] (Z, I, L) (some (.int (nI ((S 4).getD ((S 4).length - 1) 0)))) (Z, I1, L) ∧ MB Z I1 w h (uS S) tx ∧ ∀ a, ¬ modA a → I1 a = I a := by
  obtain ⟨k, hW, hr⟩ := id m
  obtain ⟨hM, c0, c1, c2, c3, c4, c5, c6⟩ := k.2.2.2.2.1
  have h30 : (S 4).length ≤ 30 := k.len 4 (by decide)
  have hl1 : (S 1).length ≤ 6 := k.len 1 (by decide)
  have h45 : (S 4).length = (S 5).length := hW.2.2.2.2.2.2.1
  obtain ⟨n, hn⟩ : ∃ n, n = (S 4).length - 1 := ⟨_, rfl⟩
  have hn4 : n < (S 4).length := by omega
  have hq : (S 4).getD n 0 < (S 1).length := hW.2.2.2.2.2.2.2.1 n _ (by rw [List.getElem?_eq_getElem hn4]; simp [List.getD, List.getElem?_eq_getElem hn4])
  have hp : isP w h S ((S 5).getD n 0) := hW.2.2.2.2.2.2.2.2.1 n _ (by rw [List.getElem?_eq_getElem (by omega)]; simp [List.getD, List.getElem?_eq_getElem (show n < (S 5).length by omega)])
  have b4 : I 77 (70 + 2 * n) = nI ((S 4).getD n 0) := k.atD 4 (by decide) hn4
  have b5 : I 77 (71 + 2 * n) = nI ((S 5).getD n 0) := k.atD 5 (by decide) (by omega)
  have hW3 := (hW.stand (q := (S 4).getD n 0) hp).unstep n
  have ey : nI (S 4).length - 1 = nI n := by rw [hn]; exact pk_sub (b := 1) (by omega)
  unfold uS
  rw [← hn]
  obtain ⟨q, eq⟩ : ∃ q, q = (S 4).getD n 0 := ⟨_, rfl⟩
  obtain ⟨p, ep⟩ : ∃ p, p = (S 5).getD n 0 := ⟨_, rfl⟩
  rw [← eq] at hq b4 hW3 ⊢
  rw [← ep] at b5 hp hW3 ⊢
  obtain ⟨J1, j1⟩ : ∃ J, J = rw1 I 77 (upd (I 77) 3 (nI n)) := ⟨_, rfl⟩
  obtain ⟨J2, j2⟩ : ∃ J, J = rw1 J1 77 (upd (J1 77) (35 + 2 * q) (nI p)) := ⟨_, rfl⟩
  have u1 : ∀ i, J1 77 i = if i = 3 then nI n else I 77 i := fun i => by rw [j1, r77]
  have u : ∀ i, J2 77 i = if i = 35 + 2 * q then nI p else if i = 3 then nI n else I 77 i := fun i => by rw [j2, r77, u1]
  have f : ∀ a, a ≠ 77 → J2 a = I a := fun a ha => by rw [j2, o77 ha, j1, o77 ha]
  have v3 := vin k (j := 3) (by decide)
  refine ⟨J2, cp_X12_undo (k.1.k 76 12 (by decide) (by decide)) (k.1.r 76 0 77 (by decide)) (k.1.k 77 13 (by decide) (by decide)) ⟨v3, fun _ => ⟨v3, v3, fun I4 h4 => ?_⟩, fun e => ?_⟩, m.to (k.2.2.2.2.1.upd (fun i => i = 35 + 2 * q ∨ i = 3) (fun i hi => by rw [u, if_neg (by omega), if_neg (by omega)]) (fun j hj => ?_) ⟨?_, ?_, ?_, ?_, ?_, ?_, ?_⟩) hW3 (fun a ha => f a (by omega)), fun a ha => f a (by unfold modA at ha; omega)⟩
  · rw [show I 77 (3 : Int32).toNatClampNeg = nI (S 4).length from c3, ey] at h4
    have h4 : I4 = J1 := h4.trans j1.symm
    subst h4
    have z : I4 77 (3 : Int32).toNatClampNeg = nI n := by show I4 77 3 = nI n; rw [u1, if_pos rfl]
    rw [z, e70, nI_1, nI_clamp (by omega), nI_clamp (by omega)]
    refine ⟨v3, vin k (by omega), fun y hy => ?_⟩
    rw [u1, if_neg (by omega), b4] at hy
    subst hy
    rw [e35, nI_clamp (by omega), show I4 77 (70 + 2 * n + 1) = nI p from by rw [u1, if_neg (by omega), show 70 + 2 * n + 1 = 71 + 2 * n by omega]; exact b5]
    exact ⟨v3, vin k (by omega), vin k (by omega), fun I11 h11 => ⟨rfl, by rw [h11, j2]⟩⟩
  · rw [show I 77 (3 : Int32).toNatClampNeg = nI (S 4).length from c3] at e
    exact absurd ((nI_eq (b := 0) (by omega) (by decide)).mp e) (by omega)
  · by_cases hj1 : j = 1
    · subst hj1
      refine Or.inr ⟨?_, fun i x hx => ?_⟩
      · show ((S 1).set q p).length ≤ 6
        rw [List.length_set]; exact hl1
      · have hx : ((S 1).set q p)[i]? = some x := hx
        show J2 77 (35 + 2 * i) = nI x
        rcases getElem_set hx with ⟨rfl, rfl⟩ | ⟨h1, h2⟩
        · rw [u, if_pos rfl]
        · rw [u, if_neg (by omega), if_neg (by omega)]
          exact k.at 1 (by decide) h2
    · by_cases hj4 : j = 4
      · subst hj4
        refine Or.inr ⟨?_, fun i x hx => ?_⟩
        · show ((S 4).take n).length ≤ 30
          rw [List.length_take]; omega
        · have hx : ((S 4).take n)[i]? = some x := hx
          obtain ⟨g1, g2⟩ := getElem_take hx
          show J2 77 (70 + 2 * i) = nI x
          rw [u, if_neg (by omega), if_neg (by omega)]
          exact k.at 4 (by decide) g2
      · by_cases hj5 : j = 5
        · subst hj5
          refine Or.inr ⟨?_, fun i x hx => ?_⟩
          · show ((S 5).take n).length ≤ 30
            rw [List.length_take]; omega
          · have hx : ((S 5).take n)[i]? = some x := hx
            obtain ⟨g1, g2⟩ := getElem_take hx
            show J2 77 (71 + 2 * i) = nI x
            rw [u, if_neg (by omega), if_neg (by omega)]
            exact k.at 5 (by decide) g2
        · exact Or.inl ⟨by rw [rw1_n _ _ hj5, rw1_n _ _ hj4, rw1_n _ _ hj1], fun i hi => by rcases mpos k.2.1 hj hi with z | z | z | z | z | z | z | z | z | z | z <;> omega⟩
  · rw [u, if_neg (by omega), if_neg (by decide)]
    show I 77 0 = nI ((S 1).set q p).length
    rw [List.length_set]; exact c0
  · rw [u, if_neg (by omega), if_neg (by decide)]; exact c1
  · rw [u, if_neg (by omega), if_neg (by decide)]; exact c2
  · rw [u, if_neg (by omega), if_pos rfl]
    show nI n = nI ((S 4).take n).length
    rw [List.length_take, show min n (S 4).length = n by omega]
  · rw [u, if_neg (by omega), if_neg (by decide)]; exact c4
  · rw [u, if_neg (by omega), if_neg (by decide)]; exact c5
  · rw [u, if_neg (by omega), if_neg (by decide)]; exact c6
theorem mo_undoN (m : MB Z I w h S tx) (h0 : (S 4).length = 0) : Cl g 1 mu_X12_undo [rf g 76] (Z, I, L) (some (.int (-1))) (Z, I, L) := by
  obtain ⟨k, hW, hr⟩ := id m
  obtain ⟨hM, c0, c1, c2, c3, c4, c5, c6⟩ := k.2.2.2.2.1
  refine cp_X12_undo (k.1.k 76 12 (by decide) (by decide)) (k.1.r 76 0 77 (by decide)) (k.1.k 77 13 (by decide) (by decide)) ⟨vin k (j := 3) (by decide), fun e => absurd ?_ e, fun _ => ⟨rfl, rfl⟩⟩
  rw [show I 77 (3 : Int32).toNatClampNeg = nI (S 4).length from c3, h0]; rfl
/-- the loop of the model's cell(): no pair stands there -/
theorem ce_run (k : MM Z I w h S tx) (hW : WF w h S tx) {p kind : Nat} (hp : p < w * h) (hk : kind ≤ 3) {r : Option Value} {M' : Mem} : ∀ (d j : Nat), j + d = (S 1).length →
    (if kind = 1 ∧ ((S 1).drop j).any (fun v => decide (nI (v / 4) = nI p)) = true then r = some (.int 0) ∧ M' = (Z, I, L) else r = some (.int 1) ∧ M' = (Z, rw1 (rw1 I 77 (upd (I 77) (10 + p) (nI kind))) 77 (upd (rw1 I 77 (upd (I 77) (10 + p) (nI kind)) 77) 3 0), L)) → Lp_X12_cell_21 g 3 76 (nI p) (nI kind) (nI j) (Z, I, L) r M' := by
  obtain ⟨hM, c0, c1, c2, c3, c4, c5, c6⟩ := k.2.2.2.2.1
  have hl1 : (S 1).length ≤ 6 := k.len 1 (by decide)
  have hmul := k.2.1.mul
  intro d
  induction d with
  | zero =>
    intro j hj hc
    rw [List.drop_eq_nil_of_le (by omega)] at hc
    rw [if_neg (by simp)] at hc
    refine wp_X12_cell_21 (k.1.k 76 12 (by decide) (by decide)) (k.1.r 76 0 77 (by decide)) (k.1.k 77 13 (by decide) (by decide)) ⟨vin k (j := 0) (by decide), fun _ => ?_, fun e => ?_⟩
    · rw [show (10 : Int32) + nI p = nI (10 + p) from nI_add 10 p, nI_clamp (by omega)]
      refine ⟨vin k (by omega), fun I3 h3 => ⟨vin k (j := 3) (by decide), fun I5 h5 => ?_⟩⟩
      rw [h5, h3]; exact hc
    · rw [show I 77 (0 : Int32).toNatClampNeg = nI (S 1).length from c0] at e
      exact absurd (nI_le (show (S 1).length ≤ j by omega) (by omega)) e
  | succ d ih =>
    intro j hj hc
    have hjl : j < (S 1).length := by omega
    have hpj := hW.pose hjl
    have h100 : (S 1).getD j 0 < 100 := by have := hpj.1; omega
    rw [List.drop_eq_getElem_cons hjl, List.any_cons, show (S 1)[j] = (S 1).getD j 0 by simp [List.getD, List.getElem?_eq_getElem hjl]] at hc
    refine wp_X12_cell_21 (k.1.k 76 12 (by decide) (by decide)) (k.1.r 76 0 77 (by decide)) (k.1.k 77 13 (by decide) (by decide)) ⟨vin k (j := 0) (by decide), fun e => ?_, fun _ => ⟨fun e y hy => ?_, fun e => ⟨_, ms_poseOf k hjl, fun e2 y hy => ?_, fun e2 => ?_⟩⟩⟩
    · rw [show I 77 (0 : Int32).toNatClampNeg = nI (S 1).length from c0] at e
      exact absurd e (nI_ge hjl (by omega))
    · rw [hy, nI_1]
      have hk1 : ¬ kind = 1 := fun z => e (by rw [z]; rfl)
      rw [if_neg (fun z => hk1 z.1)] at hc
      exact ih (j + 1) (by omega) (by rw [if_neg (fun z => hk1 z.1)]; exact hc)
    · rw [hy, nI_1]
      rw [show nI ((S 1).getD j 0) / 4 = nI ((S 1).getD j 0 / 4) from pk_div (d := 4) (by omega) (by decide) (by decide)] at e2
      rw [decide_eq_false e2, Bool.false_or] at hc
      exact ih (j + 1) (by omega) hc
    · rw [show nI ((S 1).getD j 0) / 4 = nI ((S 1).getD j 0 / 4) from pk_div (d := 4) (by omega) (by decide) (by decide)] at e2
      rw [decide_eq_true e2, Bool.true_or] at hc
      have ek : kind = 1 := (nI_eq (b := 1) (by omega) (by decide)).mp e
      rw [if_pos ⟨ek, rfl⟩] at hc
      exact hc
theorem mo_cell (m : MB Z I w h S tx) {p kind : Nat} (hp : p < w * h) (hk : kind ≤ 3) (hn : ¬ (kind = 1 ∧ hasP S (nI p) = true)) : ∃ I1, Cl g 3 mu_X12_cell [rf g 76, .int (nI p), .int (nI kind)] (Z, I, L) (some (.int 1)) (Z, I1, L) ∧ MB Z I1 w h (cS S p kind) tx ∧ ∀ a, ¬ modA a → I1 a = I a := by
  obtain ⟨k, hW, hr⟩ := id m
  obtain ⟨hM, c0, c1, c2, c3, c4, c5, c6⟩ := k.2.2.2.2.1
  have hmul := k.2.1.mul
  have hW3 : WF w h (cS S p kind) tx := hW.cell hk (fun e => hasP_no hW k.2.1 hp (fun z => hn ⟨e, z⟩))
  obtain ⟨J, hJ⟩ : ∃ J, J = rw1 (rw1 I 77 (upd (I 77) (10 + p) (nI kind))) 77 (upd (rw1 I 77 (upd (I 77) (10 + p) (nI kind)) 77) 3 0) := ⟨_, rfl⟩
  have u : ∀ i, J 77 i = if i = 3 then 0 else if i = 10 + p then nI kind else I 77 i := fun i => by rw [hJ, r77, r77]
  have f : ∀ a, a ≠ 77 → J a = I a := fun a ha => by rw [hJ, o77 ha, o77 ha]
  have ci := sp_in0 (g := g) (Z := Z) (I := I) (L := L) (nI kind) (n := 4) (by decide)
  refine ⟨J, cp_X12_cell (k.1.k 76 12 (by decide) (by decide)) ⟨_, ms_isCell k _, fun e => absurd e (ite_1 (nI_in0 hp (by omega))), fun _ => ⟨_, ci, fun _ => ce_run k hW hp hk _ 0 (Nat.zero_add _) ?_, fun e => absurd e (ite_1 (nI_in0 (m := 4) (by omega) (by decide)))⟩⟩, m.to (k.2.2.2.2.1.upd (fun i => i = 3 ∨ i = 10 + p) (fun i hi => by rw [u, if_neg (by omega), if_neg (by omega)]) (fun j hj => ?_) ⟨?_, ?_, ?_, ?_, ?_, ?_, ?_⟩) hW3 (fun a ha => f a (by omega)), fun a ha => f a (by unfold modA at ha; omega)⟩
  · have hn' : ¬ (kind = 1 ∧ ((S 1).drop 0).any (fun v => decide (nI (v / 4) = nI p)) = true) := hn
    rw [if_neg hn']; exact ⟨rfl, by rw [hJ]⟩
  · by_cases hj0 : j = 0
    · subst hj0
      refine Or.inr ⟨?_, fun i x hx => ?_⟩
      · show ((S 0).set p kind).length ≤ _
        rw [List.length_set]; exact k.len 0 (by decide)
      · have hx : ((S 0).set p kind)[i]? = some x := hx
        show J 77 (10 + 1 * i) = nI x
        rcases getElem_set hx with ⟨rfl, rfl⟩ | ⟨h1, h2⟩
        · rw [u, if_neg (by omega), if_pos (by omega)]
        · rw [u, if_neg (by omega), if_neg (by omega)]
          exact k.at 0 (by decide) h2
    · by_cases hj4 : j = 4
      · subst hj4
        refine Or.inr ⟨Nat.zero_le _, fun i x hx => ?_⟩
        have hx : ([] : List Nat)[i]? = some x := hx
        cases hx
      · by_cases hj5 : j = 5
        · subst hj5
          refine Or.inr ⟨Nat.zero_le _, fun i x hx => ?_⟩
          have hx : ([] : List Nat)[i]? = some x := hx
          cases hx
        · exact Or.inl ⟨by show rw1 (rw1 (rw1 S 0 ((S 0).set p kind)) 4 []) 5 [] j = S j; rw [rw1_n _ _ hj5, rw1_n _ _ hj4, rw1_n _ _ hj0], fun i hi => by rcases mpos k.2.1 hj hi with z | z | z | z | z | z | z | z | z | z | z <;> omega⟩
  · rw [u, if_neg (by decide), if_neg (by omega)]; exact c0
  · rw [u, if_neg (by decide), if_neg (by omega)]; exact c1
  · rw [u, if_neg (by decide), if_neg (by omega)]; exact c2
  · rw [u, if_pos rfl]; rfl
  · rw [u, if_neg (by decide), if_neg (by omega)]; exact c4
  · rw [u, if_neg (by decide), if_neg (by omega)]; exact c5
  · rw [u, if_neg (by decide), if_neg (by omega)]; exact c6
theorem mo_cellN (m : MB Z I w h S tx) {x1 x2 : Int32} (hn : ¬ vCell w h S x1 x2) : Cl g 3 mu_X12_cell [rf g 76, .int x1, .int x2] (Z, I, L) (some (.int 0)) (Z, I, L) := by
  obtain ⟨k, hW, hr⟩ := id m
  have hmul := k.2.1.mul
  have mk := @cp_X12_cell g Z I L (some (.int 0)) (Z, I, L) 76 x1 x2 (k.1.k 76 12 (by decide) (by decide))
  by_cases h1 : ¬ x1 < 0 ∧ x1 < nI (w * h)
  · by_cases h2 : ¬ x2 < 0 ∧ x2 < 4
    · obtain ⟨p, rfl, hp⟩ := in0_nI (by omega) h1
      obtain ⟨kind, rfl, hkd⟩ := in0_nI (m := 4) (by decide) h2
      have hbad : nI kind = 1 ∧ hasP S (nI p) = true := Classical.not_not.mp (fun z => hn ⟨⟨p, rfl, hp⟩, ⟨kind, rfl, by omega⟩, z⟩)
      have ek : kind = 1 := (nI_eq (b := 1) (by omega) (by decide)).mp hbad.1
      refine mk ⟨_, ms_isCell k _, fun e => absurd e (ite_1 h1), fun _ => ⟨_, ci_tap _, fun _ => ce_run k hW hp (by omega) _ 0 (Nat.zero_add _) ?_, fun e => absurd e (ite_1 h2)⟩⟩
      have hb' : kind = 1 ∧ ((S 1).drop 0).any (fun v => decide (nI (v / 4) = nI p)) = true := ⟨ek, hbad.2⟩
      rw [if_pos hb']; exact ⟨rfl, rfl⟩
    · exact mk ⟨_, ms_isCell k _, fun e => absurd e (ite_1 h1), fun _ => ⟨_, ci_tap _, fun e => absurd (ite_0 h2) e, fun _ => ⟨rfl, rfl⟩⟩⟩
  · exact mk ⟨_, ms_isCell k _, fun _ => ⟨rfl, rfl⟩, fun e => absurd (ite_0 h1) e⟩
end MOPS4
