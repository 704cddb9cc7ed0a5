/-! the model's seen, goes, tap, walk -/
section MOPS3
variable {g : GE} {Z : Zs} {I : Nat → Nat → Int32} {L : Nat → Nat → Int64} {w h : Nat} {S : Nat → List Nat} {tx : List TX}
theorem e130 (n : Nat) : (130 : Int32) + 3 * nI n = nI (130 + 3 * n) := by rw [show (3 : Int32) * nI n = nI (3 * n) from pk_mul 3 n]; exact nI_add 130 _
theorem mo_seen (m : MB Z I w h S tx) {p tap q : Nat} (hp : isP w h S p) (ht : tap < 4) (hq : isP w h S q) (hl : (S 6).length < 20) : ∃ I1, Cl g 3 mu_X12_seen [rf g 76, .int (nI p), .int (nI tap), .int (nI q)] (Z, I, L) (some (.int (nI ((S 6).length + 1)))) (Z, I1, L) ∧ MB Z I1 w h (rw1 (rw1 (rw1 S 6 (S 6 ++ [p])) 7 (S 7 ++ [tap])) 8 (S 8 ++ [q])) tx ∧ ∀ a, ¬ modA a → I1 a = I a := by
  obtain ⟨k, hW, hr⟩ := id m
  obtain ⟨hM, c0, c1, c2, c3, c4, c5, c6⟩ := k.2.2.2.2.1
  have l7 : (S 6).length = (S 7).length := hW.2.2.2.2.2.2.2.2.2.1
  have l8 : (S 6).length = (S 8).length := hW.2.2.2.2.2.2.2.2.2.2.1
  obtain ⟨b, p1, p2⟩ := ms_isPose (g := g) (L := L) k hW (nI p)
  obtain ⟨b', q1, q2⟩ := ms_isPose (g := g) (L := L) k hW (nI q)
  obtain ⟨n, hn⟩ : ∃ n, n = (S 6).length := ⟨_, rfl⟩
  rw [← hn] at hl c4 l7 l8 ⊢
  obtain ⟨J1, j1⟩ : ∃ J, J = rw1 I 77 (upd (I 77) (130 + 3 * n) (nI p)) := ⟨_, rfl⟩
  obtain ⟨J2, j2⟩ : ∃ J, J = rw1 J1 77 (upd (J1 77) (130 + 3 * n + 1) (nI tap)) := ⟨_, rfl⟩
  obtain ⟨J3, j3⟩ : ∃ J, J = rw1 J2 77 (upd (J2 77) (130 + 3 * n + 2) (nI q)) := ⟨_, rfl⟩
  obtain ⟨J4, j4⟩ : ∃ J, J = rw1 J3 77 (upd (J3 77) 4 (nI (n + 1))) := ⟨_, rfl⟩
  have u : ∀ i, J4 77 i = if i = 4 then nI (n + 1) else if i = 130 + 3 * n + 2 then nI q else if i = 130 + 3 * n + 1 then nI tap else if i = 130 + 3 * n then nI p else I 77 i := fun i => by rw [j4, r77, j3, r77, j2, r77, j1, r77]
  have f : ∀ a, a ≠ 77 → J4 a = I a := fun a ha => by rw [j4, o77 ha, j3, o77 ha, j2, o77 ha, j1, o77 ha]
  have v4 := vin k (j := 4) (by decide)
  have ci := sp_isIn (g := g) (Z := Z) (I := I) (L := L) (nI tap) 0 3
  rw [if_pos ((in3 _).mpr (nI_in0 (m := 4) ht (by decide)))] at ci
  refine ⟨J4, cp_X12_seen (k.1.k 76 12 (by decide) (by decide)) (k.1.r 76 0 77 (by decide)) (k.1.k 77 13 (by decide) (by decide)) ⟨_, p1, fun e => absurd e (b2i_1 (p2.mpr ⟨p, rfl, hp⟩)), fun _ => ⟨_, ci, fun e => absurd e (by decide), fun _ => ⟨_, q1, fun e => absurd e (b2i_1 (q2.mpr ⟨q, rfl, hq⟩)), fun _ => ⟨v4, fun _ => ⟨v4, fun y hy => ?_⟩, fun e => ?_⟩⟩⟩⟩, m.to (k.2.2.2.2.1.upd (fun i => i = 4 ∨ (130 + 3 * n ≤ i ∧ i ≤ 130 + 3 * n + 2)) (fun i hi => by rw [u, if_neg (by omega), if_neg (by omega), if_neg (by omega), if_neg (by omega)]) (fun j hj => ?_) ⟨?_, ?_, ?_, ?_, ?_, ?_, ?_⟩) (hW.seen hp ht hq) (fun a ha => f a (by omega)), fun a ha => f a (by unfold modA at ha; omega)⟩
  · rw [show I 77 (4 : Int32).toNatClampNeg = nI n from c4, e130] at hy
    subst hy
    rw [nI_1, show nI (130 + 3 * n) + 2 = nI (130 + 3 * n + 2) from nI_add _ 2, nI_clamp (by omega), nI_clamp (by omega), nI_clamp (by omega)]
    refine ⟨vin k (by omega), fun I11 h11 => ⟨vin k (by omega), fun I13 h13 => ⟨vin k (by omega), fun I15 h15 => ⟨v4, v4, fun I18 h18 => ?_⟩⟩⟩⟩
    have h11 : I11 = J1 := h11.trans j1.symm
    subst h11
    have h13 : I13 = J2 := h13.trans j2.symm
    subst h13
    have h15 : I15 = J3 := h15.trans j3.symm
    subst h15
    have z : I15 77 (4 : Int32).toNatClampNeg = nI n := by
      show I15 77 4 = nI n
      rw [j3, r77, if_neg (by omega), j2, r77, if_neg (by omega), j1, r77, if_neg (by omega)]; exact c4
    rw [z, nI_1] at h18
    have h18 : I18 = J4 := h18.trans j4.symm
    subst h18
    refine ⟨v4, ?_, rfl⟩
    rw [show I18 77 (4 : Int32).toNatClampNeg = nI (n + 1) from by show I18 77 4 = _; rw [u, if_pos rfl]]
  · rw [show I 77 (4 : Int32).toNatClampNeg = nI n from c4] at e
    exact absurd ((nI_eq (b := 20) (by omega) (by decide)).mp e) (by omega)
  · by_cases hj6 : j = 6
    · subst hj6
      refine Or.inr ⟨?_, fun i x hx => ?_⟩
      · show (S 6 ++ [p]).length ≤ 20
        rw [List.length_append, List.length_singleton]; omega
      · have hx : (S 6 ++ [p])[i]? = some x := hx
        show J4 77 (130 + 3 * i) = nI x
        rcases getElem_app hx with h1 | ⟨rfl, rfl⟩
        · have hil := (List.getElem?_eq_some_iff.mp h1).1
          rw [u, if_neg (by omega), if_neg (by omega), if_neg (by omega), if_neg (by omega)]
          exact k.at 6 (by decide) h1
        · rw [u, if_neg (by omega), if_neg (by omega), if_neg (by omega), if_pos (by omega)]
    · by_cases hj7 : j = 7
      · subst hj7
        refine Or.inr ⟨?_, fun i x hx => ?_⟩
        · show (S 7 ++ [tap]).length ≤ 20
          rw [List.length_append, List.length_singleton]; omega
        · have hx : (S 7 ++ [tap])[i]? = some x := hx
          show J4 77 (131 + 3 * i) = nI x
          rcases getElem_app hx with h1 | ⟨rfl, rfl⟩
          · have hil := (List.getElem?_eq_some_iff.mp h1).1
            rw [u, if_neg (by omega), if_neg (by omega), if_neg (by omega), if_neg (by omega)]
            exact k.at 7 (by decide) h1
          · rw [u, if_neg (by omega), if_neg (by omega), if_pos (by omega)]
      · by_cases hj8 : j = 8
        · subst hj8
          refine Or.inr ⟨?_, fun i x hx => ?_⟩
          · show (S 8 ++ [q]).length ≤ 20
            rw [List.length_append, List.length_singleton]; omega
          · have hx : (S 8 ++ [q])[i]? = some x := hx
            show J4 77 (132 + 3 * i) = nI x
            rcases getElem_app hx with h1 | ⟨rfl, rfl⟩
            · have hil := (List.getElem?_eq_some_iff.mp h1).1
              rw [u, if_neg (by omega), if_neg (by omega), if_neg (by omega), if_neg (by omega)]
              exact k.at 8 (by decide) h1
            · rw [u, if_neg (by omega), if_pos (by omega)]
        · exact Or.inl ⟨by rw [rw1_n _ _ hj8, rw1_n _ _ hj7, rw1_n _ _ hj6], fun i hi => by rcases mpos k.2.1 hj hi with z | z | z | z | z | z | z | z | z | z | z <;> omega⟩
  · rw [u, if_neg (by decide), if_neg (by omega), if_neg (by omega), if_neg (by omega)]; exact c0
  · rw [u, if_neg (by decide), if_neg (by omega), if_neg (by omega), if_neg (by omega)]; exact c1
  · rw [u, if_neg (by decide), if_neg (by omega), if_neg (by omega), if_neg (by omega)]; exact c2
  · rw [u, if_neg (by decide), if_neg (by omega), if_neg (by omega), if_neg (by omega)]; exact c3
  · rw [u, if_pos rfl]
    show nI (n + 1) = nI (S 6 ++ [p]).length
    rw [List.length_append, List.length_singleton, ← hn]
  · rw [u, if_neg (by decide), if_neg (by omega), if_neg (by omega), if_neg (by omega)]; exact c5
  · rw [u, if_neg (by decide), if_neg (by omega), if_neg (by omega), if_neg (by omega)]; exact c6
theorem ci_tap (x : Int32) : Cl g 1 mu_X12_isIn [.int x, .int 0, .int 3] (Z, I, L) (some (.int (if ¬ x < 0 ∧ x < 4 then 1 else 0))) (Z, I, L) := sp_in0 (g := g) (Z := Z) (I := I) (L := L) x (n := 4) (by decide)
theorem mo_seenN (m : MB Z I w h S tx) {x1 x2 x3 : Int32} (hn : ¬ vSeen w h S x1 x2 x3) : Cl g 3 mu_X12_seen [rf g 76, .int x1, .int x2, .int x3] (Z, I, L) (some (.int (-1))) (Z, I, L) := by
  obtain ⟨k, hW, hr⟩ := id m
  obtain ⟨hM, c0, c1, c2, c3, c4, c5, c6⟩ := k.2.2.2.2.1
  have hl6 : (S 6).length ≤ 20 := k.len 6 (by decide)
  obtain ⟨b, p1, p2⟩ := ms_isPose (g := g) (L := L) k hW x1
  obtain ⟨b', q1, q2⟩ := ms_isPose (g := g) (L := L) k hW x3
  have mk := @cp_X12_seen g Z I L (some (.int (-1))) (Z, I, L) 76 x1 x2 x3 77 (k.1.k 76 12 (by decide) (by decide)) (k.1.r 76 0 77 (by decide)) (k.1.k 77 13 (by decide) (by decide))
  by_cases h1 : b = true
  · by_cases h2 : ¬ x2 < 0 ∧ x2 < 4
    · by_cases h3 : b' = true
      · refine mk ⟨_, p1, fun e => absurd e (b2i_1 h1), fun _ => ⟨_, ci_tap _, fun e => absurd e (ite_1 h2), fun _ => ⟨_, q1, fun e => absurd e (b2i_1 h3), fun _ => ⟨vin k (j := 4) (by decide), fun e => ?_, fun _ => ⟨rfl, rfl⟩⟩⟩⟩⟩
        refine absurd ⟨p2.mp h1, in0_nI (m := 4) (by decide) h2, q2.mp h3, ?_⟩ hn
        rcases Nat.lt_or_ge (S 6).length 20 with z | z
        · exact z
        · exact absurd (by rw [show I 77 (4 : Int32).toNatClampNeg = nI (S 6).length from c4, show (S 6).length = 20 by omega]; rfl) e
      · exact mk ⟨_, p1, fun e => absurd e (b2i_1 h1), fun _ => ⟨_, ci_tap _, fun e => absurd e (ite_1 h2), fun _ => ⟨_, q1, fun _ => ⟨rfl, rfl⟩, fun e => absurd (b2i_f h3) e⟩⟩⟩
    · exact mk ⟨_, p1, fun e => absurd e (b2i_1 h1), fun _ => ⟨_, ci_tap _, fun _ => ⟨rfl, rfl⟩, fun e => absurd (ite_0 h2) e⟩⟩
  · exact mk ⟨_, p1, fun _ => ⟨rfl, rfl⟩, fun e => absurd (b2i_f h1) e⟩
theorem mo_goes (m : MB Z I w h S tx) {hb p tap : Nat} {t : TX} (ht : tx[hb]? = some t) (hp : isP w h S p) (htap : tap < 4) : ∃ I1 L1, Cl g 6 mu_X12_goes [rf g 76, .int (nI hb), .int (nI p), .int (nI tap)] (Z, I, L) (some (.int (nI (stepF w h (S 0) t p tap)))) (Z, I1, L1) ∧ MB Z I1 w h S tx ∧ (∀ a, ¬ modA a → I1 a = I a) ∧ ∀ a, a ≠ 83 → L1 a = L a := by
  obtain ⟨k, hW, hr⟩ := id m
  have hx4 := k.2.2.2.2.2.1
  have hl := (List.getElem?_eq_some_iff.mp ht).1
  obtain ⟨b, p1, p2⟩ := ms_isPose (g := g) (L := L) k hW (nI p)
  obtain ⟨I1, L1, d1, d2, d3, d4⟩ := ms_made (g := g) (L := L) m ht hp.1 htap
  exact ⟨I1, L1, cp_X12_goes (k.1.k 76 12 (by decide) (by decide)) ⟨_, ms_isText k _, fun e => absurd e (ite_1 (nI_in0 hl (by omega))), fun _ => ⟨_, p1, fun e => absurd e (b2i_1 (p2.mpr ⟨p, rfl, hp⟩)), fun _ => ⟨_, ci_tap _, fun e => absurd e (ite_1 (nI_in0 (m := 4) htap (by decide))), fun _ => ⟨_, I1, L1, d1, rfl, rfl⟩⟩⟩⟩, d2, fun a ha => d3 a (by unfold modA at ha; omega) (by unfold modA at ha; omega), d4⟩
theorem mo_goesN (m : MB Z I w h S tx) {x1 x2 x3 : Int32} (hn : ¬ vGoes w h S tx x1 x2 x3) : Cl g 6 mu_X12_goes [rf g 76, .int x1, .int x2, .int x3] (Z, I, L) (some (.int (-1))) (Z, I, L) := by
  obtain ⟨k, hW, hr⟩ := id m
  have hx4 := k.2.2.2.2.2.1
  obtain ⟨b, p1, p2⟩ := ms_isPose (g := g) (L := L) k hW x2
  have mk := @cp_X12_goes g Z I L (some (.int (-1))) (Z, I, L) 76 x1 x2 x3 (k.1.k 76 12 (by decide) (by decide))
  by_cases h1 : ¬ x1 < 0 ∧ x1 < nI tx.length
  · by_cases h2 : b = true
    · by_cases h3 : ¬ x3 < 0 ∧ x3 < 4
      · exact absurd ⟨in0_nI (by omega) h1, p2.mp h2, in0_nI (m := 4) (by decide) h3⟩ hn
      · exact mk ⟨_, ms_isText k _, fun e => absurd e (ite_1 h1), fun _ => ⟨_, p1, fun e => absurd e (b2i_1 h2), fun _ => ⟨_, ci_tap _, fun _ => ⟨rfl, rfl⟩, fun e => absurd (ite_0 h3) e⟩⟩⟩
    · exact mk ⟨_, ms_isText k _, fun e => absurd e (ite_1 h1), fun _ => ⟨_, p1, fun _ => ⟨rfl, rfl⟩, fun e => absurd (b2i_f h2) e⟩⟩
  · exact mk ⟨_, ms_isText k _, fun _ => ⟨rfl, rfl⟩, fun e => absurd (ite_0 h1) e⟩
/-- a pose is written -/
theorem mb_stand (m : MB Z I w h S tx) {q p : Nat} (hq : q < (S 1).length) (hp : isP w h S p) : MB Z (rw1 I 77 (upd (I 77) (35 + 2 * q) (nI p))) w h (rw1 S 1 ((S 1).set q p)) tx := by
  obtain ⟨k, hW, hr⟩ := id m
  obtain ⟨hM, c0, c1, c2, c3, c4, c5, c6⟩ := k.2.2.2.2.1
  have hl1 : (S 1).length ≤ 6 := k.len 1 (by decide)
  have u : ∀ i, rw1 I 77 (upd (I 77) (35 + 2 * q) (nI p)) 77 i = if i = 35 + 2 * q then nI p else I 77 i := fun i => r77 _ _ _ _
  refine m.to (k.2.2.2.2.1.upd (fun i => i = 35 + 2 * q) (fun i hi => by rw [u, if_neg hi]) (fun j hj => ?_) ⟨?_, ?_, ?_, ?_, ?_, ?_, ?_⟩) (hW.stand hp) (fun a ha => o77 (by omega))
  · by_cases hj1 : j = 1
    · subst hj1
      refine Or.inr ⟨?_, fun i x hx => ?_⟩
      · show ((S 1).set q p).length ≤ 6
        rw [List.length_set]; exact hl1
      · have hx : ((S 1).set q p)[i]? = some x := hx
        show rw1 I 77 (upd (I 77) (35 + 2 * q) (nI p)) 77 (35 + 2 * i) = nI x
        rcases getElem_set hx with ⟨rfl, rfl⟩ | ⟨h1, h2⟩
        · rw [u, if_pos rfl]
        · rw [u, if_neg (by omega)]
          exact k.at 1 (by decide) h2
    · exact Or.inl ⟨rw1_n _ _ hj1, fun i hi => by rcases mpos k.2.1 hj hi with z | z | z | z | z | z | z | z | z | z | z <;> omega⟩
  · rw [u, if_neg (by omega)]
    show I 77 0 = nI ((S 1).set q p).length
    rw [List.length_set]; exact c0
  · rw [u, if_neg (by omega)]; exact c1
  · rw [u, if_neg (by omega)]; exact c2
  · rw [u, if_neg (by omega)]; exact c3
  · rw [u, if_neg (by omega)]; exact c4
  · rw [u, if_neg (by omega)]; exact c5
  · rw [u, if_neg (by omega)]; exact c6
theorem mb_keep (m : MB Z I w h S tx) {q : Nat} (hq : q < (S 1).length) : ∃ I1, Cl g 2 mu_X12_keep [rf g 76, .int (nI q)] (Z, I, L) none (Z, I1, L) ∧ MB Z I1 w h (kS S q) tx ∧ ∀ a, a ≠ 77 → I1 a = I a := by
  obtain ⟨k, hW, hr⟩ := id m
  obtain ⟨I1, d1, d2, d3⟩ := ms_keep (g := g) (L := L) k hW hq
  exact ⟨I1, d1, m.to d2 (hW.keep hq (k.len 4 (by decide))) (fun a ha => d3 a (by omega)), d3⟩
theorem rem200 {n : Nat} (hn : n < 1000) : nI n - nI n / 200 * 200 = nI (n % 200) := pk_rem (d := 200) (by omega) (by decide) (by decide)
theorem mo_tap (m : MB Z I w h S tx) {q tap : Nat} {t : TX} (hq : q < (S 1).length) (ht : tap < 4) (htx : tx[(S 2).getD q 0]? = some t) : ∃ I1 L1, Cl g 6 mu_X12_tap [rf g 76, .int (nI q), .int (nI tap)] (Z, I, L) (some (.int (nI (stepF w h (S 0) t ((S 1).getD q 0) tap)))) (Z, I1, L1) ∧ MB Z I1 w h (rw1 (kS S q) 1 ((S 1).set q (stepF w h (S 0) t ((S 1).getD q 0) tap % 200))) tx ∧ (∀ a, ¬ modA a → I1 a = I a) ∧ ∀ a, a ≠ 83 → L1 a = L a := by
  obtain ⟨k, hW, hr⟩ := id m
  have hl1 : (S 1).length ≤ 6 := k.len 1 (by decide)
  have h12 : (S 1).length = (S 2).length := hW.2.2.1
  have hpq := hW.pose hq
  have hst := stepF_lt (K := S 0) (t := t) (tap := tap) k.2.1 hpq.1
  obtain ⟨I1, c1, c2, c3⟩ := mb_keep (g := g) (L := L) m hq
  have ca := ms_habitOf (g := g) (L := L) c2.1 (q := q) (by show q < (S 2).length; omega)
  have cb := ms_poseOf (g := g) (L := L) c2.1 (q := q) hq
  rw [kS_2] at ca
  rw [kS_1] at cb
  obtain ⟨I2, L2, d1, d2, d3, d4⟩ := ms_made (g := g) (L := L) c2 htx hpq.1 ht
  rw [kS_0] at d1
  have e2 := mb_stand d2 (q := q) (p := stepF w h (S 0) t ((S 1).getD q 0) tap % 200) hq (step_isP k.2.1 hW hpq)
  rw [kS_1] at e2
  refine ⟨_, L2, cp_X12_tap (k.1.k 76 12 (by decide) (by decide)) (k.1.r 76 0 77 (by decide)) (k.1.k 77 13 (by decide) (by decide)) ⟨_, ms_isPair k _, fun e => absurd e (ite_1 (nI_in0 hq (by omega))), fun _ => ⟨_, ci_tap _, fun _ => ⟨I1, L, c1, _, ca, _, cb, _, I2, L2, d1, ?_⟩, fun e => absurd e (ite_1 (nI_in0 (m := 4) ht (by decide)))⟩⟩, e2, fun a ha => ?_, d4⟩
  · rw [e35, nI_clamp (by omega), rem200 (by omega)]
    exact ⟨vin k (by omega), fun I17 h17 => ⟨rfl, by rw [h17]⟩⟩
  · unfold modA at ha
    rw [o77 (by omega), d3 a (by omega) (by omega), c3 a (by omega)]
theorem mo_tapN (m : MB Z I w h S tx) {x1 x2 : Int32} (hn : ¬ vTap S x1 x2) : Cl g 6 mu_X12_tap [rf g 76, .int x1, .int x2] (Z, I, L) (some (.int (-1))) (Z, I, L) := by
  obtain ⟨k, hW, hr⟩ := id m
  have hl1 : (S 1).length ≤ 6 := k.len 1 (by decide)
  have mk := @cp_X12_tap g Z I L (some (.int (-1))) (Z, I, L) 76 x1 x2 77 (k.1.k 76 12 (by decide) (by decide)) (k.1.r 76 0 77 (by decide)) (k.1.k 77 13 (by decide) (by decide))
  by_cases h1 : ¬ x1 < 0 ∧ x1 < nI (S 1).length
  · by_cases h2 : ¬ x2 < 0 ∧ x2 < 4
    · exact absurd ⟨in0_nI (by omega) h1, in0_nI (m := 4) (by decide) h2⟩ hn
    · exact mk ⟨_, ms_isPair k _, fun e => absurd e (ite_1 h1), fun _ => ⟨_, ci_tap _, fun e => absurd (ite_0 h2) e, fun _ => ⟨rfl, rfl⟩⟩⟩
  · exact mk ⟨_, ms_isPair k _, fun _ => ⟨rfl, rfl⟩, fun e => absurd (ite_0 h1) e⟩
theorem ci_bump {n : Nat} (hn : n < 1000) : Cl g 1 mu_X12_isIn [.int (nI n), .int 200, .int 399] (Z, I, L) (some (.int (nI (bmp n)))) (Z, I, L) := by
  have ci := sp_isIn (g := g) (Z := Z) (I := I) (L := L) (nI n) 200 399
  have e1 : (nI n < 200) ↔ n < 200 := nI_ltI (b := 200) (by omega) (by decide)
  have e2 : ((399 : Int32) < nI n) ↔ 399 < n := nI_ltI (a := 399) (by decide) (by omega)
  unfold bmp
  by_cases hb : 200 ≤ n ∧ n < 400
  · rw [if_pos (by rw [e1, e2]; omega)] at ci
    rw [if_pos hb]; exact ci
  · rw [if_neg (by rw [e1, e2]; omega)] at ci
    rw [if_neg hb]; exact ci
theorem set_self {xs : List Nat} {q : Nat} (hq : q < xs.length) : xs.set q (xs.getD q 0) = xs := by
  rw [show xs.getD q 0 = xs[q] by simp [List.getD, List.getElem?_eq_getElem hq]]
  exact List.set_getElem_self hq
theorem rw1_self {α : Type} (f : Nat → α) (a : Nat) : rw1 f a (f a) = f := by
  funext x
  by_cases hx : x = a
  · subst hx; exact rw1_s _ _ _
  · exact rw1_n _ _ hx
theorem rw1_2 {α : Type} (f : Nat → α) (a : Nat) (u v : α) : rw1 (rw1 f a u) a v = rw1 f a v := by
  funext x
  by_cases hx : x = a
  · subst hx; rw [rw1_s, rw1_s]
  · rw [rw1_n _ _ hx, rw1_n _ _ hx, rw1_n _ _ hx]
/-- the loop of the model's walk() -/
theorem mw_run {q : Nat} {t : TX} : ∀ (ts : List Nat) (j b : Nat) (I : Nat → Nat → Int32) (L : Nat → Nat → Int64) (S : Nat → List Nat), MB Z I w h S tx → q < (S 1).length → tx[(S 2).getD q 0]? = some t → (S 3).drop j = ts → b + ts.length ≤ 100 → j ≤ (S 3).length →
    ∃ I1 L1, Lp_X12_walk_19 g 6 76 (nI q) (nI b) (nI j) (Z, I, L) (some (.int (nI (walkF w h (S 0) t ts ((S 1).getD q 0) b).2))) (Z, I1, L1) ∧ MB Z I1 w h (rw1 S 1 ((S 1).set q (walkF w h (S 0) t ts ((S 1).getD q 0) b).1)) tx ∧ (∀ a, ¬ modA a → I1 a = I a) ∧ ∀ a, a ≠ 83 → L1 a = L a := by
  intro ts
  induction ts with
  | nil =>
    intro j b I L S m hq htx hd hb hj3
    obtain ⟨k, hW, hr⟩ := id m
    obtain ⟨hM, c0, c1, c2, c3, c4, c5, c6⟩ := k.2.2.2.2.1
    have hl3 : (S 3).length ≤ 16 := k.len 3 (by decide)
    have hj : (S 3).length ≤ j := List.drop_eq_nil_iff.mp hd
    refine ⟨I, L, wp_X12_walk_19 (k.1.k 76 12 (by decide) (by decide)) (k.1.r 76 0 77 (by decide)) (k.1.k 77 13 (by decide) (by decide)) ⟨vin k (j := 2) (by decide), fun _ => ⟨rfl, rfl⟩, fun e => ?_⟩, ?_, fun _ _ => rfl, fun _ _ => rfl⟩
    · rw [show I 77 (2 : Int32).toNatClampNeg = nI (S 3).length from c2] at e
      exact absurd (nI_le hj (by omega)) e
    · show MB Z I w h (rw1 S 1 ((S 1).set q ((S 1).getD q 0))) tx
      rw [set_self hq, rw1_self]; exact m
  | cons tap ts ih =>
    intro j b I L S m hq htx hd hb hj3
    obtain ⟨k, hW, hr⟩ := id m
    obtain ⟨hM, c0, c1, c2, c3, c4, c5, c6⟩ := k.2.2.2.2.1
    have hl1 : (S 1).length ≤ 6 := k.len 1 (by decide)
    have hl3 : (S 3).length ≤ 16 := k.len 3 (by decide)
    have h12 : (S 1).length = (S 2).length := hW.2.2.1
    have hjl : j < (S 3).length := by
      rcases Nat.lt_or_ge j (S 3).length with h1 | h1
      · exact h1
      · rw [List.drop_eq_nil_of_le h1] at hd; cases hd
    rw [List.drop_eq_getElem_cons hjl] at hd
    obtain ⟨h1, h2⟩ := List.cons.inj hd
    have eg : (S 3).getD j 0 = tap := by simp [List.getD, List.getElem?_eq_getElem hjl, h1]
    have ht : tap < 4 := hW.2.2.2.2.2.1 j tap (by rw [List.getElem?_eq_getElem hjl, h1])
    have hp := hW.pose hq
    obtain ⟨p, ep⟩ : ∃ p, p = (S 1).getD q 0 := ⟨_, rfl⟩
    have hst := stepF_lt (K := S 0) (t := t) (tap := tap) k.2.1 hp.1
    obtain ⟨I2, L2, d1, d2, d3, d4⟩ := ms_made (g := g) (L := L) m htx hp.1 ht
    have e2 := mb_stand d2 (q := q) (p := stepF w h (S 0) t ((S 1).getD q 0) tap % 200) hq (step_isP k.2.1 hW hp)
    have hb1 : bmp (stepF w h (S 0) t ((S 1).getD q 0) tap) ≤ 1 := by unfold bmp; split <;> omega
    obtain ⟨I1, L1, f1, f2, f3, f4⟩ := ih (j + 1) (b + bmp (stepF w h (S 0) t ((S 1).getD q 0) tap)) _ L2 _ e2 (by rw [rw1_s, List.length_set]; exact hq) htx h2 (by simp at hb; omega) (by show j + 1 ≤ (S 3).length; omega)
    have hg : ((rw1 S 1 ((S 1).set q (stepF w h (S 0) t ((S 1).getD q 0) tap % 200))) 1).getD q 0 = stepF w h (S 0) t ((S 1).getD q 0) tap % 200 := by
      rw [rw1_s]; simp [List.getD, hq]
    rw [hg] at f1 f2
    rw [rw1_s, List.set_set, rw1_2] at f2
    refine ⟨I1, L1, wp_X12_walk_19 (k.1.k 76 12 (by decide) (by decide)) (k.1.r 76 0 77 (by decide)) (k.1.k 77 13 (by decide) (by decide)) ⟨vin k (j := 2) (by decide), fun e => ?_, fun _ => ⟨_, ms_habitOf k (by omega), _, ms_poseOf k hq, ?_⟩⟩, f2, fun a ha => ?_, fun a ha => by rw [f4 a ha, d4 a ha]⟩
    · rw [show I 77 (2 : Int32).toNatClampNeg = nI (S 3).length from c2] at e
      exact absurd e (nI_ge hjl (by omega))
    · have eI : I 77 (50 + j) = nI tap := by
        have := k.atD 3 (by decide) hjl
        rw [eg, show mB 3 + mDl 3 * j = 50 + j by show 50 + 1 * j = _; omega] at this
        exact this
      rw [show (50 : Int32) + nI j = nI (50 + j) from nI_add 50 j, nI_clamp (by omega), eI]
      refine ⟨vin k (by omega), _, I2, L2, d1, _, ci_bump (by omega), fun e y hy => ?_, fun e y hy => ?_⟩
      · rw [e35, nI_clamp (by omega), rem200 (by omega)]
        refine ⟨vin k (by omega), fun I15 h15 y2 hy2 => ?_⟩
        have : bmp (stepF w h (S 0) t ((S 1).getD q 0) tap) = 0 := by
          rcases Nat.lt_or_ge (bmp (stepF w h (S 0) t ((S 1).getD q 0) tap)) 1 with z | z
          · omega
          · rw [show bmp (stepF w h (S 0) t ((S 1).getD q 0) tap) = 1 by omega] at e
            exact absurd e (by decide)
        rw [this] at f1
        rw [hy, hy2, h15, nI_1, Int32.add_zero, show walkF w h (S 0) t (tap :: ts) ((S 1).getD q 0) b = walkF w h (S 0) t ts (stepF w h (S 0) t ((S 1).getD q 0) tap % 200) (b + bmp (stepF w h (S 0) t ((S 1).getD q 0) tap)) from rfl, this]
        exact f1
      · rw [e35, nI_clamp (by omega), rem200 (by omega)]
        refine ⟨vin k (by omega), fun I15 h15 y2 hy2 => ?_⟩
        have : bmp (stepF w h (S 0) t ((S 1).getD q 0) tap) = 1 := by
          rcases Nat.lt_or_ge (bmp (stepF w h (S 0) t ((S 1).getD q 0) tap)) 1 with z | z
          · rw [show bmp (stepF w h (S 0) t ((S 1).getD q 0) tap) = 0 by omega] at e
            exact absurd rfl e
          · omega
        rw [this] at f1
        rw [hy, hy2, h15, nI_1, nI_1, show walkF w h (S 0) t (tap :: ts) ((S 1).getD q 0) b = walkF w h (S 0) t ts (stepF w h (S 0) t ((S 1).getD q 0) tap % 200) (b + bmp (stepF w h (S 0) t ((S 1).getD q 0) tap)) from rfl, this]
        exact f1
    · rw [f3 a ha]
      unfold modA at ha
      rw [o77 (by omega), d3 a (by omega) (by omega)]
theorem mo_walk (m : MB Z I w h S tx) {q : Nat} {t : TX} (hq : q < (S 1).length) (htx : tx[(S 2).getD q 0]? = some t) : ∃ I1 L1, Cl g 6 mu_X12_walk [rf g 76, .int (nI q)] (Z, I, L) (some (.int (nI (walkF w h (S 0) t (S 3) ((S 1).getD q 0) 0).2))) (Z, I1, L1) ∧ MB Z I1 w h (rw1 (kS S q) 1 ((S 1).set q (walkF w h (S 0) t (S 3) ((S 1).getD q 0) 0).1)) tx ∧ (∀ a, ¬ modA a → I1 a = I a) ∧ ∀ a, a ≠ 83 → L1 a = L a := by
  obtain ⟨k, hW, hr⟩ := id m
  have hl1 : (S 1).length ≤ 6 := k.len 1 (by decide)
  have hl3 : (S 3).length ≤ 16 := k.len 3 (by decide)
  obtain ⟨I1, c1, c2, c3⟩ := mb_keep (g := g) (L := L) m hq
  obtain ⟨I2, L2, d1, d2, d3, d4⟩ := mw_run (g := g) (q := q) (t := t) (S 3) 0 0 I1 L (kS S q) c2 hq htx rfl (by omega) (Nat.zero_le _)
  exact ⟨I2, L2, cp_X12_walk (k.1.k 76 12 (by decide) (by decide)) ⟨_, ms_isPair k _, fun _ => ⟨I1, L, c1, d1⟩, fun e => absurd e (ite_1 (nI_in0 hq (by omega)))⟩, d2, fun a ha => by rw [d3 a ha, c3 a (by unfold modA at ha; omega)], d4⟩
theorem mo_walkN (m : MB Z I w h S tx) {x : Int32} (hn : ¬ ∃ q, x = nI q ∧ q < (S 1).length) : Cl g 6 mu_X12_walk [rf g 76, .int x] (Z, I, L) (some (.int (-1))) (Z, I, L) := by
  obtain ⟨k, hW, hr⟩ := id m
  have hl1 : (S 1).length ≤ 6 := k.len 1 (by decide)
  refine cp_X12_walk (k.1.k 76 12 (by decide) (by decide)) ⟨_, ms_isPair k _, fun e => ?_, fun _ => ⟨rfl, rfl⟩⟩
  by_cases h1 : ¬ x < 0 ∧ x < nI (S 1).length
  · exact absurd (in0_nI (by omega) h1) hn
  · exact absurd (ite_0 h1) e
end MOPS3
