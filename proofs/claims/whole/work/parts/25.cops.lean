/-! the class's calls on its state -/
section COPS
variable {g : GE} {Z : Zs} {I : Nat → Nat → Int32} {L : Nat → Nat → Int64} {w h : Nat} {S : Nat → List Nat} {tx : List TX}
theorem CL.to {I1 : Nat → Nat → Int32} {S1 : Nat → List Nat} (c : CL Z I w h S tx) (k1 : CS Z I1 w h S1 tx) (hW1 : WF w h S1 tx) (h0 : S1 0 = S 0) (hf : ∀ a, a = 13 ∨ a = 15 ∨ a = 67 → I1 a = I a) : CL Z I1 w h S1 tx := by
  obtain ⟨k, hW, hm, hN, hK⟩ := c
  refine ⟨k1, hW1, hm.kept (by rw [hf 13 (Or.inl rfl)]) (hf 15 (Or.inr (Or.inl rfl))), hN, fun hb p tap h1 h2 h3 => ?_⟩
  rw [hf 67 (Or.inr (Or.inr rfl)), h0]
  exact hK hb p tap h1 h2 h3
/-- 0 or 1, by what it says -/
theorem ite_1 {c : Prop} [Decidable c] (h : c) : ¬ (if c then (1 : Int32) else 0) = 0 := by rw [if_pos h]; decide
theorem ite_0 {c : Prop} [Decidable c] (h : ¬ c) : (if c then (1 : Int32) else 0) = 0 := if_neg h
theorem nI_in0 {n m : Nat} (h : n < m) (hm : m < 2 ^ 31) : ¬ nI n < 0 ∧ nI n < nI m := ⟨nI_pos (by omega), nI_lt h hm⟩
theorem in0_nI {x : Int32} {m : Nat} (hm : m < 2 ^ 31) (h : ¬ x < 0 ∧ x < nI m) : ∃ n, x = nI n ∧ n < m := by
  obtain ⟨n, hn, rfl⟩ := nI_of h.1
  exact ⟨n, rfl, (nI_ltI hn hm).mp h.2⟩
theorem b2i_1 {b : Bool} (h : b = true) : ¬ b2i b = 0 := by rw [h]; decide
theorem b2i_f {b : Bool} (h : ¬ b = true) : b2i b = 0 := by cases b; rfl; exact absurd rfl h
/-- when pair() takes it -/
def vPair (w h : Nat) (S : Nat → List Nat) (tx : List TX) (x1 x2 : Int32) : Prop := (∃ p, x1 = nI p ∧ isP w h S p) ∧ (∃ hb, x2 = nI hb ∧ hb < tx.length) ∧ (S 1).length < 6
theorem op_pair (c : CL Z I w h S tx) {p hb : Nat} (hp : isP w h S p) (hh : hb < tx.length) (hl : (S 1).length < 6) : ∃ I1, Cl g 3 mu_X11_pair [rf g 0, .int (nI p), .int (nI hb)] (Z, I, L) (some (.int (nI (S 1).length))) (Z, I1, L) ∧ CL Z I1 w h (rw1 (rw1 S 1 (S 1 ++ [p])) 2 (S 2 ++ [hb])) tx ∧ ∀ a, ¬ nowA a → I1 a = I a := by
  obtain ⟨k, hW, -⟩ := id c
  have hx4 := k.2.2.2.2.2.2.2.1
  have h3 : (S 1).length = (S 2).length := hW.2.2.1
  obtain ⟨b, p1, p2⟩ := sp_isPose (g := g) (L := L) k hW (nI p)
  obtain ⟨I1, c1, c2, c3⟩ := sp_add (g := g) (L := L) (k.il 1 (by decide)) p
  rw [if_pos (show (S 1).length < cpF w h 1 from hl)] at c2
  have k1 := k.upd (by decide) c2 c3
  obtain ⟨I2, d1, d2, d3⟩ := sp_add (g := g) (L := L) (k1.il 2 (by decide)) hb
  rw [rw1_n _ _ (by decide), if_pos (show (S 2).length < cpF w h 2 from by show (S 2).length < 6; omega)] at d2
  have k2 := k1.upd (by decide) d2 d3
  have ef : ∀ a, ¬ nowA a → I2 a = I a := fun a ha => by
    unfold nowA at ha
    rw [d3 a (by show a ≠ 21; omega) (by show a ≠ 22; omega), c3 a (by show a ≠ 19; omega) (by show a ≠ 20; omega)]
  refine ⟨I2, cp_X11_pair (k.1.k 0 11 (by decide) (by decide)) (k.1.r 0 0 18 (by decide)) (k.1.k 18 8 (by decide) (by decide)) (k.1.r 18 3 19 (by decide)) (k.1.k 19 2 (by decide) (by decide)) (k.1.r 18 4 21 (by decide)) (k.1.k 21 2 (by decide) (by decide)) ⟨_, p1, fun e => absurd e (b2i_1 (p2.mpr ⟨p, rfl, hp⟩)), fun _ => ⟨_, sp_isText k _, fun e => absurd e (ite_1 (nI_in0 hh (by omega))), fun _ => ⟨_, sp_size (k.il 1 (by decide)), fun _ => ⟨I1, L, c1, I2, L, d1, _, sp_size (k2.il 1 (by decide)), ?_, rfl⟩, fun e => absurd ((nI_ltI (b := 6) (by omega) (by decide)).mpr hl) e⟩⟩⟩, c.to k2 (hW.pair hp hh) rfl (fun a ha => ?_), ef⟩
  · show some (Value.int (nI (S 1).length)) = some (Value.int (nI (S 1 ++ [p]).length - 1))
    rw [List.length_append, List.length_singleton, nI_pred]
  · rw [d3 a (by show a ≠ 21; omega) (by show a ≠ 22; omega), c3 a (by show a ≠ 19; omega) (by show a ≠ 20; omega)]
theorem op_pairN (c : CL Z I w h S tx) {x1 x2 : Int32} (hn : ¬ vPair w h S tx x1 x2) : Cl g 3 mu_X11_pair [rf g 0, .int x1, .int x2] (Z, I, L) (some (.int (-1))) (Z, I, L) := by
  obtain ⟨k, hW, -⟩ := id c
  have hx4 := k.2.2.2.2.2.2.2.1
  have hl1 : (S 1).length ≤ 6 := (k.il 1 (by decide)).2.2.2.2.2.1
  obtain ⟨b, p1, p2⟩ := sp_isPose (g := g) (L := L) k hW x1
  have mk := @cp_X11_pair g Z I L (some (.int (-1))) (Z, I, L) 0 x1 x2 18 19 21 (k.1.k 0 11 (by decide) (by decide)) (k.1.r 0 0 18 (by decide)) (k.1.k 18 8 (by decide) (by decide)) (k.1.r 18 3 19 (by decide)) (k.1.k 19 2 (by decide) (by decide)) (k.1.r 18 4 21 (by decide)) (k.1.k 21 2 (by decide) (by decide))
  by_cases h1 : b = true
  · by_cases h2 : ¬ x2 < 0 ∧ x2 < nI tx.length
    · by_cases h3 : (S 1).length < 6
      · exact absurd ⟨p2.mp h1, in0_nI (by omega) h2, h3⟩ hn
      · exact mk ⟨_, p1, fun e => absurd e (b2i_1 h1), fun _ => ⟨_, sp_isText k _, fun e => absurd e (ite_1 h2), fun _ => ⟨_, sp_size (k.il 1 (by decide)), fun e => absurd ((nI_ltI (b := 6) (by omega) (by decide)).mp e) h3, fun _ => ⟨rfl, rfl⟩⟩⟩⟩
    · exact mk ⟨_, p1, fun e => absurd e (b2i_1 h1), fun _ => ⟨_, sp_isText k _, fun _ => ⟨rfl, rfl⟩, fun e => absurd (ite_0 h2) e⟩⟩
  · exact mk ⟨_, p1, fun _ => ⟨rfl, rfl⟩, fun e => absurd (b2i_f h1) e⟩
/-- row() -/
theorem op_row0 (c : CL Z I w h S tx) : ∃ I1, Cl g 3 mu_X11_row [rf g 0, .int (-1)] (Z, I, L) (some (.int 0)) (Z, I1, L) ∧ CL Z I1 w h (rw1 S 3 []) tx ∧ ∀ a, ¬ nowA a → I1 a = I a := by
  obtain ⟨k, hW, -⟩ := id c
  obtain ⟨I1, c1, c2, c3⟩ := sp_cutTo (g := g) (L := L) (k.il 3 (by decide)) 0
  have k1 : CS Z I1 w h (rw1 S 3 []) tx := k.upd (by decide) c2 (fun a h1 _ => c3 a h1)
  exact ⟨I1, cp_X11_row (k.1.k 0 11 (by decide) (by decide)) (k.1.r 0 0 18 (by decide)) (k.1.k 18 8 (by decide) (by decide)) (k.1.r 18 5 23 (by decide)) (k.1.k 23 2 (by decide) (by decide)) ⟨fun e => absurd rfl e, fun _ => ⟨I1, L, c1, rfl, rfl⟩⟩, c.to k1 hW.row0 rfl (fun a ha => c3 a (by show a ≠ 23; omega)), fun a ha => c3 a (by unfold nowA at ha; show a ≠ 23; omega)⟩
theorem op_row (c : CL Z I w h S tx) {tap : Nat} (ht : tap < 4) (hl : (S 3).length < 16) : ∃ I1, Cl g 3 mu_X11_row [rf g 0, .int (nI tap)] (Z, I, L) (some (.int (nI ((S 3).length + 1)))) (Z, I1, L) ∧ CL Z I1 w h (rw1 S 3 (S 3 ++ [tap])) tx ∧ ∀ a, ¬ nowA a → I1 a = I a := by
  obtain ⟨k, hW, -⟩ := id c
  obtain ⟨I1, c1, c2, c3⟩ := sp_add (g := g) (L := L) (k.il 3 (by decide)) tap
  rw [if_pos (show (S 3).length < cpF w h 3 from hl)] at c2
  have k1 := k.upd (by decide) c2 c3
  have hsz := sp_size (g := g) (L := L) (k1.il 3 (by decide))
  rw [rw1_s, List.length_append, List.length_singleton] at hsz
  exact ⟨I1, cp_X11_row (k.1.k 0 11 (by decide) (by decide)) (k.1.r 0 0 18 (by decide)) (k.1.k 18 8 (by decide) (by decide)) (k.1.r 18 5 23 (by decide)) (k.1.k 23 2 (by decide) (by decide)) ⟨fun _ => ⟨_, sp_isTap _, fun e => absurd e (ite_1 (nI_in0 (m := 4) ht (by decide))), fun _ => ⟨_, sp_size (k.il 3 (by decide)), fun _ => ⟨I1, L, c1, _, hsz, rfl, rfl⟩, fun e => absurd ((nI_ltI (b := 16) (by omega) (by decide)).mpr hl) e⟩⟩, fun e => absurd e (nI_ne_m1 (by omega))⟩, c.to k1 (hW.row ht) rfl (fun a ha => c3 a (by show a ≠ 23; omega) (by show a ≠ 24; omega)), fun a ha => c3 a (by unfold nowA at ha; show a ≠ 23; omega) (by unfold nowA at ha; show a ≠ 24; omega)⟩
theorem op_rowN (c : CL Z I w h S tx) {x : Int32} (h1 : ¬ x = -1) (hn : ¬ ((∃ tap, x = nI tap ∧ tap < 4) ∧ (S 3).length < 16)) : Cl g 3 mu_X11_row [rf g 0, .int x] (Z, I, L) (some (.int (-1))) (Z, I, L) := by
  obtain ⟨k, hW, -⟩ := id c
  have hl3 : (S 3).length ≤ 16 := (k.il 3 (by decide)).2.2.2.2.2.1
  have mk := @cp_X11_row g Z I L (some (.int (-1))) (Z, I, L) 0 x 18 23 (k.1.k 0 11 (by decide) (by decide)) (k.1.r 0 0 18 (by decide)) (k.1.k 18 8 (by decide) (by decide)) (k.1.r 18 5 23 (by decide)) (k.1.k 23 2 (by decide) (by decide))
  by_cases h2 : ¬ x < 0 ∧ x < 4
  · by_cases h3 : (S 3).length < 16
    · exact absurd ⟨in0_nI (m := 4) (by decide) h2, h3⟩ hn
    · exact mk ⟨fun _ => ⟨_, sp_isTap _, fun e => absurd e (ite_1 h2), fun _ => ⟨_, sp_size (k.il 3 (by decide)), fun e => absurd ((nI_ltI (b := 16) (by omega) (by decide)).mp e) h3, fun _ => ⟨rfl, rfl⟩⟩⟩, fun e => absurd e h1⟩
  · exact mk ⟨fun _ => ⟨_, sp_isTap _, fun _ => ⟨rfl, rfl⟩, fun e => absurd (ite_0 h2) e⟩, fun e => absurd e h1⟩
/-- goes() -/
def vGoes (w h : Nat) (S : Nat → List Nat) (tx : List TX) (x1 x2 x3 : Int32) : Prop := (∃ hb, x1 = nI hb ∧ hb < tx.length) ∧ (∃ p, x2 = nI p ∧ isP w h S p) ∧ ∃ tap, x3 = nI tap ∧ tap < 4
theorem op_goes (c : CL Z I w h S tx) {hb p tap : Nat} {t : TX} (ht : tx[hb]? = some t) (hp : isP w h S p) (htap : tap < 4) : ∃ I1, Cl g 6 mu_X11_goes [rf g 0, .int (nI hb), .int (nI p), .int (nI tap)] (Z, I, L) (some (.int (nI (stepF w h (S 0) t p tap)))) (Z, I1, L) ∧ CL Z I1 w h S tx ∧ ∀ a, ¬ nowA a → I1 a = I a := by
  obtain ⟨k, hW, -⟩ := id c
  have hx4 := k.2.2.2.2.2.2.2.1
  have hl := (List.getElem?_eq_some_iff.mp ht).1
  obtain ⟨b, p1, p2⟩ := sp_isPose (g := g) (L := L) k hW (nI p)
  obtain ⟨I1, d1, d2, d3⟩ := sp_step (g := g) (L := L) c ht hp.1 htap
  exact ⟨I1, cp_X11_goes (k.1.k 0 11 (by decide) (by decide)) (k.1.r 0 0 18 (by decide)) (k.1.k 18 8 (by decide) (by decide)) (k.1.r 0 5 66 (by decide)) (k.1.k 66 3 (by decide) (by decide)) ⟨_, sp_isText k _, fun e => absurd e (ite_1 (nI_in0 hl (by omega))), fun _ => ⟨_, p1, fun e => absurd e (b2i_1 (p2.mpr ⟨p, rfl, hp⟩)), fun _ => ⟨_, sp_isTap _, fun _ => ⟨_, I1, L, d1, rfl, rfl⟩, fun e => absurd e (ite_1 (nI_in0 (m := 4) htap (by decide)))⟩⟩⟩, d2, fun a ha => by unfold nowA at ha; exact d3 a (by omega) (by omega) (by omega) (by omega)⟩
theorem op_goesN (c : CL Z I w h S tx) {x1 x2 x3 : Int32} (hn : ¬ vGoes w h S tx x1 x2 x3) : Cl g 6 mu_X11_goes [rf g 0, .int x1, .int x2, .int x3] (Z, I, L) (some (.int (-1))) (Z, I, L) := by
  obtain ⟨k, hW, -⟩ := id c
  have hx4 := k.2.2.2.2.2.2.2.1
  obtain ⟨b, p1, p2⟩ := sp_isPose (g := g) (L := L) k hW x2
  have mk := @cp_X11_goes g Z I L (some (.int (-1))) (Z, I, L) 0 x1 x2 x3 18 66 (k.1.k 0 11 (by decide) (by decide)) (k.1.r 0 0 18 (by decide)) (k.1.k 18 8 (by decide) (by decide)) (k.1.r 0 5 66 (by decide)) (k.1.k 66 3 (by decide) (by decide))
  by_cases h1 : ¬ x1 < 0 ∧ x1 < nI tx.length
  · by_cases h2 : b = true
    · by_cases h3 : ¬ x3 < 0 ∧ x3 < 4
      · exact absurd ⟨in0_nI (by omega) h1, p2.mp h2, in0_nI (m := 4) (by decide) h3⟩ hn
      · exact mk ⟨_, sp_isText k _, fun e => absurd e (ite_1 h1), fun _ => ⟨_, p1, fun e => absurd e (b2i_1 h2), fun _ => ⟨_, sp_isTap _, fun e => absurd (ite_0 h3) e, fun _ => ⟨rfl, rfl⟩⟩⟩⟩
    · exact mk ⟨_, sp_isText k _, fun e => absurd e (ite_1 h1), fun _ => ⟨_, p1, fun _ => ⟨rfl, rfl⟩, fun e => absurd (b2i_f h2) e⟩⟩
  · exact mk ⟨_, sp_isText k _, fun _ => ⟨rfl, rfl⟩, fun e => absurd (ite_0 h1) e⟩
end COPS
