/-! the class's calls on its state, further -/
def bmp (a : Nat) : Nat := if 200 ≤ a ∧ a < 400 then 1 else 0
/-- a row of taps is walked: where, and how many bumps -/
def walkF (w h : Nat) (K : List Nat) (t : TX) : List Nat → Nat → Nat → Nat × Nat
  | [], p, b => (p, b)
  | tap :: ts, p, b => walkF w h K t ts (stepF w h K t p tap % 200) (b + bmp (stepF w h K t p tap))
section COPS2
variable {g : GE} {Z : Zs} {I : Nat → Nat → Int32} {L : Nat → Nat → Int64} {w h : Nat} {S : Nat → List Nat} {tx : List TX}
theorem WF.habit (hW : WF w h S tx) {q : Nat} (hq : q < (S 1).length) : ∃ t, tx[(S 2).getD q 0]? = some t ∧ (S 2).getD q 0 < tx.length := by
  have h2 : q < (S 2).length := by rw [← hW.2.2.1]; exact hq
  have h3 := hW.2.2.2.2.1 q ((S 2).getD q 0) (by rw [List.getElem?_eq_getElem h2]; simp [List.getD, List.getElem?_eq_getElem h2])
  exact ⟨_, List.getElem?_eq_getElem h3, h3⟩
theorem WF.pose (hW : WF w h S tx) {q : Nat} (hq : q < (S 1).length) : isP w h S ((S 1).getD q 0) := hW.2.2.2.1 q _ (by rw [List.getElem?_eq_getElem hq]; simp [List.getD, List.getElem?_eq_getElem hq])
theorem op_seen (c : CL Z I w h S tx) {p tap q : Nat} (hp : isP w h S p) (ht : tap < 4) (hq : isP w h S q) (hl : (S 6).length < 20) : ∃ I1, Cl g 3 mu_X11_seen [rf g 0, .int (nI p), .int (nI tap), .int (nI q)] (Z, I, L) (some (.int (nI ((S 6).length + 1)))) (Z, I1, L) ∧ CL Z I1 w h (rw1 (rw1 (rw1 S 6 (S 6 ++ [p])) 7 (S 7 ++ [tap])) 8 (S 8 ++ [q])) tx ∧ ∀ a, ¬ nowA a → I1 a = I a := by
  obtain ⟨k, hW, -⟩ := id c
  have l7 : (S 6).length = (S 7).length := hW.2.2.2.2.2.2.2.2.2.1
  have l8 : (S 6).length = (S 8).length := hW.2.2.2.2.2.2.2.2.2.2.1
  obtain ⟨b, p1, p2⟩ := sp_isPose (g := g) (L := L) k hW (nI p)
  obtain ⟨b', q1, q2⟩ := sp_isPose (g := g) (L := L) k hW (nI q)
  obtain ⟨I1, c1, c2, c3⟩ := sp_add (g := g) (L := L) (k.il 6 (by decide)) p
  rw [if_pos (show (S 6).length < cpF w h 6 from hl)] at c2
  have k1 := k.upd (by decide) c2 c3
  obtain ⟨I2, d1, d2, d3⟩ := sp_add (g := g) (L := L) (k1.il 7 (by decide)) tap
  rw [rw1_n _ _ (by decide), if_pos (show (S 7).length < cpF w h 7 from by show (S 7).length < 20; omega)] at d2
  have k2 := k1.upd (by decide) d2 d3
  obtain ⟨I3, e1, e2, e3⟩ := sp_add (g := g) (L := L) (k2.il 8 (by decide)) q
  rw [rw1_n _ _ (by decide), rw1_n _ _ (by decide), if_pos (show (S 8).length < cpF w h 8 from by show (S 8).length < 20; omega)] at e2
  have k3 := k2.upd (by decide) e2 e3
  have hsz := sp_size (g := g) (L := L) (k3.il 6 (by decide))
  rw [rw1_n _ _ (by decide), rw1_n _ _ (by decide), rw1_s, List.length_append, List.length_singleton] at hsz
  have ef : ∀ a, (a ≠ 29 ∧ a ≠ 30 ∧ a ≠ 31 ∧ a ≠ 32 ∧ a ≠ 33 ∧ a ≠ 34) → I3 a = I a := fun a ha => by
    rw [e3 a (by show a ≠ 33; omega) (by show a ≠ 34; omega), d3 a (by show a ≠ 31; omega) (by show a ≠ 32; omega), c3 a (by show a ≠ 29; omega) (by show a ≠ 30; omega)]
  exact ⟨I3, cp_X11_seen (k.1.k 0 11 (by decide) (by decide)) (k.1.r 0 0 18 (by decide)) (k.1.k 18 8 (by decide) (by decide)) (k.1.r 18 8 29 (by decide)) (k.1.k 29 2 (by decide) (by decide)) (k.1.r 18 9 31 (by decide)) (k.1.k 31 2 (by decide) (by decide)) (k.1.r 18 10 33 (by decide)) (k.1.k 33 2 (by decide) (by decide)) ⟨_, p1, fun e => absurd e (b2i_1 (p2.mpr ⟨p, rfl, hp⟩)), fun _ => ⟨_, sp_isTap _, fun e => absurd e (ite_1 (nI_in0 (m := 4) ht (by decide))), fun _ => ⟨_, q1, fun e => absurd e (b2i_1 (q2.mpr ⟨q, rfl, hq⟩)), fun _ => ⟨_, sp_size (k.il 6 (by decide)), fun _ => ⟨I1, L, c1, I2, L, d1, I3, L, e1, _, hsz, rfl, rfl⟩, fun e => absurd ((nI_ltI (b := 20) (by omega) (by decide)).mpr hl) e⟩⟩⟩⟩, c.to k3 (hW.seen hp ht hq) rfl (fun a ha => ef a (by omega)), fun a ha => ef a (by unfold nowA at ha; omega)⟩
def vSeen (w h : Nat) (S : Nat → List Nat) (x1 x2 x3 : Int32) : Prop := (∃ p, x1 = nI p ∧ isP w h S p) ∧ (∃ tap, x2 = nI tap ∧ tap < 4) ∧ (∃ q, x3 = nI q ∧ isP w h S q) ∧ (S 6).length < 20
theorem op_seenN (c : CL Z I w h S tx) {x1 x2 x3 : Int32} (hn : ¬ vSeen w h S x1 x2 x3) : Cl g 3 mu_X11_seen [rf g 0, .int x1, .int x2, .int x3] (Z, I, L) (some (.int (-1))) (Z, I, L) := by
  obtain ⟨k, hW, -⟩ := id c
  have hl6 : (S 6).length ≤ 20 := (k.il 6 (by decide)).2.2.2.2.2.1
  obtain ⟨b, p1, p2⟩ := sp_isPose (g := g) (L := L) k hW x1
  obtain ⟨b', q1, q2⟩ := sp_isPose (g := g) (L := L) k hW x3
  have mk := @cp_X11_seen g Z I L (some (.int (-1))) (Z, I, L) 0 x1 x2 x3 18 29 31 33 (k.1.k 0 11 (by decide) (by decide)) (k.1.r 0 0 18 (by decide)) (k.1.k 18 8 (by decide) (by decide)) (k.1.r 18 8 29 (by decide)) (k.1.k 29 2 (by decide) (by decide)) (k.1.r 18 9 31 (by decide)) (k.1.k 31 2 (by decide) (by decide)) (k.1.r 18 10 33 (by decide)) (k.1.k 33 2 (by decide) (by decide))
  by_cases h1 : b = true
  · by_cases h2 : ¬ x2 < 0 ∧ x2 < 4
    · by_cases h3 : b' = true
      · by_cases h4 : (S 6).length < 20
        · exact absurd ⟨p2.mp h1, in0_nI (m := 4) (by decide) h2, q2.mp h3, h4⟩ hn
        · exact mk ⟨_, p1, fun e => absurd e (b2i_1 h1), fun _ => ⟨_, sp_isTap _, fun e => absurd e (ite_1 h2), fun _ => ⟨_, q1, fun e => absurd e (b2i_1 h3), fun _ => ⟨_, sp_size (k.il 6 (by decide)), fun e => absurd ((nI_ltI (b := 20) (by omega) (by decide)).mp e) h4, fun _ => ⟨rfl, rfl⟩⟩⟩⟩⟩
      · exact mk ⟨_, p1, fun e => absurd e (b2i_1 h1), fun _ => ⟨_, sp_isTap _, fun e => absurd e (ite_1 h2), fun _ => ⟨_, q1, fun _ => ⟨rfl, rfl⟩, fun e => absurd (b2i_f h3) e⟩⟩⟩
    · exact mk ⟨_, p1, fun e => absurd e (b2i_1 h1), fun _ => ⟨_, sp_isTap _, fun _ => ⟨rfl, rfl⟩, fun e => absurd (ite_0 h2) e⟩⟩
  · exact mk ⟨_, p1, fun _ => ⟨rfl, rfl⟩, fun e => absurd (b2i_f h1) e⟩
/-- rider(), carrier(): f is 9 or 10 -/
theorem op_side (k : CS Z I w h S tx) {f v : Nat} (hf : f = 9 ∨ f = 10) (hv : v ≤ 9) (hl : (S f).length < 6) : ∃ I1, Cl g 2 mu_X11_addToSide [rf g (nA f), .int (nI v)] (Z, I, L) (some (.int (nI ((S f).length + 1)))) (Z, I1, L) ∧ CS Z I1 w h (rw1 S f (S f ++ [v])) tx ∧ ∀ a, a ≠ nA f → a ≠ nA f + 1 → I1 a = I a := by
  have hf11 : f < 11 := by omega
  have hc : cpF w h f = 6 := by rcases hf with rfl | rfl <;> rfl
  have hil := k.il f hf11
  obtain ⟨I1, c1, c2, c3⟩ := sp_add (g := g) (L := L) hil v
  rw [if_pos (by rw [hc]; exact hl)] at c2
  have k1 := k.upd hf11 c2 c3
  have hsz := sp_size (g := g) (L := L) (k1.il f hf11)
  rw [rw1_s, List.length_append, List.length_singleton] at hsz
  exact ⟨I1, cp_X11_addToSide hil.1 ⟨fun e => absurd e (nI_pos (by omega)), fun _ => ⟨fun e => absurd ((nI_ltI (a := 9) (by decide) (by omega)).mp e) (by omega), fun _ => ⟨_, sp_size hil, fun _ => ⟨I1, L, c1, _, hsz, rfl, rfl⟩, fun e => absurd ((nI_ltI (b := 6) (by omega) (by decide)).mpr hl) e⟩⟩⟩, k1, c3⟩
theorem op_sideN (k : CS Z I w h S tx) {f : Nat} {x : Int32} (hf : f = 9 ∨ f = 10) (hn : ¬ ((∃ v, x = nI v ∧ v ≤ 9) ∧ (S f).length < 6)) : Cl g 2 mu_X11_addToSide [rf g (nA f), .int x] (Z, I, L) (some (.int (-1))) (Z, I, L) := by
  have hf11 : f < 11 := by omega
  have hc : cpF w h f = 6 := by rcases hf with rfl | rfl <;> rfl
  have hil := k.il f hf11
  have hl6 : (S f).length ≤ 6 := by have := hil.2.2.2.2.2.1; omega
  refine cp_X11_addToSide hil.1 ⟨fun _ => ⟨rfl, rfl⟩, fun h1 => ⟨fun _ => ⟨rfl, rfl⟩, fun h2 => ⟨_, sp_size hil, fun h3 => absurd ⟨?_, (nI_ltI (b := 6) (by omega) (by decide)).mp h3⟩ hn, fun _ => ⟨rfl, rfl⟩⟩⟩⟩
  obtain ⟨v, hv, rfl⟩ := nI_of h1
  exact ⟨v, rfl, Nat.le_of_not_lt (fun z => h2 ((nI_ltI (a := 9) (by decide) hv).mpr z))⟩
theorem op_rider (c : CL Z I w h S tx) {v : Nat} (hv : v ≤ 9) (hl : (S 9).length < 6) : ∃ I1, Cl g 3 mu_X11_rider [rf g 0, .int (nI v)] (Z, I, L) (some (.int (nI ((S 9).length + 1)))) (Z, I1, L) ∧ CL Z I1 w h (rw1 S 9 (S 9 ++ [v])) tx ∧ ∀ a, ¬ nowA a → I1 a = I a := by
  obtain ⟨k, hW, -⟩ := id c
  obtain ⟨I1, c1, c2, c3⟩ := op_side (g := g) (L := L) k (Or.inl rfl) hv hl
  exact ⟨I1, cp_X11_rider (k.1.k 0 11 (by decide) (by decide)) (k.1.r 0 0 18 (by decide)) (k.1.k 18 8 (by decide) (by decide)) (k.1.r 18 11 35 (by decide)) (k.1.k 35 2 (by decide) (by decide)) ⟨_, I1, L, c1, rfl, rfl⟩, c.to c2 (hW.sight hv) rfl (fun a ha => c3 a (by show a ≠ 35; omega) (by show a ≠ 36; omega)), fun a ha => c3 a (by unfold nowA at ha; show a ≠ 35; omega) (by unfold nowA at ha; show a ≠ 36; omega)⟩
theorem op_riderN (c : CL Z I w h S tx) {x : Int32} (hn : ¬ ((∃ v, x = nI v ∧ v ≤ 9) ∧ (S 9).length < 6)) : Cl g 3 mu_X11_rider [rf g 0, .int x] (Z, I, L) (some (.int (-1))) (Z, I, L) :=
  cp_X11_rider (c.1.1.k 0 11 (by decide) (by decide)) (c.1.1.r 0 0 18 (by decide)) (c.1.1.k 18 8 (by decide) (by decide)) (c.1.1.r 18 11 35 (by decide)) (c.1.1.k 35 2 (by decide) (by decide)) ⟨_, I, L, op_sideN c.1 (Or.inl rfl) hn, rfl, rfl⟩
theorem op_carrier (c : CL Z I w h S tx) {v : Nat} (hv : v ≤ 9) (hl : (S 10).length < 6) : ∃ I1, Cl g 3 mu_X11_carrier [rf g 0, .int (nI v)] (Z, I, L) (some (.int (nI ((S 10).length + 1)))) (Z, I1, L) ∧ CL Z I1 w h (rw1 S 10 (S 10 ++ [v])) tx ∧ ∀ a, ¬ nowA a → I1 a = I a := by
  obtain ⟨k, hW, -⟩ := id c
  obtain ⟨I1, c1, c2, c3⟩ := op_side (g := g) (L := L) k (Or.inr rfl) hv hl
  exact ⟨I1, cp_X11_carrier (k.1.k 0 11 (by decide) (by decide)) (k.1.r 0 0 18 (by decide)) (k.1.k 18 8 (by decide) (by decide)) (k.1.r 18 12 37 (by decide)) (k.1.k 37 2 (by decide) (by decide)) ⟨_, I1, L, c1, rfl, rfl⟩, c.to c2 (hW.pace hv) rfl (fun a ha => c3 a (by show a ≠ 37; omega) (by show a ≠ 38; omega)), fun a ha => c3 a (by unfold nowA at ha; show a ≠ 37; omega) (by unfold nowA at ha; show a ≠ 38; omega)⟩
theorem op_carrierN (c : CL Z I w h S tx) {x : Int32} (hn : ¬ ((∃ v, x = nI v ∧ v ≤ 9) ∧ (S 10).length < 6)) : Cl g 3 mu_X11_carrier [rf g 0, .int x] (Z, I, L) (some (.int (-1))) (Z, I, L) :=
  cp_X11_carrier (c.1.1.k 0 11 (by decide) (by decide)) (c.1.1.r 0 0 18 (by decide)) (c.1.1.k 18 8 (by decide) (by decide)) (c.1.1.r 18 12 37 (by decide)) (c.1.1.k 37 2 (by decide) (by decide)) ⟨_, I, L, op_sideN c.1 (Or.inr rfl) hn, rfl, rfl⟩
/-- of() -/
def ofF (S : Nat → List Nat) (x1 x2 : Int32) : Int32 := if ¬ x1 < 0 ∧ x1 < nI (S 1).length then (if x2 = 0 then nI ((S 1).getD x1.toNatClampNeg 0) else if x2 = 1 then nI ((S 2).getD x1.toNatClampNeg 0) else -1) else -1
theorem op_of (c : CL Z I w h S tx) (x1 x2 : Int32) : Cl g 3 mu_X11_of [rf g 0, .int x1, .int x2] (Z, I, L) (some (.int (ofF S x1 x2))) (Z, I, L) := by
  obtain ⟨k, hW, -⟩ := id c
  have hl1 : (S 1).length ≤ 6 := (k.il 1 (by decide)).2.2.2.2.2.1
  refine cp_X11_of (k.1.k 0 11 (by decide) (by decide)) (k.1.r 0 0 18 (by decide)) (k.1.k 18 8 (by decide) (by decide)) (k.1.r 18 4 21 (by decide)) (k.1.k 21 2 (by decide) (by decide)) (k.1.r 18 3 19 (by decide)) (k.1.k 19 2 (by decide) (by decide)) ⟨_, sp_isPair k x1, fun e => ?_, fun e => ⟨?_, rfl⟩⟩
  · by_cases hx : ¬ x1 < 0 ∧ x1 < nI (S 1).length
    · unfold ofF
      rw [if_pos hx]
      obtain ⟨n, rfl, hn⟩ := in0_nI (by omega) hx
      refine ⟨fun h1 => ⟨fun h2 => ⟨?_, rfl⟩, fun h2 => ⟨_, sp_at (k.il 2 (by decide)) _, ?_, rfl⟩⟩, fun h1 => ⟨_, sp_at (k.il 1 (by decide)) _, ?_, rfl⟩⟩
      · rw [if_neg h1, if_neg h2]
      · rw [if_neg h1, if_pos h2, atL_n _ (by omega), nI_clamp (by omega)]
      · rw [if_pos h1, atL_n _ (by omega), nI_clamp (by omega)]
    · exact absurd (ite_0 hx) e
  · unfold ofF
    by_cases hx : ¬ x1 < 0 ∧ x1 < nI (S 1).length
    · exact absurd e (ite_1 hx)
    · rw [if_neg hx]
end COPS2
