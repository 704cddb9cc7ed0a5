/-! the class's tap, walk, undo, cell -/
section COPS3
variable {g : GE} {Z : Zs} {I : Nat → Nat → Int32} {L : Nat → Nat → Int64} {w h : Nat} {S : Nat → List Nat} {tx : List TX}
/-- the state with a step kept -/
abbrev kS (S : Nat → List Nat) (q : Nat) : Nat → List Nat := rw1 (rw1 S 4 (keepL (S 4) q)) 5 (keepL (S 5) ((S 1).getD q 0))
theorem cl_keep (c : CL Z I w h S tx) {q : Nat} (hq : q < (S 1).length) : ∃ I1, Cl g 3 mu_X8_keepStep [rf g 18, .int (nI q)] (Z, I, L) none (Z, I1, L) ∧ CL Z I1 w h (kS S q) tx ∧ ∀ a, ¬ nowA a → I1 a = I a := by
  obtain ⟨k, hW, -⟩ := id c
  have h30 : (S 4).length ≤ 30 := (k.il 4 (by decide)).2.2.2.2.2.1
  obtain ⟨I1, c1, c2, c3⟩ := sp_keepStep (g := g) (L := L) k hW hq
  exact ⟨I1, c1, c.to c2 (hW.keep hq h30) rfl (fun a ha => c3 a (by omega) (by omega) (by omega) (by omega)), fun a ha => c3 a (by unfold nowA at ha; omega) (by unfold nowA at ha; omega) (by unfold nowA at ha; omega) (by unfold nowA at ha; omega)⟩
theorem cl_stand (c : CL Z I w h S tx) {q p : Nat} (hq : q < (S 1).length) (hp : isP w h S p) : ∃ I1, Cl g 1 mu_X2_put [rf g 19, .int (nI q), .int (nI p)] (Z, I, L) none (Z, I1, L) ∧ CL Z I1 w h (rw1 S 1 ((S 1).set q p)) tx ∧ ∀ a, ¬ nowA a → I1 a = I a := by
  obtain ⟨k, hW, -⟩ := id c
  have hl1 : (S 1).length ≤ 6 := (k.il 1 (by decide)).2.2.2.2.2.1
  obtain ⟨I1, c1, c2, c3⟩ := sp_put (g := g) (L := L) (k.il 1 (by decide)) (nI q) p
  rw [if_neg (nI_pos (by omega)), nI_clamp (by omega)] at c2
  have k1 := k.upd (by decide) c2 (fun a _ h2 => c3 a h2)
  exact ⟨I1, c1, c.to k1 (hW.stand hp) rfl (fun a ha => c3 a (by show a ≠ 20; omega)), fun a ha => c3 a (by unfold nowA at ha; show a ≠ 20; omega)⟩
theorem kS_1 (S : Nat → List Nat) (q : Nat) : kS S q 1 = S 1 := rfl
theorem kS_2 (S : Nat → List Nat) (q : Nat) : kS S q 2 = S 2 := rfl
theorem kS_0 (S : Nat → List Nat) (q : Nat) : kS S q 0 = S 0 := rfl
theorem kS_3 (S : Nat → List Nat) (q : Nat) : kS S q 3 = S 3 := rfl
theorem op_tap (c : CL Z I w h S tx) {q tap : Nat} {t : TX} (hq : q < (S 1).length) (ht : tap < 4) (htx : tx[(S 2).getD q 0]? = some t) : ∃ I1, Cl g 6 mu_X11_tap [rf g 0, .int (nI q), .int (nI tap)] (Z, I, L) (some (.int (nI (stepF w h (S 0) t ((S 1).getD q 0) tap)))) (Z, I1, L) ∧ CL Z I1 w h (rw1 (kS S q) 1 ((S 1).set q (stepF w h (S 0) t ((S 1).getD q 0) tap % 200))) tx ∧ ∀ a, ¬ nowA a → I1 a = I a := by
  obtain ⟨k, hW, -⟩ := id c
  have hl1 : (S 1).length ≤ 6 := (k.il 1 (by decide)).2.2.2.2.2.1
  have hpq := hW.pose hq
  have hst := stepF_lt (K := S 0) (t := t) (tap := tap) k.2.1 hpq.1
  obtain ⟨I1, c1, c2, c3⟩ := cl_keep (g := g) (L := L) c hq
  have ca := sp_at (g := g) (L := L) (c2.1.il 2 (by decide)) (nI q)
  rw [kS_2, atL_n _ (by omega)] at ca
  have cb := sp_at (g := g) (L := L) (c2.1.il 1 (by decide)) (nI q)
  rw [kS_1, atL_n _ (by omega)] at cb
  obtain ⟨I2, d1, d2, d3⟩ := sp_step (g := g) (L := L) c2 htx hpq.1 ht
  rw [kS_0] at d1
  obtain ⟨I3, e1, e2, e3⟩ := cl_stand (g := g) (L := L) d2 (q := q) (p := stepF w h (S 0) t ((S 1).getD q 0) tap % 200) hq (step_isP k.2.1 hW hpq)
  rw [kS_1] at e2
  exact ⟨I3, cp_X11_tap (k.1.k 0 11 (by decide) (by decide)) (k.1.r 0 0 18 (by decide)) (k.1.k 18 8 (by decide) (by decide)) (k.1.r 0 5 66 (by decide)) (k.1.k 66 3 (by decide) (by decide)) (k.1.r 18 4 21 (by decide)) (k.1.k 21 2 (by decide) (by decide)) (k.1.r 18 3 19 (by decide)) (k.1.k 19 2 (by decide) (by decide)) ⟨_, sp_isPair k _, fun e => absurd e (ite_1 (nI_in0 hq (by omega))), fun _ => ⟨_, sp_isTap _, fun _ => ⟨I1, L, c1, _, ca, _, cb, _, I2, L, d1, _, sp_poseOf (by omega), I3, L, e1, rfl, rfl⟩, fun e => absurd e (ite_1 (nI_in0 (m := 4) ht (by decide)))⟩⟩, e2, fun a ha => by rw [e3 a ha, d3 a (by unfold nowA at ha; omega) (by unfold nowA at ha; omega) (by unfold nowA at ha; omega) (by unfold nowA at ha; omega), c3 a ha]⟩
def vTap (S : Nat → List Nat) (x1 x2 : Int32) : Prop := (∃ q, x1 = nI q ∧ q < (S 1).length) ∧ ∃ tap, x2 = nI tap ∧ tap < 4
theorem op_tapN (c : CL Z I w h S tx) {x1 x2 : Int32} (hn : ¬ vTap S x1 x2) : Cl g 6 mu_X11_tap [rf g 0, .int x1, .int x2] (Z, I, L) (some (.int (-1))) (Z, I, L) := by
  obtain ⟨k, hW, -⟩ := id c
  have hl1 : (S 1).length ≤ 6 := (k.il 1 (by decide)).2.2.2.2.2.1
  have mk := @cp_X11_tap g Z I L (some (.int (-1))) (Z, I, L) 0 x1 x2 18 66 21 19 (k.1.k 0 11 (by decide) (by decide)) (k.1.r 0 0 18 (by decide)) (k.1.k 18 8 (by decide) (by decide)) (k.1.r 0 5 66 (by decide)) (k.1.k 66 3 (by decide) (by decide)) (k.1.r 18 4 21 (by decide)) (k.1.k 21 2 (by decide) (by decide)) (k.1.r 18 3 19 (by decide)) (k.1.k 19 2 (by decide) (by decide))
  by_cases h1 : ¬ x1 < 0 ∧ x1 < nI (S 1).length
  · by_cases h2 : ¬ x2 < 0 ∧ x2 < 4
    · exact absurd ⟨in0_nI (by omega) h1, in0_nI (m := 4) (by decide) h2⟩ hn
    · exact mk ⟨_, sp_isPair k _, fun e => absurd e (ite_1 h1), fun _ => ⟨_, sp_isTap _, fun e => absurd (ite_0 h2) e, fun _ => ⟨rfl, rfl⟩⟩⟩
  · exact mk ⟨_, sp_isPair k _, fun _ => ⟨rfl, rfl⟩, fun e => absurd (ite_0 h1) e⟩
/-- the loop of walk() -/
theorem wa_run {q : Nat} {t : TX} : ∀ (ts : List Nat) (j p b : Nat) (I : Nat → Nat → Int32), CL Z I w h S tx → q < (S 1).length → tx[(S 2).getD q 0]? = some t → (S 3).drop j = ts → isP w h S p → b + ts.length ≤ 100 → j ≤ (S 3).length →
    ∃ I1, Lp_X11_walk_38 g 6 0 (nI q) (nI p) (nI b) (nI j) (Z, I, L) (some (.int (nI (walkF w h (S 0) t ts p b).2))) (Z, I1, L) ∧ CL Z I1 w h (rw1 S 1 ((S 1).set q (walkF w h (S 0) t ts p b).1)) tx ∧ ∀ a, ¬ nowA a → I1 a = I a := by
  intro ts
  induction ts with
  | nil =>
    intro j p b I c hq htx hd hp hb hj3
    obtain ⟨k, hW, -⟩ := id c
    have hl3 : (S 3).length ≤ 16 := (k.il 3 (by decide)).2.2.2.2.2.1
    have hj : (S 3).length ≤ j := List.drop_eq_nil_iff.mp hd
    obtain ⟨I1, e1, e2, e3⟩ := cl_stand (g := g) (L := L) c hq hp
    refine ⟨I1, wp_X11_walk_38 (k.1.k 0 11 (by decide) (by decide)) (k.1.r 0 0 18 (by decide)) (k.1.k 18 8 (by decide) (by decide)) (k.1.r 18 5 23 (by decide)) (k.1.k 23 2 (by decide) (by decide)) (k.1.r 18 3 19 (by decide)) (k.1.k 19 2 (by decide) (by decide)) (k.1.r 0 5 66 (by decide)) (k.1.k 66 3 (by decide) (by decide)) (k.1.r 18 4 21 (by decide)) (k.1.k 21 2 (by decide) (by decide)) ⟨_, sp_size (k.il 3 (by decide)), fun _ => ⟨I1, L, e1, rfl, rfl⟩, fun e => ?_⟩, e2, e3⟩
    exact absurd (nI_le hj (by omega)) e
  | cons tap ts ih =>
    intro j p b I c hq htx hd hp hb hj3
    obtain ⟨k, hW, -⟩ := id c
    have hl1 : (S 1).length ≤ 6 := (k.il 1 (by decide)).2.2.2.2.2.1
    have hl3 : (S 3).length ≤ 16 := (k.il 3 (by decide)).2.2.2.2.2.1
    have hjl : j < (S 3).length := by
      rcases Nat.lt_or_ge j (S 3).length with h1 | h1
      · exact h1
      · rw [List.drop_eq_nil_of_le h1] at hd; cases hd
    rw [List.drop_eq_getElem_cons hjl] at hd
    obtain ⟨h1, h2⟩ := List.cons.inj hd
    have eg : (S 3).getD j 0 = tap := by simp [List.getD, List.getElem?_eq_getElem hjl, h1]
    have ht : tap < 4 := hW.2.2.2.2.2.1 j tap (by rw [List.getElem?_eq_getElem hjl, h1])
    have hst := stepF_lt (K := S 0) (t := t) (tap := tap) k.2.1 hp.1
    have ca := sp_at (g := g) (L := L) (k.il 2 (by decide)) (nI q)
    rw [atL_n _ (by omega)] at ca
    have cb := sp_at (g := g) (L := L) (k.il 3 (by decide)) (nI j)
    rw [atL_n _ (by omega), eg] at cb
    obtain ⟨I2, d1, d2, d3⟩ := sp_step (g := g) (L := L) c htx hp.1 ht
    have hb1 : bmp (stepF w h (S 0) t p tap) ≤ 1 := by unfold bmp; split <;> omega
    obtain ⟨I1, e1, e2, e3⟩ := ih (j + 1) (stepF w h (S 0) t p tap % 200) (b + bmp (stepF w h (S 0) t p tap)) I2 d2 hq htx h2 (step_isP k.2.1 hW hp) (by simp at hb; omega) (by omega)
    refine ⟨I1, wp_X11_walk_38 (k.1.k 0 11 (by decide) (by decide)) (k.1.r 0 0 18 (by decide)) (k.1.k 18 8 (by decide) (by decide)) (k.1.r 18 5 23 (by decide)) (k.1.k 23 2 (by decide) (by decide)) (k.1.r 18 3 19 (by decide)) (k.1.k 19 2 (by decide) (by decide)) (k.1.r 0 5 66 (by decide)) (k.1.k 66 3 (by decide) (by decide)) (k.1.r 18 4 21 (by decide)) (k.1.k 21 2 (by decide) (by decide)) ⟨_, sp_size (k.il 3 (by decide)), fun e => absurd e (nI_ge hjl (by omega)), fun _ => ⟨_, ca, _, cb, _, I2, L, d1, _, sp_hasBumped (by omega), fun e y hy => ⟨_, sp_poseOf (by omega), fun y2 hy2 => ?_⟩, fun e y hy => ⟨_, sp_poseOf (by omega), fun y2 hy2 => ?_⟩⟩⟩, e2, fun a ha => by rw [e3 a ha, d3 a (by unfold nowA at ha; omega) (by unfold nowA at ha; omega) (by unfold nowA at ha; omega) (by unfold nowA at ha; omega)]⟩
    · rw [b2i_0, decide_eq_false_iff_not] at e
      have : bmp (stepF w h (S 0) t p tap) = 0 := if_neg e
      rw [this] at e1
      rw [hy, hy2, nI_1, Int32.add_zero, show walkF w h (S 0) t (tap :: ts) p b = walkF w h (S 0) t ts (stepF w h (S 0) t p tap % 200) (b + bmp (stepF w h (S 0) t p tap)) from rfl, this]
      exact e1
    · rw [b2i_0, decide_eq_false_iff_not] at e
      have : bmp (stepF w h (S 0) t p tap) = 1 := if_pos (Classical.not_not.mp e)
      rw [this] at e1
      rw [hy, hy2, nI_1, nI_1, show walkF w h (S 0) t (tap :: ts) p b = walkF w h (S 0) t ts (stepF w h (S 0) t p tap % 200) (b + bmp (stepF w h (S 0) t p tap)) from rfl, this]
      exact e1
theorem op_walk (c : CL Z I w h S tx) {q : Nat} {t : TX} (hq : q < (S 1).length) (htx : tx[(S 2).getD q 0]? = some t) : ∃ I1, Cl g 6 mu_X11_walk [rf g 0, .int (nI q)] (Z, I, L) (some (.int (nI (walkF w h (S 0) t (S 3) ((S 1).getD q 0) 0).2))) (Z, I1, L) ∧ CL Z I1 w h (rw1 (kS S q) 1 ((S 1).set q (walkF w h (S 0) t (S 3) ((S 1).getD q 0) 0).1)) tx ∧ ∀ a, ¬ nowA a → I1 a = I a := by
  obtain ⟨k, hW, -⟩ := id c
  have hl1 : (S 1).length ≤ 6 := (k.il 1 (by decide)).2.2.2.2.2.1
  have hl3 : (S 3).length ≤ 16 := (k.il 3 (by decide)).2.2.2.2.2.1
  obtain ⟨I1, c1, c2, c3⟩ := cl_keep (g := g) (L := L) c hq
  have cb := sp_at (g := g) (L := L) (c2.1.il 1 (by decide)) (nI q)
  rw [kS_1, atL_n _ (by omega)] at cb
  obtain ⟨I2, d1, d2, d3⟩ := wa_run (g := g) (L := L) (S := kS S q) (q := q) (t := t) (S 3) 0 ((S 1).getD q 0) 0 I1 c2 hq htx rfl (hW.pose hq) (by omega) (Nat.zero_le _)
  exact ⟨I2, cp_X11_walk (k.1.k 0 11 (by decide) (by decide)) (k.1.r 0 0 18 (by decide)) (k.1.k 18 8 (by decide) (by decide)) (k.1.r 18 3 19 (by decide)) (k.1.k 19 2 (by decide) (by decide)) ⟨_, sp_isPair k _, fun _ => ⟨I1, L, c1, _, cb, d1⟩, fun e => absurd e (ite_1 (nI_in0 hq (by omega)))⟩, d2, fun a ha => by rw [d3 a ha, c3 a ha]⟩
theorem op_walkN (c : CL Z I w h S tx) {x : Int32} (hn : ¬ ∃ q, x = nI q ∧ q < (S 1).length) : Cl g 6 mu_X11_walk [rf g 0, .int x] (Z, I, L) (some (.int (-1))) (Z, I, L) := by
  obtain ⟨k, hW, -⟩ := id c
  have hl1 : (S 1).length ≤ 6 := (k.il 1 (by decide)).2.2.2.2.2.1
  refine cp_X11_walk (k.1.k 0 11 (by decide) (by decide)) (k.1.r 0 0 18 (by decide)) (k.1.k 18 8 (by decide) (by decide)) (k.1.r 18 3 19 (by decide)) (k.1.k 19 2 (by decide) (by decide)) ⟨_, sp_isPair k _, fun e => ?_, fun _ => ⟨rfl, rfl⟩⟩
  by_cases h1 : ¬ x < 0 ∧ x < nI (S 1).length
  · exact absurd (in0_nI (by omega) h1) hn
  · exact absurd (ite_0 h1) e
/-- undo(): the pair that stands where it stood -/
abbrev uS (S : Nat → List Nat) : Nat → List Nat := rw1 (rw1 (rw1 S 1 ((S 1).set ((S 4).getD ((S 4).length - 1) 0) ((S 5).getD ((S 4).length - 1) 0))) 4 ((S 4).take ((S 4).length - 1))) 5 ((S 5).take ((S 4).length - 1))
theorem op_undo (c : CL Z I w h S tx) (h0 : 0 < (S 4).length) : ∃ I1, Cl g 3 mu_X11_undo [rf g 0] (Z, I, L) (some (.int (nI ((S 4).getD ((S 4).length - 1) 0)))) (Z, I1, L) ∧ CL Z I1 w h (uS S) tx ∧ ∀ a, ¬ nowA a → I1 a = I a := by
  obtain ⟨k, hW, -⟩ := id c
  have h30 : (S 4).length ≤ 30 := (k.il 4 (by decide)).2.2.2.2.2.1
  have h45 : (S 4).length = (S 5).length := hW.2.2.2.2.2.2.1
  obtain ⟨n, hn⟩ : ∃ n, n = (S 4).length - 1 := ⟨_, rfl⟩
  have hn4 : n < (S 4).length := by omega
  have hq : (S 4).getD n 0 < (S 1).length := hW.2.2.2.2.2.2.2.1 n _ (by rw [List.getElem?_eq_getElem hn4]; simp [List.getD, List.getElem?_eq_getElem hn4])
  have hp : isP w h S ((S 5).getD n 0) := hW.2.2.2.2.2.2.2.2.1 n _ (by rw [List.getElem?_eq_getElem (by omega)]; simp [List.getD, List.getElem?_eq_getElem (show n < (S 5).length by omega)])
  have hn30 : n < 2 ^ 31 := by omega
  have ca := sp_at (g := g) (L := L) (k.il 4 (by decide)) (nI n)
  rw [atL_n _ hn30] at ca
  have cb := sp_at (g := g) (L := L) (k.il 5 (by decide)) (nI n)
  rw [atL_n _ hn30] at cb
  obtain ⟨I1, d1, d2, d3⟩ := cl_stand (g := g) (L := L) c hq hp
  obtain ⟨I2, e1, e2, e3⟩ := sp_cutTo (g := g) (L := L) (d2.1.il 4 (by decide)) (nI n)
  rw [rw1_n _ _ (by decide), if_neg (nI_pos hn30), nI_clamp hn30] at e2
  have k2 := d2.1.upd (by decide) e2 (fun a h1 _ => e3 a h1)
  obtain ⟨I3, f1, f2, f3⟩ := sp_cutTo (g := g) (L := L) (k2.il 5 (by decide)) (nI n)
  rw [rw1_n _ _ (by decide), rw1_n _ _ (by decide), if_neg (nI_pos hn30), nI_clamp hn30] at f2
  have k3 := k2.upd (by decide) f2 (fun a h1 _ => f3 a h1)
  have hW3 := (hW.stand (q := (S 4).getD n 0) hp).unstep n
  have ey : nI (S 4).length - 1 = nI n := by rw [hn]; exact pk_sub (b := 1) (by omega)
  unfold uS
  rw [← hn]
  refine ⟨I3, cp_X11_undo (k.1.k 0 11 (by decide) (by decide)) (k.1.r 0 0 18 (by decide)) (k.1.k 18 8 (by decide) (by decide)) (k.1.r 18 6 25 (by decide)) (k.1.k 25 2 (by decide) (by decide)) (k.1.r 18 3 19 (by decide)) (k.1.k 19 2 (by decide) (by decide)) (k.1.r 18 7 27 (by decide)) (k.1.k 27 2 (by decide) (by decide)) ⟨_, sp_size (k.il 4 (by decide)), fun y hy => ?_⟩, d2.to k3 hW3 rfl (fun a ha => by rw [f3 a (by show a ≠ 27; omega), e3 a (by show a ≠ 25; omega)]), fun a ha => by rw [f3 a (by unfold nowA at ha; show a ≠ 27; omega), e3 a (by unfold nowA at ha; show a ≠ 25; omega), d3 a ha]⟩
  rw [ey] at hy
  subst hy
  exact ⟨fun _ => ⟨_, ca, _, cb, I1, L, d1, I2, L, e1, I3, L, f1, rfl, rfl⟩, fun e => absurd (nI_pos' hn30) e⟩
theorem op_undoN (c : CL Z I w h S tx) (h0 : (S 4).length = 0) : Cl g 3 mu_X11_undo [rf g 0] (Z, I, L) (some (.int (-1))) (Z, I, L) := by
  obtain ⟨k, hW, -⟩ := id c
  refine cp_X11_undo (k.1.k 0 11 (by decide) (by decide)) (k.1.r 0 0 18 (by decide)) (k.1.k 18 8 (by decide) (by decide)) (k.1.r 18 6 25 (by decide)) (k.1.k 25 2 (by decide) (by decide)) (k.1.r 18 3 19 (by decide)) (k.1.k 19 2 (by decide) (by decide)) (k.1.r 18 7 27 (by decide)) (k.1.k 27 2 (by decide) (by decide)) ⟨_, sp_size (k.il 4 (by decide)), fun y hy => ?_⟩
  rw [h0] at hy
  subst hy
  exact ⟨fun e => absurd e (by decide), fun _ => ⟨rfl, rfl⟩⟩
/-- cell() -/
abbrev cS (S : Nat → List Nat) (p kind : Nat) : Nat → List Nat := rw1 (rw1 (rw1 S 0 ((S 0).set p kind)) 4 []) 5 []
def vCell (w h : Nat) (S : Nat → List Nat) (x1 x2 : Int32) : Prop := (∃ p, x1 = nI p ∧ p < w * h) ∧ (∃ kind, x2 = nI kind ∧ kind ≤ 3) ∧ ¬ (x2 = 1 ∧ hasP S x1 = true)
theorem hasP_no {p : Nat} (hW : WF w h S tx) (k : wh w h) (hp : p < w * h) (hn : ¬ hasP S (nI p) = true) : ∀ (j : Nat) v, (S 1)[j]? = some v → v / 4 ≠ p := by
  intro j v hj e
  apply hn
  unfold hasP
  rw [List.any_eq_true]
  exact ⟨v, List.mem_of_getElem? hj, by rw [e]; simp⟩
theorem op_cell (c : CL Z I w h S tx) {p kind : Nat} (hp : p < w * h) (hk : kind ≤ 3) (hn : ¬ (kind = 1 ∧ hasP S (nI p) = true)) : ∃ I1, Cl g 4 mu_X11_cell [rf g 0, .int (nI p), .int (nI kind)] (Z, I, L) (some (.int 1)) (Z, I1, L) ∧ CL Z I1 w h (cS S p kind) tx ∧ ∀ a, ¬ nowA a → I1 a = I a := by
  obtain ⟨k, hW, hm, hN, hK⟩ := id c
  have hmul := k.2.1.mul
  obtain ⟨I1, c1, c2, c3⟩ := sp_put (g := g) (L := L) (k.il 0 (by decide)) (nI p) kind
  rw [if_neg (nI_pos (by omega)), nI_clamp (by omega)] at c2
  have k1 := k.upd (by decide) c2 (fun a _ h2 => c3 a h2)
  obtain ⟨I2, d1, d2, d3⟩ := sp_forgetSteps (g := g) (L := L) k1
  have e1 := sp_forget (g := g) (L := L) d2 hN
  obtain ⟨I3, hI3⟩ : ∃ J, J = rw1 I2 67 (fun q => if q < 64 * (w * h) then -1 else I2 67 q) := ⟨_, rfl⟩
  rw [← hI3] at e1
  have f3 : ∀ a, a ≠ 67 → I3 a = I2 a := fun a ha => by rw [hI3]; exact rw1_n _ _ ha
  have ef : ∀ a, a ≠ 25 → a ≠ 27 → a ≠ 41 → a ≠ 67 → I3 a = I a := fun a h1 h2 h3 h4 => by rw [f3 a h4, d3 a h1 h2, c3 a (by show a ≠ 41; omega)]
  have k3 : CS Z I3 w h (cS S p kind) tx := d2.kept (fun a ha => f3 a (by rcases ha with ha | ha; (unfold stA at ha; omega); omega))
  have hW3 : WF w h (cS S p kind) tx := hW.cell hk (fun e => hasP_no hW k.2.1 hp (fun z => hn ⟨e, z⟩))
  have mk := @cp_X11_cell g Z I L (some (.int 1)) (Z, I3, L) 0 (nI p) (nI kind) 18 40 66 (k.1.k 0 11 (by decide) (by decide)) (k.1.r 0 0 18 (by decide)) (k.1.k 18 8 (by decide) (by decide)) (k.1.r 18 2 40 (by decide)) (k.1.k 40 2 (by decide) (by decide)) (k.1.r 0 5 66 (by decide)) (k.1.k 66 3 (by decide) (by decide))
  refine ⟨I3, mk ⟨_, sp_isCell k _, fun e => absurd e (ite_1 (nI_in0 hp (by omega))), fun _ => ⟨fun e => absurd e (nI_pos (by omega)), fun _ => ⟨fun _ => ⟨fun _ => ⟨I1, L, c1, I2, L, d1, I3, L, e1, rfl, rfl⟩, fun e => ⟨_, sp_hasPairIn k hW _, fun _ => ⟨I1, L, c1, I2, L, d1, I3, L, e1, rfl, rfl⟩, fun e2 => ?_⟩⟩, fun e => absurd ((nI_leI (b := 3) (by omega) (by decide)).mpr hk) e⟩⟩⟩, ⟨k3, hW3, hm.kept (by rw [ef 13 (by decide) (by decide) (by decide) (by decide)]) (ef 15 (by decide) (by decide) (by decide) (by decide)), KC.empty (I := I2) hN (by rw [hI3, rw1_s])⟩, fun a ha => ef a (by unfold nowA at ha; omega) (by unfold nowA at ha; omega) (by unfold nowA at ha; omega) (by unfold nowA at ha; omega)⟩
  have ek : kind = 1 := (nI_eq (b := 1) (by omega) (by decide)).mp e
  exact absurd ⟨ek, by
    rcases hb : hasP S (nI p) with _ | _
    · rw [hb] at e2; exact absurd rfl e2
    · rfl⟩ hn
theorem op_cellN (c : CL Z I w h S tx) {x1 x2 : Int32} (hn : ¬ vCell w h S x1 x2) : Cl g 4 mu_X11_cell [rf g 0, .int x1, .int x2] (Z, I, L) (some (.int 0)) (Z, I, L) := by
  obtain ⟨k, hW, -⟩ := id c
  have hmul := k.2.1.mul
  have mk := @cp_X11_cell g Z I L (some (.int 0)) (Z, I, L) 0 x1 x2 18 40 66 (k.1.k 0 11 (by decide) (by decide)) (k.1.r 0 0 18 (by decide)) (k.1.k 18 8 (by decide) (by decide)) (k.1.r 18 2 40 (by decide)) (k.1.k 40 2 (by decide) (by decide)) (k.1.r 0 5 66 (by decide)) (k.1.k 66 3 (by decide) (by decide))
  by_cases h1 : ¬ x1 < 0 ∧ x1 < nI (w * h)
  · refine mk ⟨_, sp_isCell k _, fun e => absurd e (ite_1 h1), fun _ => ⟨fun _ => ⟨rfl, rfl⟩, fun h2 => ⟨fun h3 => ?_, fun _ => ⟨rfl, rfl⟩⟩⟩⟩
    have hkd : ∃ kind, x2 = nI kind ∧ kind ≤ 3 := by
      obtain ⟨v, hv, rfl⟩ := nI_of h2
      exact ⟨v, rfl, (nI_leI (b := 3) hv (by decide)).mp h3⟩
    have hbad : x2 = 1 ∧ hasP S x1 = true := Classical.not_not.mp (fun z => hn ⟨in0_nI (by omega) h1, hkd, z⟩)
    exact ⟨fun e => absurd hbad.1 e, fun _ => ⟨_, sp_hasPairIn k hW _, fun e => absurd e (b2i_1 hbad.2), fun _ => ⟨rfl, rfl⟩⟩⟩
  · exact mk ⟨_, sp_isCell k _, fun _ => ⟨rfl, rfl⟩, fun e => absurd (ite_0 h1) e⟩
end COPS3
