/-! the model's chase(), hunt(), whole -/
def gFz (i : Nat) : Int32 := if i % 10000 / 100 / 4 = i % 100 / 4 then 0 else -1
section MCHASE2
variable {g : GE} {Z : Zs} {I : Nat → Nat → Int32} {L : Nat → Nat → Int64} {w h : Nat} {S : Nat → List Nat} {tx : List TX} {a b : Nat}
theorem mf_25 (hS : Sh Z) {x1 x2 x3 : Int32} : ∀ (d j : Nat) (I : Nat → Nat → Int32), j + d = 20000 → (∀ i, i < j → I 98 i = gFz i) → ∃ I1, (∀ r M', Lp_X12_settle__78 g 7 76 x1 x2 x3 1 1 (Z, I1, L) r M' → Lp_X12_settle__25 g 7 76 x1 x2 x3 (nI j) (Z, I, L) r M') ∧ (∀ i, i < 20000 → I1 98 i = gFz i) ∧ ∀ q, q ≠ 98 → I1 q = I q := by
  intro d
  induction d with
  | zero =>
    intro j I hj hi
    have hj : j = 20000 := hj
    subst hj
    exact ⟨I, fun r M' hc => wp_X12_settle__25 (hS.k 76 12 (by decide) (by decide)) (hS.r 76 42 98 (by decide)) (hS.k 98 13 (by decide) (by decide)) ⟨fun _ => hc, fun z => absurd (nI_le (Nat.le_refl 20000) (by decide)) z⟩, hi, fun _ _ => rfl⟩
  | succ d ih =>
    intro j I hj hi
    have ge : ¬ (20000 : Int32) ≤ nI j := fun z => absurd ((nI_leI (a := 20000) (by decide) (by omega)).mp z) (by omega)
    have e1 : ((nI j - nI j / 10000 * 10000) / 100) / 4 = nI (j % 10000 / 100 / 4) := by
      rw [show nI j - nI j / 10000 * 10000 = nI (j % 10000) from pk_rem (d := 10000) (by omega) (by decide) (by decide), show nI (j % 10000) / 100 = nI (j % 10000 / 100) from pk_div (d := 100) (by omega) (by decide) (by decide), show nI (j % 10000 / 100) / 4 = nI (j % 10000 / 100 / 4) from pk_div (d := 4) (by omega) (by decide) (by decide)]
    have e2 : (nI j - nI j / 100 * 100) / 4 = nI (j % 100 / 4) := by
      rw [show nI j - nI j / 100 * 100 = nI (j % 100) from pk_rem (d := 100) (by omega) (by decide) (by decide), show nI (j % 100) / 4 = nI (j % 100 / 4) from pk_div (d := 4) (by omega) (by decide) (by decide)]
    have vi : vp_in (nI j) (Z.2.2.1 98) := by rw [hS.n 98 20000 (by decide)]; exact vp_in_nI (by omega) (by decide)
    obtain ⟨J, hJ⟩ : ∃ J, J = rw1 I 98 (upd (I 98) j (gFz j)) := ⟨_, rfl⟩
    obtain ⟨I1, r1, r2, r3⟩ := ih (j + 1) J (by omega) (fun i hi' => by
      rw [hJ, rw1_s]
      by_cases he : i = j
      · rw [he, upd_s]
      · rw [upd_n _ _ he]; exact hi i (by omega))
    refine ⟨I1, fun r M' hc => wp_X12_settle__25 (hS.k 76 12 (by decide) (by decide)) (hS.r 76 42 98 (by decide)) (hS.k 98 13 (by decide) (by decide)) ⟨fun z => absurd z ge, fun _ => ?_⟩, r2, fun q hq => by rw [r3 q hq, hJ, rw1_n _ _ hq]⟩
    rw [e1, e2, nI_eq (by omega) (by omega), nI_clamp (by omega)]
    refine ⟨fun e => ⟨vi, fun I2 h2 y hy => ?_⟩, fun e => ⟨vi, fun I2 h2 y hy => ?_⟩⟩
    · have : gFz j = -1 := by unfold gFz; rw [if_neg e]
      rw [this] at hJ
      rw [← hJ] at h2
      rw [h2, hy, nI_1]; exact r1 r M' hc
    · have : gFz j = 0 := by unfold gFz; rw [if_pos e]
      rw [this] at hJ
      rw [← hJ] at h2
      rw [h2, hy, nI_1]; exact r1 r M' hc
theorem ms_settle (m : MB Z I w h S tx) (ha : a < tx.length) (hb : b < tx.length) : ∃ I1 L1, Cl g 7 mu_X12_settle_ [rf g 76, .int (nI a), .int (nI b)] (Z, I, L) none (Z, I1, L1) ∧ LCz Z I1 w h S tx a b ∧ FVz (isP w h S) (mvF w h S tx a) (mvF w h S tx b) I1 ∧ ∀ q, ¬ modA q → I1 q = I q := by
  have hS := m.1.1
  have hm := m.1.2.1.mul
  obtain ⟨J1, L1, l1, l2, l3, l4, l5, l6⟩ := ms_lay (g := g) (L := L) m (tt_one ha)
  obtain ⟨J2, L2, n1, n2, n3, n4, n5, n6⟩ := ms_lay (g := g) (L := L1) l2 (tt_one hb)
  have va : LV J2 w h S (ttF tx [a] 0) a (16 * (w * h)) := by
    by_cases he : a = b
    · rw [he]; exact n3
    · intro q hq
      rw [n4 (400 * a + q) (by omega)]
      exact l3 q hq
  obtain ⟨J3, f1, f2, f3⟩ := mf_25 (g := g) (Z := Z) (L := L2) (x1 := nI a) (x2 := nI b) (x3 := nI (4 * (w * h))) hS 20000 0 J2 (Nat.zero_add _) (fun i hi => absurd hi (by omega))
  have m3 : MB Z J3 w h S tx := n2.w (by rw [f3 76 (by decide)]) (by rw [f3 76 (by decide)]) (f3 77 (by decide)) (f3 79 (by decide)) (f3 82 (by decide))
  have lc : LCz Z J3 w h S tx a b := ⟨m3, fun q hq => by rw [f3 85 (by decide)]; exact va q hq, fun q hq => by rw [f3 85 (by decide)]; exact n3 q hq⟩
  have tv : TVz (isP w h S) (mvF w h S tx a) (mvF w h S tx b) J3 0 (fun _ => False) := fun k c p h1 h2 h3 => by
    have c1 := h2.1
    have p1 := h3.1
    have hl := tIx_lt h1 (show c < 100 by omega) (show p < 100 by omega)
    have e := f2 _ hl
    have i1 : tIx k c p % 10000 / 100 / 4 = c / 4 := by unfold tIx; omega
    have i2 : tIx k c p % 100 / 4 = p / 4 := by unfold tIx; omega
    unfold gFz at e
    rw [i1, i2] at e
    by_cases hcp : c / 4 = p / 4
    · rw [if_pos hcp] at e
      exact Or.inl ⟨0, Nat.le_refl _, ⟨hcp, fun n hn => by omega⟩, e⟩
    · rw [if_neg hcp] at e
      exact Or.inr (Or.inr ⟨hcp, fun z => z.1, e⟩)
  have cn := CN_le J3
  obtain ⟨I1, r1, r2, r3, r4⟩ := ly_78 (g := g) (L := L2) ha hb (CNz J3 + 1) 0 J3 (Nat.lt_succ_self _) (by omega) lc tv
  refine ⟨I1, L2, cp_X12_settle_ (hS.k 76 12 (by decide) (by decide)) ⟨J1, L1, l1, J2, L2, n1, fun y hy => ?_⟩, r2, r3, fun q hq => by rw [r4 q (by unfold modA at hq; omega), f3 q (by unfold modA at hq; omega), n5 q (by unfold modA at hq; omega) (by unfold modA at hq; omega) (by unfold modA at hq; omega), l5 q (by unfold modA at hq; omega) (by unfold modA at hq; omega) (by unfold modA at hq; omega)]⟩
  rw [e4wh n2.1] at hy
  rw [hy]
  exact f1 _ _ r1
theorem ms_isChase (m : MB Z I w h S tx) (x1 x2 x3 x4 : Int32) : ∃ b : Bool, Cl g 3 mu_X12_isChase [rf g 76, .int x1, .int x2, .int x3, .int x4] (Z, I, L) (some (.int (b2i b))) (Z, I, L) ∧ (b = true ↔ vCha w h S tx x1 x2 x3 x4) := by
  obtain ⟨k, hW, -⟩ := id m
  have hx4 := k.2.2.2.2.2.1
  obtain ⟨b2, cb2, hb2⟩ := ms_isPose (g := g) (L := L) k hW x2
  obtain ⟨b4, cb4, hb4⟩ := ms_isPose (g := g) (L := L) k hW x4
  have wp := fun (R : Option Value) (M' : Mem) => @cp_X12_isChase g Z I L R M' 76 x1 x2 x3 x4 (k.1.k 76 12 (by decide) (by decide))
  by_cases h1 : ¬ x1 < 0 ∧ x1 < nI tx.length
  · have t1 := ms_isText (g := g) (L := L) k x1
    rw [if_pos h1] at t1
    by_cases h3 : ¬ x3 < 0 ∧ x3 < nI tx.length
    · have t3 := ms_isText (g := g) (L := L) k x3
      rw [if_pos h3] at t3
      by_cases h2 : b2 = true
      · by_cases h4 : b4 = true
        · exact ⟨true, wp _ _ ⟨_, t1, fun e => absurd e (by decide), fun _ => ⟨_, t3, fun e => absurd e (by decide), fun _ => ⟨_, cb2, fun e => absurd e (b2i_1 h2), fun _ => ⟨_, cb4, fun e => absurd e (b2i_1 h4), fun _ => ⟨rfl, rfl⟩⟩⟩⟩⟩, fun _ => ⟨(in_text (by omega)).mp h1, hb2.mp h2, (in_text (by omega)).mp h3, hb4.mp h4⟩, fun _ => rfl⟩
        · exact ⟨false, wp _ _ ⟨_, t1, fun e => absurd e (by decide), fun _ => ⟨_, t3, fun e => absurd e (by decide), fun _ => ⟨_, cb2, fun e => absurd e (b2i_1 h2), fun _ => ⟨_, cb4, fun _ => ⟨rfl, rfl⟩, fun e => absurd (b2i_f h4) e⟩⟩⟩⟩, fun e => (by cases e), fun e => absurd (hb4.mpr e.2.2.2) h4⟩
      · exact ⟨false, wp _ _ ⟨_, t1, fun e => absurd e (by decide), fun _ => ⟨_, t3, fun e => absurd e (by decide), fun _ => ⟨_, cb2, fun _ => ⟨rfl, rfl⟩, fun e => absurd (b2i_f h2) e⟩⟩⟩, fun e => (by cases e), fun e => absurd (hb2.mpr e.2.1) h2⟩
    · have t3 := ms_isText (g := g) (L := L) k x3
      rw [if_neg h3] at t3
      exact ⟨false, wp _ _ ⟨_, t1, fun e => absurd e (by decide), fun _ => ⟨_, t3, fun _ => ⟨rfl, rfl⟩, fun e => absurd rfl e⟩⟩, fun e => (by cases e), fun e => absurd ((in_text (by omega)).mpr e.2.2.1) h3⟩
  · have t1 := ms_isText (g := g) (L := L) k x1
    rw [if_neg h1] at t1
    exact ⟨false, wp _ _ ⟨_, t1, fun _ => ⟨rfl, rfl⟩, fun e => absurd rfl e⟩, fun e => (by cases e), fun e => absurd ((in_text (by omega)).mpr e.1) h1⟩
theorem mo_chase (m : MB Z I w h S tx) {p0 q0 : Nat} (h1 : a < tx.length) (h2 : isP w h S p0) (h3 : b < tx.length) (h4 : isP w h S q0) : ∃ r I1 L1, Cl g 8 mu_X12_chase [rf g 76, .int (nI a), .int (nI p0), .int (nI b), .int (nI q0)] (Z, I, L) (some (.int r)) (Z, I1, L1) ∧ CAz (mvF w h S tx a) (mvF w h S tx b) p0 q0 r ∧ MB Z I1 w h S tx ∧ ∀ q, ¬ modA q → I1 q = I q := by
  have hS := m.1.1
  have hm := m.1.2.1.mul
  obtain ⟨bb, cb, hbb⟩ := ms_isChase (g := g) (L := L) m (nI a) (nI p0) (nI b) (nI q0)
  have hbt : bb = true := hbb.mpr ⟨⟨_, rfl, h1⟩, ⟨_, rfl, h2⟩, ⟨_, rfl, h3⟩, ⟨_, rfl, h4⟩⟩
  obtain ⟨I1, L1, r1, r2, r3, r4⟩ := ms_settle (g := g) (L := L) m h1 h3
  have p1 := h2.1
  have q1 := h4.1
  have hl := tIx_lt (k := 0) (by decide) (show p0 < 100 by omega) (show q0 < 100 by omega)
  refine ⟨I1 98 (tIx 0 p0 q0), I1, L1, cp_X12_chase (hS.k 76 12 (by decide) (by decide)) (hS.r 76 42 98 (by decide)) (hS.k 98 13 (by decide) (by decide)) ⟨_, cb, fun _ => ⟨I1, L1, r1, _, ms_stateAt (k := 0), by rw [hS.n 98 20000 (by decide)]; exact vp_in_nI hl (by decide), by rw [nI_clamp (by omega)], rfl⟩, fun e => absurd e (b2i_1 hbt)⟩, ?_, r2.1, r4⟩
  rcases r3 0 p0 q0 Nat.zero_lt_two h2 h4 with ⟨v, y1, y2, y3⟩ | ⟨y1, y2⟩
  · exact Or.inl ⟨v, y1, y2, y3⟩
  · exact Or.inr ⟨y2, y1⟩
theorem mo_chaseN (m : MB Z I w h S tx) {x1 x2 x3 x4 : Int32} (hv : ¬ vCha w h S tx x1 x2 x3 x4) : Cl g 8 mu_X12_chase [rf g 76, .int x1, .int x2, .int x3, .int x4] (Z, I, L) (some (.int (-1))) (Z, I, L) := by
  have hS := m.1.1
  obtain ⟨bb, cb, hbb⟩ := ms_isChase (g := g) (L := L) m x1 x2 x3 x4
  exact cp_X12_chase (hS.k 76 12 (by decide) (by decide)) (hS.r 76 42 98 (by decide)) (hS.k 98 13 (by decide) (by decide)) ⟨_, cb, fun e => absurd (b2i_f (fun z => hv (hbb.mp z))) e, fun _ => ⟨rfl, rfl⟩⟩
/-- the best TAP so far -/
def BTz (V : Nat → Int32) (tap : Nat) (bo : Option Nat) : Prop := match bo with
  | none => ∀ o, o < tap → V o < 0
  | some o => o < tap ∧ ¬ V o < 0 ∧ (∀ o', o' < o → V o' < 0 ∨ V o < V o') ∧ ∀ o', o' < tap → V o' < 0 ∨ V o ≤ V o'
theorem hu_36 (hS : Sh Z) {x1 x2 x4 : Int32} {V : Nat → Int32} (hv : ∀ tap, tap < 4 → Cl g 3 mu_X12_turnsBehind [rf g 76, .int 0, .int x1, .int x2, .int x4, .int (nI tap)] (Z, I, L) (some (.int (V tap))) (Z, I, L)) : ∀ (d tap : Nat) (bo : Option Nat), tap + d = 4 → BTz V tap bo → ∃ b1, Lp_X12_hunt_36 g 8 76 x1 x2 x4 (oI bo) (nI tap) (Z, I, L) (some (.int (oI b1))) (Z, I, L) ∧ BTz V 4 b1 := by
  intro d
  induction d with
  | zero =>
    intro tap bo ht hB
    have ht : tap = 4 := ht
    subst ht
    exact ⟨bo, wp_X12_hunt_36 (hS.k 76 12 (by decide) (by decide)) ⟨fun _ => ⟨rfl, rfl⟩, fun e => absurd (nI_le (Nat.le_refl 4) (by decide)) e⟩, hB⟩
  | succ d ih =>
    intro tap bo ht hB
    have g4 : ¬ (4 : Int32) ≤ nI tap := fun z => absurd ((nI_leI (a := 4) (by decide) (by omega)).mp z) (by omega)
    by_cases hn : V tap < 0
    · obtain ⟨b1, r1, r2⟩ := ih (tap + 1) bo (by omega) (by
        cases bo with
        | none =>
          intro o ho
          by_cases he : o = tap
          · rw [he]; exact hn
          · exact hB o (by omega)
        | some o =>
          obtain ⟨z1, z2, z3, z4⟩ := hB
          exact ⟨by omega, z2, z3, fun o' ho' => by
            by_cases he : o' = tap
            · rw [he]; exact Or.inl hn
            · exact z4 o' (by omega)⟩)
      exact ⟨b1, wp_X12_hunt_36 (hS.k 76 12 (by decide) (by decide)) ⟨fun z => absurd z g4, fun _ => ⟨_, hv tap (by omega), fun _ y hy => by rw [hy, nI_1]; exact r1, fun z => absurd hn z⟩⟩, r2⟩
    · cases bo with
      | none =>
        have hB : ∀ o, o < tap → V o < 0 := hB
        obtain ⟨b1, r1, r2⟩ := ih (tap + 1) (some tap) (by omega) ⟨Nat.lt_succ_self _, hn, fun o' ho' => Or.inl (hB o' ho'), fun o' ho' => by
          by_cases he : o' = tap
          · rw [he]; exact Or.inr (Int32.le_refl _)
          · exact Or.inl (hB o' (by omega))⟩
        exact ⟨b1, wp_X12_hunt_36 (hS.k 76 12 (by decide) (by decide)) ⟨fun z => absurd z g4, fun _ => ⟨_, hv tap (by omega), fun z => absurd z hn, fun _ => ⟨fun _ y hy => by rw [hy, nI_1]; exact r1, fun z => absurd (show oI none < 0 by decide) z⟩⟩⟩, r2⟩
      | some o =>
        obtain ⟨z1, z2, z3, z4⟩ := hB
        have np : ¬ oI (some o) < 0 := nI_pos (by omega)
        by_cases hle : V o ≤ V tap
        · obtain ⟨b1, r1, r2⟩ := ih (tap + 1) (some o) (by omega) ⟨by omega, z2, z3, fun o' ho' => by
            by_cases he : o' = tap
            · rw [he]; exact Or.inr hle
            · exact z4 o' (by omega)⟩
          exact ⟨b1, wp_X12_hunt_36 (hS.k 76 12 (by decide) (by decide)) ⟨fun z => absurd z g4, fun _ => ⟨_, hv tap (by omega), fun z => absurd z hn, fun _ => ⟨fun z => absurd z np, fun _ => ⟨_, hv o (by omega), fun _ y hy => by rw [hy, nI_1]; exact r1, fun z => absurd hle z⟩⟩⟩⟩, r2⟩
        · have hlt : V tap < V o := Int32.not_le.mp hle
          obtain ⟨b1, r1, r2⟩ := ih (tap + 1) (some tap) (by omega) ⟨Nat.lt_succ_self _, hn, fun o' ho' => (z4 o' ho').imp id (fun z => Int32.lt_of_lt_of_le hlt z), fun o' ho' => by
            by_cases he : o' = tap
            · rw [he]; exact Or.inr (Int32.le_refl _)
            · exact (z4 o' (by omega)).imp id (fun z => Int32.le_of_lt (Int32.lt_of_lt_of_le hlt z))⟩
          exact ⟨b1, wp_X12_hunt_36 (hS.k 76 12 (by decide) (by decide)) ⟨fun z => absurd z g4, fun _ => ⟨_, hv tap (by omega), fun z => absurd z hn, fun _ => ⟨fun z => absurd z np, fun _ => ⟨_, hv o (by omega), fun z => absurd z hle, fun _ y hy => by rw [hy, nI_1]; exact r1⟩⟩⟩⟩, r2⟩
theorem mo_hunt (m : MB Z I w h S tx) {p0 q0 : Nat} (h1 : a < tx.length) (h2 : isP w h S p0) (h3 : b < tx.length) (h4 : isP w h S q0) : ∃ r I1 L1, Cl g 8 mu_X12_hunt [rf g 76, .int (nI a), .int (nI p0), .int (nI b), .int (nI q0)] (Z, I, L) (some (.int r)) (Z, I1, L1) ∧ HAz (mvF w h S tx a) (mvF w h S tx b) p0 q0 r ∧ MB Z I1 w h S tx ∧ ∀ q, ¬ modA q → I1 q = I q := by
  have hS := m.1.1
  have hm := m.1.2.1.mul
  obtain ⟨bb, cb, hbb⟩ := ms_isChase (g := g) (L := L) m (nI a) (nI p0) (nI b) (nI q0)
  have hbt : bb = true := hbb.mpr ⟨⟨_, rfl, h1⟩, ⟨_, rfl, h2⟩, ⟨_, rfl, h3⟩, ⟨_, rfl, h4⟩⟩
  have p1 := h2.1
  have q1 := h4.1
  have e1 : nI p0 / 4 = nI (p0 / 4) := pk_div (d := 4) (by omega) (by decide) (by decide)
  have e2 : nI q0 / 4 = nI (q0 / 4) := pk_div (d := 4) (by omega) (by decide) (by decide)
  by_cases heq : p0 / 4 = q0 / 4
  · refine ⟨-1, I, L, cp_X12_hunt (hS.k 76 12 (by decide) (by decide)) ⟨_, cb, fun e => absurd e (b2i_1 hbt), fun _ => ⟨fun e => absurd (by rw [e1, e2, heq]) e, fun _ => ⟨rfl, rfl⟩⟩⟩, Or.inr ⟨rfl, Or.inl heq⟩, m, fun _ _ => rfl⟩
  · obtain ⟨I1, L1, r1, r2, r3, r4⟩ := ms_settle (g := g) (L := L) m h1 h3
    obtain ⟨m1, va, vb⟩ := id r2
    obtain ⟨V, hV⟩ : ∃ V : Nat → Int32, ∀ tap, V tap = I1 98 (tIx 1 (mvF w h S tx a p0 tap) q0) := ⟨_, fun _ => rfl⟩
    have hv : ∀ tap, tap < 4 → Cl g 3 mu_X12_turnsBehind [rf g 76, .int 0, .int (nI a), .int (nI p0), .int (nI q0), .int (nI tap)] (Z, I1, L1) (some (.int (V tap))) (Z, I1, L1) := fun tap ht => by
      have := ms_behind (g := g) (L := L1) (k := 0) m1.1 m1.2.1 h1 h3 va vb Nat.zero_lt_two h2 h4 ht
      rw [hV]
      exact this
    obtain ⟨b1, u1, u2⟩ := hu_36 (g := g) (L := L1) hS hv 4 0 none (Nat.zero_add _) (fun o ho => absurd ho (by omega))
    have st : ∀ tap, (∃ v, v < 2 ^ 30 ∧ isV (mvF w h S tx a) (mvF w h S tx b) (1, mvF w h S tx a p0 tap, q0) v ∧ V tap = nI v) ∨ ((∀ n, ¬ wnF (mvF w h S tx a) (mvF w h S tx b) n 1 (mvF w h S tx a p0 tap) q0) ∧ V tap = -1) := fun tap => by
      rw [hV]; exact r3 1 _ _ Nat.one_lt_two (mv_P m.1.2.1 m.2.1 a p0 tap h2) h4
    have down : ∀ v, isV (mvF w h S tx a) (mvF w h S tx b) (0, p0, q0) v → ∃ t tap, v = t + 1 ∧ tap < 4 ∧ isV (mvF w h S tx a) (mvF w h S tx b) (1, mvF w h S tx a p0 tap, q0) t := fun v hv' => by
      cases v with
      | zero => exact absurd hv'.1 heq
      | succ t =>
        rcases hv'.1 with hw | ⟨-, tap, h4, hw⟩ | ⟨hw, -⟩
        · exact absurd hw (hv'.2 t (by omega))
        · exact ⟨t, tap, rfl, h4, hw, fun n hn hwn => hv'.2 (n + 1) (by omega) (Or.inr (Or.inl ⟨rfl, tap, h4, hwn⟩))⟩
        · exact absurd rfl hw
    refine ⟨oI b1, I1, L1, cp_X12_hunt (hS.k 76 12 (by decide) (by decide)) ⟨_, cb, fun e => absurd e (b2i_1 hbt), fun _ => ⟨fun _ => ⟨I1, L1, r1, fun y hy => by rw [hy]; exact u1⟩, fun e => ?_⟩⟩, ?_, m1, r4⟩
    · rw [e1, e2] at e
      exact absurd ((nI_eq (by omega) (by omega)).mp e) heq
    · cases b1 with
      | none =>
        have u2 : ∀ o, o < 4 → V o < 0 := u2
        refine Or.inr ⟨rfl, Or.inr (fun n hn => ?_)⟩
        rcases r3 0 p0 q0 Nat.zero_lt_two h2 h4 with ⟨v, y1, y2, y3⟩ | ⟨y1, y2⟩
        · obtain ⟨t, tap, -, ht, hvt⟩ := down v y2
          rcases st tap with ⟨v', z1, z2, z3⟩ | ⟨z1, z2⟩
          · have := u2 tap ht
            rw [z3] at this
            exact nI_pos (by omega) this
          · exact z1 t hvt.1
        · exact y1 n hn
      | some o =>
        obtain ⟨z1, z2, z3, z4⟩ := u2
        rcases st o with ⟨t, t1, t2, t3⟩ | ⟨-, t2⟩
        · have hw : wnF (mvF w h S tx a) (mvF w h S tx b) (t + 1) 0 p0 q0 := Or.inr (Or.inl ⟨rfl, o, z1, t2.1⟩)
          rcases r3 0 p0 q0 Nat.zero_lt_two h2 h4 with ⟨v, y1, y2, y3⟩ | ⟨y1, y2⟩
          · obtain ⟨t', tap, hv', ht, hvt⟩ := down v y2
            have hle := y2.le (n := t + 1) hw
            rcases st tap with ⟨v', w1, w2, w3⟩ | ⟨w1, w2⟩
            · have ev : v' = t' := w2.uniq hvt
              subst ev
              have hmin : ¬ V tap < 0 := by rw [w3]; exact nI_pos (by omega)
              have := (z4 tap ht).resolve_left hmin
              rw [t3, w3, nI_leI (by omega) (by omega)] at this
              have ett : v' = t := by omega
              subst ett
              rw [hv'] at y2
              refine Or.inl ⟨v', y2, o, z1, rfl, t2, fun o' ho' hz => ?_⟩
              rcases st o' with ⟨v'', x1, x2, x3⟩ | ⟨x1, x2⟩
              · have ex : v'' = v' := x2.uniq hz
                rcases z3 o' ho' with z | z
                · rw [x3] at z; exact nI_pos (by omega) z
                · rw [x3, t3, ex] at z; exact Int32.lt_irrefl z
              · exact x1 v' hz.1
            · exact absurd hvt.1 (w1 t')
          · exact absurd hw (y1 (t + 1))
        · rw [t2] at z2
          exact absurd (by decide) z2
theorem mo_huntN (m : MB Z I w h S tx) {x1 x2 x3 x4 : Int32} (hv : ¬ vCha w h S tx x1 x2 x3 x4) : Cl g 8 mu_X12_hunt [rf g 76, .int x1, .int x2, .int x3, .int x4] (Z, I, L) (some (.int (-1))) (Z, I, L) := by
  have hS := m.1.1
  obtain ⟨bb, cb, hbb⟩ := ms_isChase (g := g) (L := L) m x1 x2 x3 x4
  exact cp_X12_hunt (hS.k 76 12 (by decide) (by decide)) ⟨_, cb, fun _ => ⟨rfl, rfl⟩, fun e => absurd (b2i_f (fun z => hv (hbb.mp z))) e⟩
end MCHASE2
