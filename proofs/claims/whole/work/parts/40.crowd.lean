/-! crowd(), the class's side -/
def unH (home p : Nat) : Option Nat := if p / 4 = home then none else some p
def tpF (S : Nat → List Nat) (tx : List TX) (j : Nat) : TX := (tx[(S 2).getD j 0]?).getD (none, none, none)
def q0F (S : Nat → List Nat) (home j : Nat) : Option Nat := unH home ((S 1).getD j 0)
def inC (o : Option Nat) (c : Nat) : Bool := match o with
  | none => false
  | some p => decide (p / 4 = c)
def tkB (q : Nat → Option Nat) (c : Nat) : Nat → Nat → Bool
  | 0, _ => false
  | d + 1, i => inC (q i) c || tkB q c d (i + 1)
def emB (q : Nat → Option Nat) : Nat → Nat → Bool
  | 0, _ => true
  | d + 1, i => (q i).isNone && emB q d (i + 1)
/-- one pair's turn in a round -/
def rndS (w h : Nat) (S : Nat → List Nat) (tx : List TX) (home tap j : Nat) (q : Nat → Option Nat) : Nat → Option Nat := match q j with
  | none => q
  | some p => if stepF w h (S 0) (tpF S tx j) p tap % 200 / 4 = p / 4 ∨ tkB q (stepF w h (S 0) (tpF S tx j) p tap % 200 / 4) (S 1).length 0 = false then rw1 q j (unH home (stepF w h (S 0) (tpF S tx j) p tap % 200)) else q
def rndF (w h : Nat) (S : Nat → List Nat) (tx : List TX) (home tap : Nat) : Nat → Nat → (Nat → Option Nat) → Nat → Option Nat
  | 0, _, q => q
  | d + 1, j, q => rndF w h S tx home tap d (j + 1) (rndS w h S tx home tap j q)
def crF (w h : Nat) (S : Nat → List Nat) (tx : List TX) (home : Nat) : Nat → Nat → (Nat → Option Nat) → Int32
  | 0, _, _ => -1
  | d + 1, r, q => if emB q (S 1).length 0 then nI r else if (S 3).length = 0 then crF w h S tx home d (r + 1) q else crF w h S tx home d (r + 1) (rndF w h S tx home ((S 3).getD (r % (S 3).length) 0) (S 1).length 0 q)
/-- all that are in the town stand somewhere -/
def qok (w h : Nat) (S : Nat → List Nat) (q : Nat → Option Nat) : Prop := ∀ j p, j < (S 1).length → q j = some p → isP w h S p
def CW (I : Nat → Nat → Int32) (n : Nat) (q : Nat → Option Nat) : Prop := I 74 3 = nI n ∧ ∀ j, j < n → I 75 j = oI (q j)
section CROWD
variable {g : GE} {Z : Zs} {I : Nat → Nat → Int32} {L : Nat → Nat → Int64} {w h : Nat} {S : Nat → List Nat} {tx : List TX}
theorem CL.kept {I1 : Nat → Nat → Int32} (c : CL Z I w h S tx) (hf : ∀ a, stA a ∨ 99 ≤ a ∨ a = 13 ∨ a = 15 ∨ a = 67 → I1 a = I a) : CL Z I1 w h S tx := by
  obtain ⟨k, hW, hm, hN, hK⟩ := id c
  exact ⟨k.kept (fun a ha => hf a (by rcases ha with ha | ha; exact Or.inl ha; exact Or.inr (Or.inl ha.1))), hW, hm.kept (by rw [hf 13 (by omega)]) (hf 15 (by omega)), hN, by rw [hf 67 (by omega)]; exact hK⟩
theorem CL.o7 (c : CL Z I w h S tx) {b : Nat} (hb : b = 74 ∨ b = 75) (f : Nat → Int32) : CL Z (rw1 I b f) w h S tx := c.kept (fun a ha => rw1_n _ _ (by unfold stA at ha; omega))
theorem WF.tp (hW : WF w h S tx) {q : Nat} (hq : q < (S 1).length) : tx[(S 2).getD q 0]? = some (tpF S tx q) := by
  obtain ⟨t, h1, -⟩ := hW.habit hq
  rw [h1]; unfold tpF; rw [h1]; rfl
theorem oI_no {o : Option Nat} (ho : ∀ p, o = some p → p < 2 ^ 31) : oI o = -1 ↔ o = none := by
  cases o with
  | none => exact ⟨fun _ => rfl, fun _ => rfl⟩
  | some p => exact ⟨fun e => absurd e (nI_ne_m1 (ho p rfl)), fun e => by cases e⟩
theorem sp_unH {p home : Nat} (hp : p < 2 ^ 31) (hh : home < 2 ^ 31) : Cl g 1 mu_X1_unlessHome [.int (nI p), .int (nI home)] (Z, I, L) (some (.int (oI (unH home p)))) (Z, I, L) := by
  refine cp_X1_unlessHome ?_
  rw [show nI p / 4 = nI (p / 4) from pk_div (d := 4) hp (by decide) (by decide)]
  refine ⟨fun e => ⟨?_, rfl⟩, fun e => ⟨?_, rfl⟩⟩
  · unfold unH; rw [if_neg (fun z => e (by rw [z]))]; rfl
  · unfold unH; rw [if_pos ((nI_eq (by omega) hh).mp e)]; rfl
theorem v75 (hS : Sh Z) {j : Nat} (hj : j < 6) : vp_in (nI j) (Z.2.2.1 75) := by rw [hS.n 75 6 (by decide)]; exact vp_in_nI hj (by decide)
theorem bg_run {home n : Nat} (hh : home < w * h) (hn : n = (S 1).length) : ∀ (d j : Nat) (I : Nat → Nat → Int32), CL Z I w h S tx → I 74 3 = nI n → (∀ i, i < j → I 75 i = oI (q0F S home i)) → j + d = n →
    ∃ I1, Lp_X1_begin_21 g 2 74 (nI home) (nI j) (Z, I, L) none (Z, I1, L) ∧ CL Z I1 w h S tx ∧ CW I1 n (q0F S home) ∧ ∀ a, a ≠ 75 → I1 a = I a := by
  intro d
  induction d with
  | zero =>
    intro j I c h3 hq hj
    obtain ⟨k, hW, -⟩ := id c
    have hl1 : (S 1).length ≤ 6 := (k.il 1 (by decide)).2.2.2.2.2.1
    refine ⟨I, wp_X1_begin_21 (k.1.k 74 1 (by decide) (by decide)) (k.1.r 74 2 75 (by decide)) (k.1.k 75 13 (by decide) (by decide)) (k.1.r 74 0 18 (by decide)) (k.1.k 18 8 (by decide) (by decide)) (k.1.r 18 3 19 (by decide)) (k.1.k 19 2 (by decide) (by decide)) ⟨fun _ => ⟨rfl, rfl⟩, fun e => ?_⟩, c, ⟨h3, fun i hi => hq i (by omega)⟩, fun _ _ => rfl⟩
    rw [h3] at e
    exact absurd (nI_le (show n ≤ j by omega) (by omega)) e
  | succ d ih =>
    intro j I c h3 hq hj
    obtain ⟨k, hW, -⟩ := id c
    have hm := k.2.1.mul
    have hl1 : (S 1).length ≤ 6 := (k.il 1 (by decide)).2.2.2.2.2.1
    have ca := sp_at (g := g) (L := L) (k.il 1 (by decide)) (nI j)
    rw [atL_n _ (by omega)] at ca
    have hp := (hW.pose (q := j) (by omega)).1
    obtain ⟨J, hJ⟩ : ∃ J, J = rw1 I 75 (upd (I 75) j (oI (q0F S home j))) := ⟨_, rfl⟩
    have u : ∀ i, J 75 i = if i = j then oI (q0F S home j) else I 75 i := fun i => by rw [hJ, rw1_s]; rfl
    have f : ∀ a, a ≠ 75 → J a = I a := fun a ha => by rw [hJ]; exact rw1_n _ _ ha
    obtain ⟨I1, e1, e2, e3, e4⟩ := ih (j + 1) J (by rw [hJ]; exact c.o7 (Or.inr rfl) _) (by rw [f 74 (by decide)]; exact h3) (fun i hi => by
      rw [u]
      by_cases hij : i = j
      · rw [if_pos hij, hij]
      · rw [if_neg hij]; exact hq i (by omega)) (by omega)
    refine ⟨I1, wp_X1_begin_21 (k.1.k 74 1 (by decide) (by decide)) (k.1.r 74 2 75 (by decide)) (k.1.k 75 13 (by decide) (by decide)) (k.1.r 74 0 18 (by decide)) (k.1.k 18 8 (by decide) (by decide)) (k.1.r 18 3 19 (by decide)) (k.1.k 19 2 (by decide) (by decide)) ⟨fun e => ?_, fun _ => ⟨_, ca, _, sp_unH (by omega) (by omega), v75 k.1 (by omega), fun I6 h6 y hy => ?_⟩⟩, e2, e3, fun a ha => by rw [e4 a ha, f a ha]⟩
    · rw [h3] at e
      exact absurd e (nI_ge (show j < n by omega) (by omega))
    · rw [nI_clamp (by omega)] at h6
      rw [hy, nI_1, h6]
      rw [hJ] at e1
      exact e1
theorem cw_begin (c : CL Z I w h S tx) {home : Nat} (hh : home < w * h) : ∃ I1, Cl g 2 mu_X1_begin [rf g 74, .int (nI home)] (Z, I, L) none (Z, I1, L) ∧ CL Z I1 w h S tx ∧ CW I1 (S 1).length (q0F S home) ∧ ∀ a, a ≠ 74 → a ≠ 75 → I1 a = I a := by
  obtain ⟨k, hW, -⟩ := id c
  have hl1 : (S 1).length ≤ 6 := (k.il 1 (by decide)).2.2.2.2.2.1
  obtain ⟨J, hJ⟩ : ∃ J, J = rw1 I 74 (upd (I 74) 3 (nI (S 1).length)) := ⟨_, rfl⟩
  obtain ⟨I1, e1, e2, e3, e4⟩ := bg_run (g := g) (L := L) hh rfl (S 1).length 0 J (by rw [hJ]; exact c.o7 (Or.inl rfl) _) (by rw [hJ, rw1_s]; rfl) (fun i hi => absurd hi (by omega)) (Nat.zero_add _)
  refine ⟨I1, cp_X1_begin (k.1.k 74 1 (by decide) (by decide)) (k.1.r 74 0 18 (by decide)) (k.1.k 18 8 (by decide) (by decide)) (k.1.r 18 3 19 (by decide)) (k.1.k 19 2 (by decide) (by decide)) ⟨_, sp_size (k.il 1 (by decide)), fun I3 h3 => ?_⟩, e2, e3, fun a h1 h2 => by rw [e4 a h2, hJ]; exact rw1_n _ _ h1⟩
  have h6 : ¬ (6 : Int32) < nI (S 1).length := fun z => absurd ((nI_ltI (a := 6) (b := (S 1).length) (by decide) (by omega)).mp z) (by omega)
  rw [if_neg h6, ← hJ] at h3
  rw [h3]; exact e1
theorem qlt (k : wh w h) {q : Nat → Option Nat} (hq : qok w h S q) {j : Nat} (hj : j < (S 1).length) : ∀ p, q j = some p → p < 2 ^ 31 := fun p hp => by
  have := (hq j p hj hp).1
  have hm := k.mul
  omega
theorem cw_empty (k : CS Z I w h S tx) {q : Nat → Option Nat} (hq : qok w h S q) (hC : CW I (S 1).length q) : ∀ (d j : Nat), j + d = (S 1).length → Lp_X1_isEmpty_2 g 1 74 (nI j) (Z, I, L) (some (.int (b2i (emB q d j)))) (Z, I, L) := by
  have hl1 : (S 1).length ≤ 6 := (k.il 1 (by decide)).2.2.2.2.2.1
  intro d
  induction d with
  | zero =>
    intro j hj
    refine wp_X1_isEmpty_2 (k.1.k 74 1 (by decide) (by decide)) (k.1.r 74 2 75 (by decide)) (k.1.k 75 13 (by decide) (by decide)) ⟨fun _ => ⟨rfl, rfl⟩, fun e => ?_⟩
    rw [hC.1] at e
    exact absurd (nI_le (show (S 1).length ≤ j by omega) (by omega)) e
  | succ d ih =>
    intro j hj
    have e75 : I 75 (nI j).toNatClampNeg = oI (q j) := by rw [nI_clamp (by omega)]; exact hC.2 j (by omega)
    refine wp_X1_isEmpty_2 (k.1.k 74 1 (by decide) (by decide)) (k.1.r 74 2 75 (by decide)) (k.1.k 75 13 (by decide) (by decide)) ⟨fun e => ?_, fun _ => ⟨v75 k.1 (by omega), ?_⟩⟩
    · rw [hC.1] at e
      exact absurd e (nI_ge (show j < (S 1).length by omega) (by omega))
    · rw [e75, oI_no (qlt k.2.1 hq (by omega))]
      refine ⟨fun e y hy => ?_, fun e => ⟨?_, rfl⟩⟩
      · rw [hy, nI_1, show emB q (d + 1) j = emB q d (j + 1) from by
          show ((q j).isNone && emB q d (j + 1)) = _
          rw [e]; rfl]
        exact ih (j + 1) (by omega)
      · rw [show emB q (d + 1) j = false from by
          show ((q j).isNone && emB q d (j + 1)) = _
          cases hqj : q j with
          | none => exact absurd hqj e
          | some p => rfl]; rfl
theorem cw_has (k : CS Z I w h S tx) {q : Nat → Option Nat} (hq : qok w h S q) (hC : CW I (S 1).length q) {c : Nat} (hc : c < 2 ^ 31) : ∀ (d j : Nat), j + d = (S 1).length → Lp_X1_hasPairIn_2 g 1 74 (nI c) (nI j) (Z, I, L) (some (.int (b2i (tkB q c d j)))) (Z, I, L) := by
  have hl1 : (S 1).length ≤ 6 := (k.il 1 (by decide)).2.2.2.2.2.1
  have hm := k.2.1.mul
  intro d
  induction d with
  | zero =>
    intro j hj
    refine wp_X1_hasPairIn_2 (k.1.k 74 1 (by decide) (by decide)) (k.1.r 74 2 75 (by decide)) (k.1.k 75 13 (by decide) (by decide)) ⟨fun _ => ⟨rfl, rfl⟩, fun e => ?_⟩
    rw [hC.1] at e
    exact absurd (nI_le (show (S 1).length ≤ j by omega) (by omega)) e
  | succ d ih =>
    intro j hj
    have e75 : I 75 (nI j).toNatClampNeg = oI (q j) := by rw [nI_clamp (by omega)]; exact hC.2 j (by omega)
    refine wp_X1_hasPairIn_2 (k.1.k 74 1 (by decide) (by decide)) (k.1.r 74 2 75 (by decide)) (k.1.k 75 13 (by decide) (by decide)) ⟨fun e => ?_, fun _ => ⟨v75 k.1 (by omega), ?_⟩⟩
    · rw [hC.1] at e
      exact absurd e (nI_ge (show j < (S 1).length by omega) (by omega))
    · rw [e75, oI_no (qlt k.2.1 hq (by omega))]
      refine ⟨fun e y hy => ?_, fun e => ⟨v75 k.1 (by omega), ?_⟩⟩
      · rw [hy, nI_1, show tkB q c (d + 1) j = tkB q c d (j + 1) from by
          show (inC (q j) c || tkB q c d (j + 1)) = _
          rw [e]; rfl]
        exact ih (j + 1) (by omega)
      · cases hqj : q j with
        | none => exact absurd hqj e
        | some p =>
          have hp := (hq j p (by omega) hqj).1
          have e4 : nI p / 4 = nI (p / 4) := pk_div (d := 4) (by omega) (by decide) (by decide)
          rw [show oI (some p) = nI p from rfl, e4]
          refine ⟨fun e2 y hy => ?_, fun e2 => ⟨?_, rfl⟩⟩
          · rw [hy, nI_1, show tkB q c (d + 1) j = tkB q c d (j + 1) from by
              show (inC (q j) c || tkB q c d (j + 1)) = _
              rw [hqj]
              show (decide (p / 4 = c) || _) = _
              rw [decide_eq_false (fun z => e2 (by rw [z]))]; rfl]
            exact ih (j + 1) (by omega)
          · rw [show tkB q c (d + 1) j = true from by
              show (inC (q j) c || tkB q c d (j + 1)) = _
              rw [hqj]
              show (decide (p / 4 = c) || _) = _
              rw [decide_eq_true ((nI_eq (by omega) hc).mp e2)]; rfl]; rfl
theorem qok.put {q : Nat → Option Nat} (k : qok w h S q) {home p j : Nat} (hp : isP w h S p) : qok w h S (rw1 q j (unH home p)) := fun i r hi hr => by
  by_cases hij : i = j
  · subst hij
    rw [rw1_s] at hr
    unfold unH at hr
    split at hr
    · cases hr
    · cases hr; exact hp
  · rw [rw1_n _ _ hij] at hr
    exact k i r hi hr
end CROWD
