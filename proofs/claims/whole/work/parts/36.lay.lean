/-! the model's table of one text's steps -/
/-- what the table says at 4 * pose + tap -/
def tabF (w h : Nat) (S : Nat → List Nat) (t : TX) (i : Nat) : Nat := if pB w h S (i / 4) then stepF w h (S 0) t (i / 4) (i % 4) else i / 4
/-- the first n of a text's steps are laid -/
def LV (I : Nat → Nat → Int32) (w h : Nat) (S : Nat → List Nat) (t : TX) (hb n : Nat) : Prop := ∀ i, i < n → I 85 (400 * hb + i) = nI (tabF w h S t i)
section LAY
variable {g : GE} {Z : Zs} {I : Nat → Nat → Int32} {L : Nat → Nat → Int64} {w h : Nat} {S : Nat → List Nat} {tx : List TX}
theorem e400 (hb p tap : Nat) : ((100 * nI hb + nI p) * 4 + nI tap : Int32) = nI (400 * hb + (4 * p + tap)) := by
  rw [show (100 : Int32) * nI hb = nI (100 * hb) from pk_mul 100 hb, nI_add, show nI (100 * hb + p) * (4 : Int32) = nI ((100 * hb + p) * 4) from pk_mul _ 4, nI_add]
  congr 1; omega
theorem e4wh (k : MM Z I w h S tx) : (4 * I 76 2) * I 76 3 = nI (4 * (w * h)) := by
  rw [k.2.2.1, k.2.2.2.1, show (4 : Int32) * nI w = nI (4 * w) from pk_mul 4 w, pk_mul, Nat.mul_assoc]
theorem vin85 (k : MM Z I w h S tx) {j : Nat} (hj : j < 1600) : vp_in (nI j) (Z.2.2.1 85) := by rw [k.1.n 85 1600 (by decide)]; exact vp_in_nI hj (by decide)
theorem MB.o85 (m : MB Z I w h S tx) (f : Nat → Int32) : MB Z (rw1 I 85 f) w h S tx := ⟨m.1.kept (fun a ha => rw1_n _ _ (by omega)), m.2.1, fun j hj => by rw [rw1_n _ _ (show (82 : Nat) ≠ 85 by decide)]; exact m.2.2 j hj⟩
theorem la_19 {hb : Nat} {t : TX} (htx : tx[hb]? = some t) {p : Nat} (hp : p < 4 * (w * h)) : ∀ (d tap : Nat) (I : Nat → Nat → Int32) (L : Nat → Nat → Int64), MB Z I w h S tx → tap + d = 4 → LV I w h S t hb (4 * p + tap) →
    ∃ I1 L1, (∀ r M', Lp_X12_lay_2 g 6 76 (nI hb) (nI (p + 1)) (Z, I1, L1) r M' → Lp_X12_lay_19 g 6 76 (nI hb) (nI p) (nI tap) (Z, I, L) r M') ∧ MB Z I1 w h S tx ∧ LV I1 w h S t hb (4 * (p + 1)) ∧ (∀ j, j < 400 * hb ∨ 400 * hb + 400 ≤ j → I1 85 j = I 85 j) ∧ (∀ a, a ≠ 82 → a ≠ 84 → a ≠ 85 → I1 a = I a) ∧ ∀ a, a ≠ 83 → L1 a = L a := by
  intro d
  induction d with
  | zero =>
    intro tap I L m ht hV
    have ht : tap = 4 := ht
    subst ht
    obtain ⟨k, hW, hr⟩ := id m
    exact ⟨I, L, fun r M' hc => wp_X12_lay_19 (k.1.k 76 12 (by decide) (by decide)) (k.1.r 76 27 85 (by decide)) (k.1.k 85 13 (by decide) (by decide)) ⟨fun _ y hy => by rw [hy, nI_1]; exact hc, fun e => absurd (nI_le (Nat.le_refl 4) (by decide)) e⟩, m, hV, fun _ _ => rfl, fun _ _ _ _ => rfl, fun _ _ => rfl⟩
  | succ d ih =>
    intro tap I L m ht hV
    obtain ⟨k, hW, hr⟩ := id m
    have hm := k.2.1.mul
    have hx4 := k.2.2.2.2.2.1
    have hbl := (List.getElem?_eq_some_iff.mp htx).1
    have pp := m_isPose (g := g) (L := L) k hW (p := p) (by omega)
    have ge : ¬ (4 : Int32) ≤ nI tap := fun e => absurd ((nI_leI (a := 4) (by decide) (by omega)).mp e) (by omega)
    by_cases hP : isP w h S p
    · obtain ⟨I1, L1, d1, d2, d3, d4⟩ := ms_made (g := g) (L := L) m htx hp (show tap < 4 by omega)
      obtain ⟨J, hJ⟩ : ∃ J, J = rw1 I1 85 (upd (I1 85) (400 * hb + (4 * p + tap)) (nI (stepF w h (S 0) t p tap))) := ⟨_, rfl⟩
      have u : ∀ i, J 85 i = if i = 400 * hb + (4 * p + tap) then nI (stepF w h (S 0) t p tap) else I 85 i := fun i => by rw [hJ, rw1_s, ← d3 85 (by decide) (by decide)]; rfl
      have f : ∀ a, a ≠ 82 → a ≠ 84 → a ≠ 85 → J a = I a := fun a h1 h2 h3 => by rw [hJ, rw1_n _ _ h3, d3 a h1 h2]
      have mJ : MB Z J w h S tx := by rw [hJ]; exact d2.o85 _
      obtain ⟨I2, L2, e1, e2, e3, e4, e5, e6⟩ := ih (tap + 1) J L1 mJ (by omega) (fun i hi => by
        rw [u]
        by_cases hi2 : i = 4 * p + tap
        · rw [if_pos (by omega), hi2]
          unfold tabF
          rw [show (4 * p + tap) / 4 = p by omega, show (4 * p + tap) % 4 = tap by omega, pB_t hP]; rfl
        · rw [if_neg (by omega)]
          exact hV i (by omega))
      refine ⟨I2, L2, fun r M' hc => wp_X12_lay_19 (k.1.k 76 12 (by decide) (by decide)) (k.1.r 76 27 85 (by decide)) (k.1.k 85 13 (by decide) (by decide)) ⟨fun e => absurd e ge, fun _ => ⟨_, pp, fun e => absurd e (b2i_1 (pB_t hP)), fun _ => ⟨_, I1, L1, d1, ?_⟩⟩⟩, e2, e3, fun j hj => by rw [e4 j hj, u, if_neg (by omega)], fun a h1 h2 h3 => by rw [e5 a h1 h2 h3, f a h1 h2 h3], fun a ha => by rw [e6 a ha, d4 a ha]⟩
      rw [e400, nI_clamp (by omega)]
      refine ⟨vin85 k (by omega), fun I12 h12 y hy => ?_⟩
      rw [hy, nI_1, h12, ← hJ]
      exact e1 r M' hc
    · obtain ⟨J, hJ⟩ : ∃ J, J = rw1 I 85 (upd (I 85) (400 * hb + (4 * p + tap)) (nI p)) := ⟨_, rfl⟩
      have u : ∀ i, J 85 i = if i = 400 * hb + (4 * p + tap) then nI p else I 85 i := fun i => by rw [hJ, rw1_s]; rfl
      have f : ∀ a, a ≠ 85 → J a = I a := fun a h3 => by rw [hJ, rw1_n _ _ h3]
      have mJ : MB Z J w h S tx := by rw [hJ]; exact m.o85 _
      obtain ⟨I2, L2, e1, e2, e3, e4, e5, e6⟩ := ih (tap + 1) J L mJ (by omega) (fun i hi => by
        rw [u]
        by_cases hi2 : i = 4 * p + tap
        · rw [if_pos (by omega), hi2]
          unfold tabF
          rw [show (4 * p + tap) / 4 = p by omega, pB_f hP]; rfl
        · rw [if_neg (by omega)]
          exact hV i (by omega))
      refine ⟨I2, L2, fun r M' hc => wp_X12_lay_19 (k.1.k 76 12 (by decide) (by decide)) (k.1.r 76 27 85 (by decide)) (k.1.k 85 13 (by decide) (by decide)) ⟨fun e => absurd e ge, fun _ => ⟨_, pp, fun _ => ?_, fun e => absurd (by rw [pB_f hP]; rfl) e⟩⟩, e2, e3, fun j hj => by rw [e4 j hj, u, if_neg (by omega)], fun a h1 h2 h3 => by rw [e5 a h1 h2 h3, f a h3], e6⟩
      rw [e400, nI_clamp (by omega)]
      refine ⟨vin85 k (by omega), fun I12 h12 y hy => ?_⟩
      rw [hy, nI_1, h12, ← hJ]
      exact e1 r M' hc
theorem la_2 {hb : Nat} {t : TX} (htx : tx[hb]? = some t) : ∀ (d p : Nat) (I : Nat → Nat → Int32) (L : Nat → Nat → Int64), MB Z I w h S tx → p + d = 4 * (w * h) → LV I w h S t hb (4 * p) →
    ∃ I1 L1, Lp_X12_lay_2 g 6 76 (nI hb) (nI p) (Z, I, L) none (Z, I1, L1) ∧ MB Z I1 w h S tx ∧ LV I1 w h S t hb (16 * (w * h)) ∧ (∀ j, j < 400 * hb ∨ 400 * hb + 400 ≤ j → I1 85 j = I 85 j) ∧ (∀ a, a ≠ 82 → a ≠ 84 → a ≠ 85 → I1 a = I a) ∧ ∀ a, a ≠ 83 → L1 a = L a := by
  intro d
  induction d with
  | zero =>
    intro p I L m hp hV
    obtain ⟨k, hW, hr⟩ := id m
    have hm := k.2.1.mul
    refine ⟨I, L, wp_X12_lay_2 (k.1.k 76 12 (by decide) (by decide)) ⟨fun _ => ⟨rfl, rfl⟩, fun e => ?_⟩, m, fun i hi => hV i (by omega), fun _ _ => rfl, fun _ _ _ _ => rfl, fun _ _ => rfl⟩
    rw [e4wh k] at e
    exact absurd (nI_le (show 4 * (w * h) ≤ p by omega) (by omega)) e
  | succ d ih =>
    intro p I L m hp hV
    obtain ⟨k, hW, hr⟩ := id m
    have hm := k.2.1.mul
    obtain ⟨I1, L1, d1, d2, d3, d4, d5, d6⟩ := la_19 (g := g) (Z := Z) htx (show p < 4 * (w * h) by omega) 4 0 I L m (by omega) hV
    obtain ⟨I2, L2, e1, e2, e3, e4, e5, e6⟩ := ih (p + 1) I1 L1 d2 (by omega) d3
    refine ⟨I2, L2, wp_X12_lay_2 (k.1.k 76 12 (by decide) (by decide)) ⟨fun e => ?_, fun _ => d1 _ _ e1⟩, e2, e3, fun j hj => by rw [e4 j hj, d4 j hj], fun a h1 h2 h3 => by rw [e5 a h1 h2 h3, d5 a h1 h2 h3], fun a ha => by rw [e6 a ha, d6 a ha]⟩
    rw [e4wh k] at e
    exact absurd e (nI_ge (show p < 4 * (w * h) by omega) (by omega))
theorem ms_lay (m : MB Z I w h S tx) {hb : Nat} {t : TX} (htx : tx[hb]? = some t) : ∃ I1 L1, Cl g 6 mu_X12_lay [rf g 76, .int (nI hb)] (Z, I, L) none (Z, I1, L1) ∧ MB Z I1 w h S tx ∧ LV I1 w h S t hb (16 * (w * h)) ∧ (∀ j, j < 400 * hb ∨ 400 * hb + 400 ≤ j → I1 85 j = I 85 j) ∧ (∀ a, a ≠ 82 → a ≠ 84 → a ≠ 85 → I1 a = I a) ∧ ∀ a, a ≠ 83 → L1 a = L a := by
  obtain ⟨I1, L1, d1, d2⟩ := la_2 (g := g) (Z := Z) htx (4 * (w * h)) 0 I L m (by omega) (fun i hi => absurd hi (by omega))
  exact ⟨I1, L1, cp_X12_lay (m.1.1.k 76 12 (by decide) (by decide)) d1, d2⟩
theorem ms_laid (k : MM Z I w h S tx) {hb p tap : Nat} {t : TX} (htx : tx[hb]? = some t) (hV : LV I w h S t hb (16 * (w * h))) (hp : isP w h S p) (ht : tap < 4) : Cl g 1 mu_X12_laid [rf g 76, .int (nI hb), .int (nI p), .int (nI tap)] (Z, I, L) (some (.int (nI (stepF w h (S 0) t p tap)))) (Z, I, L) := by
  have hm := k.2.1.mul
  have hx4 := k.2.2.2.2.2.1
  have hbl := (List.getElem?_eq_some_iff.mp htx).1
  have hp1 := hp.1
  refine cp_X12_laid (k.1.k 76 12 (by decide) (by decide)) (k.1.r 76 27 85 (by decide)) (k.1.k 85 13 (by decide) (by decide)) ?_
  rw [e400, nI_clamp (by omega), hV _ (by omega), show tabF w h S t (4 * p + tap) = stepF w h (S 0) t p tap from by
    unfold tabF
    rw [show (4 * p + tap) / 4 = p by omega, show (4 * p + tap) % 4 = tap by omega, pB_t hp]; rfl]
  exact ⟨vin85 k (by omega), rfl, rfl⟩
end LAY
