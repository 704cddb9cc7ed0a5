/-! the model's text(), whole -/
def MtC (I : Nat → Nat → Int32) (I1 : Nat → Nat → Int32) (k : Nat) (f p : Int32) : Prop := I1 76 7 = f ∧ I1 76 8 = p ∧ MT I1 [] ∧ (∀ a, a ≠ 76 → a ≠ 77 → a ≠ 79 → a ≠ 81 → I1 a = I a) ∧ (∀ x, ¬ (620 * k ≤ x ∧ x < 620 * k + 620) → I1 79 x = I 79 x) ∧ (∀ q, q < 6 → I1 76 q = I 76 q) ∧ ∀ x, ¬ x = 1 → I1 77 x = I 77 x
def MtO (g : GE) (Z : Zs) (L : Nat → Nat → Int64) (tp : List Nat) (k : Nat) (I : Nat → Nat → Int32) (res : (Nat × Nat) ⊕ TE) : Prop := match res with
  | .inl q => ¬ q.1 = 0 → ∃ I1 L1, Cl g 9 mu_X12_text [rf g 76] (Z, I, L) (some (.int (-1))) (Z, I1, L1) ∧ MtC I I1 k (nI q.1) (nI (pT (tkL tp) q.2)) ∧ I1 77 1 = I 77 1
  | .inr t => ∃ I1 L1, Cl g 9 mu_X12_text [rf g 76] (Z, I, L) (some (.int (nI k))) (Z, I1, L1) ∧ MtC I I1 k 0 (-1) ∧ I1 77 1 = nI (k + 1) ∧ TM Z I1 k (txE t)
section MOTX
variable {g : GE} {Z : Zs} {I : Nat → Nat → Int32} {L : Nat → Nat → Int64} {tp : List Nat} {k : Nat}
theorem TM.k79 {I1 : Nat → Nat → Int32} {t : TX} (h : TM Z I k t) (e : ∀ x, 620 * k ≤ x → x < 620 * k + 620 → I1 79 x = I 79 x) : TM Z I1 k t := by
  have one : ∀ {s : Nat} {Q : List (Nat × Nat) → Prop} {b : Bool}, CM Z I k s Q b → CM Z I1 k s Q b := fun {s Q b} c => by
    obtain ⟨nc, n3, a, b1, b2⟩ := c
    refine ⟨nc, n3, by rw [e _ (by omega) (by omega)]; exact a, fun hf j hj => by rw [e _ (by omega) (by omega)]; exact b1 hf j hj, fun ht => ?_⟩
    obtain ⟨j, i, cs, q1, q2, q3, q4, q5, q6, q7, q8⟩ := b2 ht
    refine ⟨j, i, cs, q1, by rw [e _ (by omega) (by omega)]; exact q2, fun j2 h2 => by rw [e _ (by omega) (by omega)]; exact q3 j2 h2, by rw [e _ (by omega) (by omega)]; exact q4, by rw [e _ (by omega) (by omega)]; exact q5, q6, fun m q hm => ?_, q8⟩
    have ml := (List.getElem?_eq_some_iff.mp hm).1
    obtain ⟨x1, x2, x3, x4⟩ := q7 m q hm
    exact ⟨x1, x2, by rw [e _ (by omega) (by omega)]; exact x3, by rw [e _ (by omega) (by omega)]; exact x4⟩
  exact ⟨one h.1, one h.2.1, one h.2.2⟩
theorem mo_textN (hS : Sh Z) (h77 : I 77 1 = 4) : Cl g 9 mu_X12_text [rf g 76] (Z, I, L) (some (.int (-1))) (Z, I, L) := by
  refine cp_X12_text (hS.k 76 12 (by decide) (by decide)) (hS.r 76 0 77 (by decide)) (hS.k 77 13 (by decide) (by decide)) ⟨by rw [hS.n 77 205 (by decide)]; exact vp_in_nI (show 1 < 205 by decide) (by decide), fun z => ?_, fun _ => ⟨rfl, rfl⟩⟩
  exact absurd h77 z
theorem mo_text (hS : Sh Z) (h8 : T8 tp) (hM : MT I tp) (hk : k < 4) (h77 : I 77 1 = nI k) : MtO g Z L tp k I (rdF (kT (tkL tp)) (vT (tkL tp)) 3100 4 0 (none, none, none)) := by
  have k76 := hS.k 76 12 (by decide) (by decide)
  have r77 := hS.r 76 0 77 (by decide)
  have k77 := hS.k 77 13 (by decide) (by decide)
  have v1 : vp_in 1 (Z.2.2.1 77) := by rw [hS.n 77 205 (by decide)]; exact vp_in_nI (show 1 < 205 by decide) (by decide)
  have n4 : ¬ I 77 (1 : Int32).toNatClampNeg = 4 := by
    rw [show (1 : Int32).toNatClampNeg = 1 by decide, h77]
    exact fun z => absurd ((nI_eq (b := 4) (by omega) (by decide)).mp z) (by omega)
  have w := mp_readText (g := g) (L := L) (u := 3100) hS h8 hM hk h77
  cases hx : rdF (kT (tkL tp)) (vT (tkL tp)) 3100 4 0 (none, none, none) with
  | inl q =>
    rw [hx] at w
    intro hz
    obtain ⟨J, L1, a1, a2, a3, a4, a5, a6, a7⟩ := w hz
    obtain ⟨J6, e6⟩ : ∃ K, K = rw1 J 76 (upd (J 76) 7 (nI q.1)) := ⟨_, rfl⟩
    obtain ⟨J7, e7⟩ : ∃ K, K = rw1 J6 76 (upd (J6 76) 8 (nI (pT (tkL tp) q.2))) := ⟨_, rfl⟩
    obtain ⟨J8, e8⟩ : ∃ K, K = rw1 J7 76 (upd (J7 76) 6 0) := ⟨_, rfl⟩
    have f7 : J6 76 7 = nI q.1 := by rw [e6, rw1_s, upd_s]
    have f10 : J6 76 10 = nI (pT (tkL tp) q.2) := by rw [e6, rw1_s, upd_n _ _ (by decide)]; exact a4
    have g7 : J8 76 7 = nI q.1 := by rw [e8, rw1_s, upd_n _ _ (by decide), e7, rw1_s, upd_n _ _ (by decide)]; exact f7
    have ne : ¬ nI q.1 = 0 := nI_ne0 (by omega) (by omega)
    have o : ∀ a, a ≠ 76 → J8 a = J a := fun a ha => by rw [e8, rw1_n _ _ ha, e7, rw1_n _ _ ha, e6, rw1_n _ _ ha]
    refine ⟨J8, L1, cp_X12_text k76 r77 k77 ⟨v1, fun _ => ⟨_, J, L1, a1, fun I6 h6 => ?_⟩, fun z => absurd z n4⟩, ⟨g7, ?_, ⟨?_, Nat.zero_le _, fun j v hj => by cases hj⟩, fun a h1 _ h3 h4 => by rw [o a h1, a5 a h1 h3 h4], fun x hx => by rw [o 79 (by decide), a6 x hx], fun p hp => ?_, fun x _ => by rw [o 77 (by decide), a5 77 (by decide) (by decide) (by decide)]⟩, by rw [o 77 (by decide), a5 77 (by decide) (by decide) (by decide)]⟩
    · rw [← e6] at h6
      rw [h6]
      refine ⟨fun _ I7 h7 I8 h8' => ?_, fun z => absurd (f7.symm.trans z) ne⟩
      rw [f10, ← e7] at h7
      rw [h7, ← e8] at h8'
      rw [h8']
      exact ⟨fun z => absurd (g7.symm.trans z) ne, fun _ => ⟨rfl, rfl⟩⟩
    · rw [e8, rw1_s, upd_n _ _ (by decide), e7, rw1_s, upd_s]
    · rw [e8, rw1_s, upd_s]; rfl
    · rw [e8, rw1_s, upd_n _ _ (by omega), e7, rw1_s, upd_n _ _ (by omega), e6, rw1_s, upd_n _ _ (by omega)]; exact a7 p (by omega)
  | inr t =>
    rw [hx] at w
    obtain ⟨J, L1, i, cs, cl, a1, a2, a5, a6, a7⟩ := w
    have tm := tm_of (Z := Z) a2
    obtain ⟨J6, e6⟩ : ∃ K, K = rw1 J 76 (upd (J 76) 7 0) := ⟨_, rfl⟩
    obtain ⟨J7, e7⟩ : ∃ K, K = rw1 J6 76 (upd (J6 76) 8 (-1)) := ⟨_, rfl⟩
    obtain ⟨J8, e8⟩ : ∃ K, K = rw1 J7 76 (upd (J7 76) 6 0) := ⟨_, rfl⟩
    obtain ⟨J9, e9⟩ : ∃ K, K = rw1 J8 77 (upd (J8 77) 1 (nI (k + 1))) := ⟨_, rfl⟩
    have f7 : J6 76 7 = 0 := by rw [e6, rw1_s, upd_s]
    have g7 : J8 76 7 = 0 := by rw [e8, rw1_s, upd_n _ _ (by decide), e7, rw1_s, upd_n _ _ (by decide)]; exact f7
    have o : ∀ a, a ≠ 76 → J8 a = J a := fun a ha => by rw [e8, rw1_n _ _ ha, e7, rw1_n _ _ ha, e6, rw1_n _ _ ha]
    have j77 : J8 77 1 = nI k := by rw [o 77 (by decide), a5 77 (by decide) (by decide) (by decide)]; exact h77
    have c1 : (1 : Int32).toNatClampNeg = 1 := by decide
    have p9 : J9 76 = J8 76 := by rw [e9, rw1_n _ _ (by decide)]
    have o9 : ∀ a, a ≠ 76 → a ≠ 77 → J9 a = J a := fun a h1 h2 => by rw [e9, rw1_n _ _ h2, o a h1]
    refine ⟨J9, L1, cp_X12_text k76 r77 k77 ⟨v1, fun _ => ⟨_, J, L1, a1, fun I6 h6 => ?_⟩, fun z => absurd z n4⟩, ⟨by rw [p9]; exact g7, ?_, ⟨?_, Nat.zero_le _, fun j v hj => by cases hj⟩, fun a h1 h2 h3 h4 => by rw [o9 a h1 h2, a5 a h1 h3 h4], fun x hx => by rw [o9 79 (by decide) (by decide), a6 x hx], fun p hp => ?_, fun x hx => ?_⟩, by rw [e9, rw1_s, upd_s], tm.k79 (fun x _ _ => by rw [o9 79 (by decide) (by decide)])⟩
    · rw [← e6] at h6
      rw [h6]
      refine ⟨fun z => absurd f7 z, fun _ I13 h13 I14 h14 => ?_⟩
      rw [← e7] at h13
      rw [h13, ← e8] at h14
      rw [h14]
      refine ⟨fun _ => ⟨v1, v1, fun I17 h17 => ⟨v1, ?_, ?_⟩⟩, fun z => absurd g7 z⟩
      · rw [c1, j77, nI_1, ← e9] at h17
        rw [h17, c1, e9, rw1_s, upd_s, nI_pred]
      · rw [c1, j77, nI_1, ← e9] at h17
        rw [h17]
    · rw [p9, e8, rw1_s, upd_n _ _ (by decide), e7, rw1_s, upd_s]
    · rw [p9, e8, rw1_s, upd_s]; rfl
    · rw [p9, e8, rw1_s, upd_n _ _ (by omega), e7, rw1_s, upd_n _ _ (by omega), e6, rw1_s, upd_n _ _ (by omega)]; exact a7 p (by omega)
    · rw [e9, rw1_s, upd_n _ _ hx, o 77 (by decide), a5 77 (by decide) (by decide) (by decide)]
end MOTX
