/-! the model's readText() -/
theorem cls_cnt {K V : Nat → Nat} {u i j : Nat} {t t' : TE} (h : clsF K V u i t = .inr (t', j)) : cntE t' = cntE t + 1 := by
  unfold clsF at h
  by_cases hc : isCl (K i)
  case neg => rw [if_neg hc] at h; cases h
  rw [if_pos hc] at h
  by_cases hs : (gtE t (K i - 11)).isSome = true
  · rw [if_pos hs] at h; cases h
  rw [if_neg hs] at h
  have hn : gtE t (K i - 11) = none := by
    cases hg : gtE t (K i - 11) with
    | none => rfl
    | some f => rw [hg] at hs; exact absurd rfl hs
  have s3 : K i - 11 < 3 := by unfold isCl at hc; omega
  cases hx : prF K V (decide (K i = 13)) u (if K i = 12 then 8 else 3) 0 (i + 1) (fun _ => 0) with
  | inl e => rw [hx] at h; cases h
  | inr q =>
    rw [hx] at h
    have h : (if K q.2 = 33 then (.inr (ptE t (K i - 11) q.1, q.2 + 1) : CRs) else .inl (1, q.2)) = .inr (t', j) := h
    by_cases q33 : K q.2 = 33
    case neg => rw [if_neg q33] at h; cases h
    rw [if_pos q33] at h
    cases h
    exact (cnt_put t s3 hn q.1).1
theorem cnt_le (t : TE) : cntE t ≤ 3 := by
  unfold cntE
  repeat' split
  all_goals omega
def RtL (g : GE) (Z : Zs) (L : Nat → Nat → Int64) (k : Nat) (tp : List Nat) (ts : List (Nat × Nat × Nat)) (I : Nat → Nat → Int32) (res : (Nat × Nat) ⊕ TE) : Prop := match res with
  | .inl q => ¬ q.1 = 0 → ∃ I1 L1, Lp_X12_readText_48 g 8 76 (Z, I, L) (some (.int (nI q.1))) (Z, I1, L1) ∧ 1 ≤ q.1 ∧ q.1 ≤ 5 ∧ I1 76 10 = nI (pT ts q.2) ∧ HFz k I I1 ∧ MT I1 tp
  | .inr t => ∃ I1 L1 i cs cl, Lp_X12_readText_48 g 8 76 (Z, I, L) (some (.int 0)) (Z, I1, L1) ∧ TSt I1 L1 k tp ts i cs cl t ∧ HFz k I I1
def RtR (g : GE) (Z : Zs) (L : Nat → Nat → Int64) (k : Nat) (tp : List Nat) (ts : List (Nat × Nat × Nat)) (I : Nat → Nat → Int32) (res : (Nat × Nat) ⊕ TE) : Prop := match res with
  | .inl q => ¬ q.1 = 0 → ∃ I1 L1, Cl g 8 mu_X12_readText [rf g 76] (Z, I, L) (some (.int (nI q.1))) (Z, I1, L1) ∧ 1 ≤ q.1 ∧ q.1 ≤ 5 ∧ I1 76 10 = nI (pT ts q.2) ∧ (∀ a, a ≠ 76 → a ≠ 79 → a ≠ 81 → I1 a = I a) ∧ (∀ x, ¬ (620 * k ≤ x ∧ x < 620 * k + 620) → I1 79 x = I 79 x) ∧ ∀ q, q < 9 → I1 76 q = I 76 q
  | .inr t => ∃ I1 L1 i cs cl, Cl g 8 mu_X12_readText [rf g 76] (Z, I, L) (some (.int 0)) (Z, I1, L1) ∧ TSt I1 L1 k tp ts i cs cl t ∧ (∀ a, a ≠ 76 → a ≠ 79 → a ≠ 81 → I1 a = I a) ∧ (∀ x, ¬ (620 * k ≤ x ∧ x < 620 * k + 620) → I1 79 x = I 79 x) ∧ ∀ q, q < 9 → I1 76 q = I 76 q
section MREAD
variable {g : GE} {Z : Zs} {tp : List Nat} {ts : List (Nat × Nat × Nat)} {k u : Nat}
theorem rt_48 (hS : Sh Z) (h8 : T8 tp) (hT : TSz ts) (h11 : ∀ i, 11 ≤ kT ts i) : ∀ (d : Nat) (I : Nat → Nat → Int32) (L : Nat → Nat → Int64) (i : Nat) (cs : List (Nat × Nat)) (cl : List (Nat × Nat × Nat)) (t : TE), TSt I L k tp ts i cs cl t → d + cntE t = 4 → RtL g Z L k tp ts I (rdF (kT ts) (vT ts) u d i t) := by
  have k76 := hS.k 76 12 (by decide) (by decide)
  intro d
  induction d with
  | zero => intro I L i cs cl t _ h; have := cnt_le t; omega
  | succ d ih =>
    intro I L i cs cl t h hd
    have hkl : kT ts i < 38 := by have := hT.2.2.2.1 i; omega
    have t0 : I 76 11 = 0 ↔ kT ts i = 37 := tk_eq (x := 0) (c := 37) h.2.1.2.1 hkl (by decide) (by decide) (by decide) (by decide)
    show RtL g Z L k tp ts I (if kT ts i = 37 then .inr t else _)
    by_cases h37 : kT ts i = 37
    · rw [if_pos h37]
      exact ⟨I, L, i, cs, cl, wp_X12_readText_48 k76 ⟨fun _ => ⟨rfl, rfl⟩, fun z => absurd (t0.mpr h37) z⟩, h, HFz.refl k I⟩
    rw [if_neg h37]
    have n0 : ¬ I 76 11 = 0 := fun z => h37 (t0.mp z)
    have c := mp_clause (g := g) (u := u) hS h8 hT h11 h
    cases hx : clsF (kT ts) (vT ts) u i t with
    | inl q =>
      rw [hx] at c
      intro hz
      obtain ⟨I1, L1, a1, a2, a3, a4, a5, a6⟩ := c hz
      exact ⟨I1, L1, wp_X12_readText_48 k76 ⟨fun z => absurd z n0, fun _ => ⟨_, I1, L1, a1, fun z => absurd z (nI_ne0 (by omega) (by omega)), fun _ => ⟨rfl, rfl⟩⟩⟩, a2, a3, a4, a5, a6⟩
    | inr q =>
      obtain ⟨t', j⟩ := q
      rw [hx] at c
      obtain ⟨I1, L1, cs2, cl2, a1, a2, a3⟩ := c
      have w := ih I1 L1 j cs2 cl2 t' a2 (by rw [cls_cnt hx]; omega)
      show RtL g Z L k tp ts I (rdF (kT ts) (vT ts) u d j t')
      cases hy : rdF (kT ts) (vT ts) u d j t' with
      | inl z =>
        rw [hy] at w
        intro hz
        obtain ⟨I2, L2, b1, b2, b3, b4, b5, b6⟩ := w hz
        exact ⟨I2, L2, wp_X12_readText_48 k76 ⟨fun z => absurd z n0, fun _ => ⟨_, I1, L1, a1, fun _ => b1, fun z => absurd rfl z⟩⟩, b2, b3, b4, a3.trans b5, b6⟩
      | inr z =>
        rw [hy] at w
        obtain ⟨I2, L2, i2, cs3, cl3, b1, b2, b3⟩ := w
        exact ⟨I2, L2, i2, cs3, cl3, wp_X12_readText_48 k76 ⟨fun z => absurd z n0, fun _ => ⟨_, I1, L1, a1, fun _ => b1, fun z => absurd rfl z⟩⟩, b2, a3.trans b3⟩
theorem mp_readText (hS : Sh Z) (h8 : T8 tp) {I : Nat → Nat → Int32} {L : Nat → Nat → Int64} (hM : MT I tp) (hk : k < 4) (h77 : I 77 1 = nI k) : RtR g Z L k tp (tkL tp) I (rdF (kT (tkL tp)) (vT (tkL tp)) u 4 0 (none, none, none)) := by
  have k76 := hS.k 76 12 (by decide) (by decide)
  have hT := ts_ok (tp := tp) hM.2.1
  have n79 := hS.n 79 2480 (by decide)
  obtain ⟨J2, e2⟩ : ∃ J, J = rw1 I 76 (upd (I 76) 14 (nI (620 * k))) := ⟨_, rfl⟩
  obtain ⟨J4, e4⟩ : ∃ J, J = rw1 J2 79 (upd (J2 79) (620 * k) 0) := ⟨_, rfl⟩
  obtain ⟨J5, e5⟩ : ∃ J, J = rw1 J4 76 (upd (J4 76) 16 0) := ⟨_, rfl⟩
  obtain ⟨J6, e6⟩ : ∃ J, J = rw1 J5 76 (upd (J5 76) 20 0) := ⟨_, rfl⟩
  obtain ⟨J7, e7⟩ : ∃ J, J = rw1 J6 76 (upd (J6 76) 23 0) := ⟨_, rfl⟩
  obtain ⟨J8, e8⟩ : ∃ J, J = rw1 J7 76 (upd (J7 76) 9 0) := ⟨_, rfl⟩
  have j14 : J2 76 14 = nI (620 * k) := by rw [e2, rw1_s, upd_s]
  have o8 : ∀ a, a ≠ 76 → a ≠ 79 → J8 a = I a := fun a h1 h2 => by rw [e8, rw1_n _ _ h1, e7, rw1_n _ _ h1, e6, rw1_n _ _ h1, e5, rw1_n _ _ h1, e4, rw1_n _ _ h2, e2, rw1_n _ _ h1]
  have p4 : J4 76 = J2 76 := by rw [e4, rw1_n _ _ (by decide)]
  have u8 : ∀ x, J8 79 x = if x = 620 * k then 0 else I 79 x := fun x => by
    rw [e8, rw1_n _ _ (by decide), e7, rw1_n _ _ (by decide), e6, rw1_n _ _ (by decide), e5, rw1_n _ _ (by decide), e4, rw1_s]
    by_cases hx : x = 620 * k
    · rw [if_pos hx, hx, upd_s]
    · rw [if_neg hx, upd_n _ _ hx, e2, rw1_n _ _ (by decide)]
  have r8 : ∀ q, ¬ q = 9 → ¬ q = 14 → ¬ q = 16 → ¬ q = 20 → ¬ q = 23 → J8 76 q = I 76 q := fun q h1 h2 h3 h4 h5 => by rw [e8, rw1_s, upd_n _ _ h1, e7, rw1_s, upd_n _ _ h5, e6, rw1_s, upd_n _ _ h4, e5, rw1_s, upd_n _ _ h3, p4, e2, rw1_s, upd_n _ _ h2]
  have mt8 : MT J8 tp := hM.sf (r8 6 (by decide) (by decide) (by decide) (by decide) (by decide)) (o8 80 (by decide) (by decide))
  have j9 : J8 76 9 = 0 := by rw [e8, rw1_s, upd_s]
  obtain ⟨I1, L1, a1, a2, a3⟩ := mp_first (g := g) (L := L) hS h8 mt8 j9
  have st : TSt I1 L1 k tp (tkL tp) 0 [] [] (none, none, none) := by
    refine ⟨mt8.nf a2, a3, ⟨hk, ?_, ?_, by decide, fun j q hj => by cases hj⟩, ?_, Nat.le_refl _, hT.1, ⟨?_, fun j q hj => by cases hj⟩, rfl, fun s hs => ?_, ?_⟩
    · rw [a2.2 14 (by omega), e8, rw1_s, upd_n _ _ (by decide), e7, rw1_s, upd_n _ _ (by decide), e6, rw1_s, upd_n _ _ (by decide), e5, rw1_s, upd_n _ _ (by decide), p4]; exact j14
    · rw [a2.2 16 (by omega), e8, rw1_s, upd_n _ _ (by decide), e7, rw1_s, upd_n _ _ (by decide), e6, rw1_s, upd_n _ _ (by decide), e5, rw1_s, upd_s]; rfl
    · rw [a2.2 20 (by omega), e8, rw1_s, upd_n _ _ (by decide), e7, rw1_s, upd_n _ _ (by decide), e6, rw1_s, upd_s]
    · rw [a2.1 79 (by decide), u8, if_pos rfl]; rfl
    · have e : gtE (none, none, none) s = none := by
        unfold gtE
        split
        · rfl
        · split <;> rfl
      rw [e]
      intro j q hj; cases hj
    · rw [a2.2 23 (by omega), e8, rw1_s, upd_n _ _ (by decide), e7, rw1_s, upd_s]; rfl
  have fa : ∀ a, a ≠ 76 → a ≠ 79 → I1 a = I a := fun a h1 h2 => by rw [a2.1 a h1, o8 a h1 h2]
  have fx : ∀ x, ¬ (620 * k ≤ x ∧ x < 620 * k + 620) → I1 79 x = I 79 x := fun x hx => by rw [a2.1 79 (by decide), u8, if_neg (by omega)]
  have fq : ∀ q, q < 9 → I1 76 q = I 76 q := fun q hq => by rw [a2.2 q (by omega), r8 q (by omega) (by omega) (by omega) (by omega) (by omega)]
  have go : ∀ {r : Option Value} {M' : Mem}, Lp_X12_readText_48 g 8 76 (Z, I1, L1) r M' → Cl g 8 mu_X12_readText [rf g 76] (Z, I, L) r M' := fun {r M'} h => by
    refine cp_X12_readText k76 (hS.r 76 0 77 (by decide)) (hS.k 77 13 (by decide) (by decide)) (hS.r 76 4 79 (by decide)) (hS.k 79 13 (by decide) (by decide)) ⟨by rw [hS.n 77 205 (by decide)]; exact vp_in_nI (show 1 < 205 by decide) (by decide), fun I2 h2 => ?_⟩
    have h2 : I2 = J2 := by
      rw [h2, show (1 : Int32).toNatClampNeg = 1 by decide, h77, show (620 : Int32) * nI k = nI (620 * k) from pk_mul 620 k, e2]
    rw [h2, j14, n79]
    refine ⟨vp_in_nI (by omega) (by decide), fun I4 h4 I5 h5 I6 h6 I7 h7 I8 h8' => ?_⟩
    rw [nI_clamp (by omega), ← e4] at h4
    rw [h4, ← e5] at h5
    rw [h5, ← e6] at h6
    rw [h6, ← e7] at h7
    rw [h7, ← e8] at h8'
    rw [h8']
    exact ⟨I1, L1, a1, h⟩
  have w := rt_48 (g := g) (u := u) hS h8 hT (ts_11 tp) 4 I1 L1 0 [] [] (none, none, none) st rfl
  cases hx : rdF (kT (tkL tp)) (vT (tkL tp)) u 4 0 (none, none, none) with
  | inl q =>
    rw [hx] at w
    intro hz
    obtain ⟨I2, L2, b1, b2, b3, b4, b5, b6⟩ := w hz
    exact ⟨I2, L2, go b1, b2, b3, b4, fun a h1 h2 h3 => by rw [b5.1 a h1 h2 h3, fa a h1 h2], fun x hx => by rw [b5.2.1 x hx, fx x hx], fun q hq => by rw [b5.2.2 q (by omega) (by omega), fq q hq]⟩
  | inr t =>
    rw [hx] at w
    obtain ⟨I2, L2, i, cs, cl, b1, b2, b5⟩ := w
    exact ⟨I2, L2, i, cs, cl, go b1, b2, fun a h1 h2 h3 => by rw [b5.1 a h1 h2 h3, fa a h1 h2], fun x hx => by rw [b5.2.1 x hx, fx x hx], fun q hq => by rw [b5.2.2 q (by omega) (by omega), fq q hq]⟩
end MREAD
