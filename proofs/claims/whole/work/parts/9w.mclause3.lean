/-! the model's clause(), against the meaning -/
section MCLB
variable {g : GE} {Z : Zs} {tp : List Nat} {ts : List (Nat × Nat × Nat)} {k : Nat}
theorem mp_clause (hS : Sh Z) (h8 : T8 tp) (hT : TSz ts) (h11 : ∀ i, 11 ≤ kT ts i) {I : Nat → Nat → Int32} {L : Nat → Nat → Int64} {i u : Nat} {cs : List (Nat × Nat)} {cl : List (Nat × Nat × Nat)} {t : TE} (h : TSt I L k tp ts i cs cl t) : McR g Z L k tp ts i I (clsF (kT ts) (vT ts) u i t) := by
  have k76 := hS.k 76 12 (by decide) (by decide)
  have r79 := hS.r 76 4 79 (by decide)
  have k79 := hS.k 79 13 (by decide) (by decide)
  have n79 := hS.n 79 2480 (by decide)
  obtain ⟨hM, hk, hc, h20, hb, hi, ⟨tb0, tb1⟩, hcn, hmc, h23⟩ := h
  have k4 := hc.1
  have hkl : kT ts i < 38 := by have := hT.2.2.2.1 i; omega
  have so := mp_sortOf (g := g) (Z := Z) hS hk.2.1 hkl (hT.2.2.2.2.2.1 i)
  unfold clsF
  by_cases hcl : isCl (kT ts i)
  case neg =>
    rw [if_neg hcl]
    rw [if_neg hcl] at so
    exact fun _ => ⟨I, L, cp_X12_clause k76 r79 k79 ⟨_, so, fun z => absurd z (by decide), fun _ => ⟨rfl, rfl⟩⟩, show 1 ≤ 1 by decide, show 1 ≤ 5 by decide, hk.1, HFz.refl k I, hM⟩
  rw [if_pos hcl]
  rw [if_pos hcl] at so
  obtain ⟨c, hcc⟩ : ∃ c, c = kT ts i := ⟨_, rfl⟩
  rw [← hcc] at hcl so ⊢
  obtain ⟨s, hss⟩ : ∃ s, s = c - 11 := ⟨_, rfl⟩
  have s3 : s < 3 := by omega
  rw [← hss] at so ⊢
  have ob := on_lt t
  obtain ⟨tab1, tab2⟩ := on_tab (onF t) ob s s3
  have bit := on_bit t s3
  have pos : (0 : Int32) ≤ nI s := by rw [← nI_0]; exact nI_le (by omega) (by omega)
  by_cases hso : (gtE t s).isSome = true
  · rw [if_pos hso]
    rw [if_pos hso] at bit
    refine fun _ => ⟨I, L, cp_X12_clause k76 r79 k79 ⟨_, so, fun _ => ⟨fun z => absurd (by rw [h23]; exact tab1.mpr bit) z, fun _ => ⟨rfl, rfl⟩⟩, fun z => absurd pos z⟩, show 1 ≤ 4 by decide, show 4 ≤ 5 by decide, hk.1, HFz.refl k I, hM⟩
  rw [if_neg hso]
  rw [if_neg hso] at bit
  have hn : gtE t s = none := by
    cases hg : gtE t s with
    | none => rfl
    | some f => rw [hg] at hso; exact absurd rfl hso
  have nbit : ¬ ((I 76 23 >>> (nI s &&& 31)) &&& 1) = 1 := fun z => by
    rw [h23] at z
    have := tab1.mp z
    omega
  have nc2 : cl.length ≤ 2 := by rw [hcn]; exact (cnt_put t s3 hn (fun _ => 0)).2
  obtain ⟨J3, e3⟩ : ∃ J, J = rw1 I 76 (upd (I 76) 23 (nI (onF t + 2 ^ s))) := ⟨_, rfl⟩
  obtain ⟨J4, e4⟩ : ∃ J, J = rw1 J3 76 (upd (J3 76) 22 (nI s)) := ⟨_, rfl⟩
  have o4 : ∀ a, a ≠ 76 → J4 a = I a := fun a ha => by rw [e4, rw1_n _ _ ha, e3, rw1_n _ _ ha]
  have r4 : ∀ q, ¬ q = 22 → ¬ q = 23 → J4 76 q = I 76 q := fun q h1 h2 => by rw [e4, rw1_s, upd_n _ _ h1, e3, rw1_s, upd_n _ _ h2]
  have f4 : HFz k I J4 := by rw [e4, e3]; exact (HFz.p76 k I (by decide) _).trans (HFz.p76 k _ (by decide) _)
  have hne : ¬ kT ts i = 37 := by rw [← hcc]; omega
  obtain ⟨J5, L6, a1, a2, a3, a4⟩ := mp_next (g := g) (L := L) hS h8 (hM.sf (r4 6 (by decide) (by decide)) (o4 80 (by decide))) (hk.kept (fun q h1 h2 => r4 q (by omega) (by omega))) hne
  have o5 : ∀ a, a ≠ 76 → J5 a = I a := fun a ha => by rw [a2.1 a ha, o4 a ha]
  have r5 : ∀ q, ¬ (9 ≤ q ∧ q ≤ 12) → ¬ q = 22 → ¬ q = 23 → J5 76 q = I 76 q := fun q h1 h2 h3 => by rw [a2.2 q h1, r4 q h2 h3]
  obtain ⟨X, hX⟩ : ∃ X, X = 620 * k + 1 + 3 * cl.length := ⟨_, rfl⟩
  have e14 : J5 76 14 = nI (620 * k) := by rw [r5 14 (by omega) (by decide) (by decide)]; exact hc.2.1
  have ey : J5 76 14 + 1 + 3 * J5 79 (620 * k) = nI X := by
    rw [e14, o5 79 (by decide), tb0, nI_1, show (3 : Int32) * nI cl.length = nI (3 * cl.length) from pk_mul 3 _, nI_add, hX]
  obtain ⟨J11, e11⟩ : ∃ J, J = rw1 J5 79 (upd (J5 79) X (nI s)) := ⟨_, rfl⟩
  obtain ⟨J13, e13⟩ : ∃ J, J = rw1 J11 79 (upd (J11 79) (X + 1) (nI cs.length)) := ⟨_, rfl⟩
  have p11 : J11 76 = J5 76 := by rw [e11, rw1_n _ _ (by decide)]
  have p13 : J13 76 = J5 76 := by rw [e13, rw1_n _ _ (by decide), p11]
  have o13 : ∀ a, a ≠ 79 → J13 a = J5 a := fun a ha => by rw [e13, rw1_n _ _ ha, e11, rw1_n _ _ ha]
  have u13 : ∀ x, ¬ x = X → ¬ x = X + 1 → J13 79 x = I 79 x := fun x h1 h2 => by rw [e13, rw1_s, upd_n _ _ h2, e11, rw1_s, upd_n _ _ h1, o5 79 (by decide)]
  have e16 : J11 76 16 = nI cs.length := by rw [p11, r5 16 (by omega) (by decide) (by decide)]; exact hc.2.2.1
  have f13 : HFz k J5 J13 := by rw [e13, e11]; exact (HFz.p79 k J5 (by omega) _).trans (HFz.p79 k _ (by omega) _)
  have fr13 : HFz k I J13 := (f4.trans (NFz.gf (k := k) a2).hf).trans f13
  have mt13 : MT J13 tp := ((hM.sf (I1 := J4) (r4 6 (by decide) (by decide)) (o4 80 (by decide))).nf a2).sf (by rw [p13]) (o13 80 (by decide))
  have cd13 : CDz J13 k cs := ⟨k4, by rw [p13]; exact e14, by rw [p13, ← p11]; exact e16, hc.2.2.2.1, fun m q hm => by rw [u13 _ (by omega) (by omega), u13 _ (by omega) (by omega)]; exact hc.2.2.2.2 m q hm⟩
  have h22 : J13 76 22 = 2 ↔ decide (c = 13) = true := by
    rw [p13, a2.2 22 (by omega), e4, rw1_s, upd_s]
    rw [show (nI s = 2 ↔ s = 2) from nI_eq (b := 2) (by omega) (by decide), decide_eq_true_iff]
    omega
  have pa := mp_parsed (g := g) (k := k) (lk := decide (c = 13)) (ei := decide (c = 12)) (u := u) (a := fun _ => 0) hS h8 hT h11 mt13 (a3.kept (I1 := J13) (fun q _ _ => by rw [p13])) cd13 (by rw [p13, r5 20 (by omega) (by decide) (by decide)]; exact h20) (by omega) a4 h22
  have em : (if decide (c = 12) = true then 8 else 3) = (if c = 12 then 8 else 3) := by
    by_cases z : c = 12
    · rw [if_pos z, if_pos (decide_eq_true z)]
    · rw [if_neg z, if_neg (by rw [decide_eq_false z]; decide)]
  rw [em] at pa
  have s1 : nI s = 1 ↔ c = 12 := by
    rw [show (nI s = 1 ↔ s = 1) from nI_eq (b := 1) (by omega) (by decide)]
    omega
  -- all of clause(), but for parsed() and the tail
  have go : ∀ {v : Int32} {J15 : Nat → Nat → Int32} {L16 : Nat → Nat → Int64} {r : Option Value} {M' : Mem}, Cl g 6 mu_X12_parsed [rf g 76, .int (b2i (decide (c = 12)))] (Z, J13, L6) (some (.int v)) (Z, J15, L16) → CxT g Z (nI X) v J15 L16 r M' → Cl g 7 mu_X12_clause [rf g 76] (Z, I, L) r M' := fun {v J15 L16 r M'} hp ht => by
    refine cp_X12_clause k76 r79 k79 ⟨_, so, fun _ => ⟨fun _ I3 h3 I4 h4 => ?_, fun z => absurd z nbit⟩, fun z => absurd pos z⟩
    rw [h23, tab2 bit, ← e3] at h3
    rw [h3, ← e4] at h4
    rw [h4]
    refine ⟨J5, L6, a1, by rw [e14, n79]; exact vp_in_nI (by omega) (by decide), fun y9 hy9 => ?_⟩
    have hy : y9 = nI X := by
      rw [hy9, show (J5 76 14).toNatClampNeg = 620 * k by rw [e14, nI_clamp (by omega)]]; exact ey
    rw [hy, n79]
    refine ⟨vp_in_nI (by omega) (by decide), fun I11 h11' => ?_⟩
    rw [nI_clamp (show X < 2 ^ 31 by omega), ← e11] at h11'
    rw [h11', nI_1]
    refine ⟨vp_in_nI (by omega) (by decide), fun I13 h13 => ?_⟩
    rw [nI_clamp (show X + 1 < 2 ^ 31 by omega), e16, ← e13] at h13
    rw [h13]
    have ht2 := ht
    unfold CxT at ht2
    rw [n79] at ht2
    refine ⟨fun z => ?_, fun z => ?_⟩
    · rw [decide_eq_false (fun y => z (s1.mpr y))] at hp
      exact ⟨v, J15, L16, hp, ht2⟩
    · rw [decide_eq_true (s1.mp z)] at hp
      exact ⟨v, J15, L16, hp, ht2⟩
  cases hx : prF (kT ts) (vT ts) (decide (c = 13)) u (if c = 12 then 8 else 3) 0 (i + 1) (fun _ => 0) with
  | inl q =>
    rw [hx] at pa
    intro hz
    obtain ⟨I1, L1, b1, b2, b3, b4, b5, b6⟩ := pa hz
    exact ⟨I1, L1, go b1 ⟨fun z => absurd z (nI_ne0 (by omega) (by omega)), fun _ => ⟨rfl, rfl⟩⟩, b2, b3, b4, fr13.trans b5.hf, b6⟩
  | inr q =>
    obtain ⟨F, j⟩ := q
    rw [hx] at pa
    obtain ⟨I1, L1, es, b1, b2, b3, b4, b5, b6, b7, b8, b9⟩ := pa
    have b3 : MTk I1 L1 tp ts j := b3
    have b6 : (cs ++ es).length ≤ j := b6
    have b7 : j < ts.length := b7
    have g79 : ∀ x, 620 * k ≤ x → x < 620 * k + 15 → I1 79 x = J13 79 x := fun x h1 h2 => b8.2.1 x (by omega)
    have cm : if s = 1 then CmB es F ∧ blE F else CmN es F := by
      by_cases z : c = 12
      · rw [decide_eq_true z] at b9
        rw [if_pos (by omega)]; exact b9
      · rw [decide_eq_false z] at b9
        rw [if_neg (by omega)]; exact b9
    have ok := cx_ok (g := g) (t := t) (s := s) (X := X) (st := cs.length) (F := F) hS h8 hT b2 b3 b4 b5 b6 b7 hX nc2 (by rw [g79 _ (by omega) (by omega), u13 _ (by omega) (by omega)]; exact tb0) s3 (fun m q hm => by
      have hml := (List.getElem?_eq_some_iff.mp hm).1
      rw [g79 _ (by omega) (by omega), g79 _ (by omega) (by omega), g79 _ (by omega) (by omega), u13 _ (by omega) (by omega), u13 _ (by omega) (by omega), u13 _ (by omega) (by omega)]
      exact tb1 m q hm) (by rw [g79 _ (by omega) (by omega), e13, rw1_s, upd_n _ _ (by omega), e11, rw1_s, upd_s]) (by rw [g79 _ (by omega) (by omega), e13, rw1_s, upd_s]) (by rw [(cnt_put t s3 hn F).1, hcn]) (hmc.put s3 hn cm) (by rw [b8.2.2 23 (by omega) (by decide) (by decide) (by decide) (by decide), p13, a2.2 23 (by omega), e4, rw1_s, upd_n _ _ (by decide), e3, rw1_s, upd_s, on_put t s3 hn])
    show McR g Z L k tp ts i I (if kT ts j = 33 then .inr (ptE t (kT ts i - 11) F, j + 1) else .inl (1, j))
    rw [← hcc, ← hss]
    by_cases h33 : kT ts j = 33
    · rw [if_pos h33]
      obtain ⟨I2, L2, d1, d2, d3⟩ := ok.1 h33
      exact ⟨I2, L2, _, _, go b1 d1, d2, (fr13.trans b8.hf).trans d3⟩
    · rw [if_neg h33]
      obtain ⟨I2, d1, d2, d3, d4⟩ := ok.2 h33
      exact fun _ => ⟨I2, L1, go b1 d1, show 1 ≤ 1 by decide, show 1 ≤ 5 by decide, d2, (fr13.trans b8.hf).trans d3, d4⟩
end MCLB
