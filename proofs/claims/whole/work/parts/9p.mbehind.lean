/-! the model's reader: betweenOf(), what behindOne() does -/
theorem wx_k {k v w : Nat} (h1 : 11 ≤ w) (h2 : w < 19) (hv : k = 20 → v < 11) : wxF k v = w ↔ k = w := by
  unfold wxF
  by_cases h : k = 20
  · rw [if_pos h]
    have := hv h
    omega
  · rw [if_neg h]
theorem bt_in {K : Nat → Nat} {ei : Bool} {P : List Nat} {i o : Nat} (h : btwF K ei P i = some o) : ((3 ≤ o ∧ o ≤ 6) ∨ (10 ≤ o ∧ o ≤ 15) ∨ o = 21 ∨ o = 22) ∧ ¬ K i = 37 := by
  unfold btwF at h
  by_cases h1 : K i = 27
  · rw [if_pos h1] at h; cases h; omega
  rw [if_neg h1] at h
  by_cases h2 : K i = 28
  · rw [if_pos h2] at h; cases h; omega
  rw [if_neg h2] at h
  by_cases h3 : K i = 29
  · rw [if_pos h3] at h; cases h; omega
  rw [if_neg h3] at h
  by_cases h4 : K i = 30
  · rw [if_pos h4] at h; cases h; omega
  rw [if_neg h4] at h
  by_cases h5 : ¬ koF ei P = 41
  · rw [if_pos h5] at h; cases h
  rw [if_neg h5] at h
  by_cases h6 : cmpF P = false
  · rw [if_pos h6] at h
    by_cases h7 : 21 ≤ K i ∧ K i ≤ 26
    · rw [if_pos h7] at h; cases h; omega
    · rw [if_neg h7] at h; cases h
  rw [if_neg h6] at h
  by_cases h7 : K i = 17
  · rw [if_pos h7] at h; cases h; omega
  rw [if_neg h7] at h
  by_cases h8 : K i = 16
  · rw [if_pos h8] at h; cases h; omega
  · rw [if_neg h8] at h; cases h
theorem stl1_mk {m : Nat} : ∀ (P : List Nat) (cs : List (Nat × Nat)), mkF P = some m → ∃ P', (stl 1 P cs).1 = m :: P' ∧ mxF P = P'.length + 1 ∧ 40 ≤ m := by
  intro P
  induction P with
  | nil => intro cs h; cases h
  | cons q P ih =>
    intro cs h
    have h : (if 40 ≤ q then some q else mkF P) = some m := h
    have es : stl 1 (q :: P) cs = if 1 ≤ rkO q then stl 1 P (cs ++ [(q, 0)]) else (q :: P, cs) := rfl
    have em : mxF (q :: P) = if 40 ≤ q then P.length + 1 else mxF P := rfl
    rw [es, em]
    by_cases hq : 40 ≤ q
    · rw [if_pos hq] at h ⊢
      cases h
      rw [if_neg (fun z => by have := rk_0.mp z; omega)]
      exact ⟨P, rfl, rfl, hq⟩
    · rw [if_neg hq] at h ⊢
      rw [if_pos (rk_0.mpr (by omega))]
      exact ih _ h
section MBHD
variable {g : GE} {Z : Zs} {I : Nat → Nat → Int32} {L : Nat → Nat → Int64} {tp : List Nat} {ts : List (Nat × Nat × Nat)} {k i : Nat} {P : List Nat} {cs : List (Nat × Nat)}
theorem mp_compareOf (hS : Sh Z) {kd v : Nat} (tok : TokM I L kd v) (hk : kd < 38) : Cl g 1 mu_X12_compareOf [rf g 76] (Z, I, L) (some (.int (if 21 ≤ kd ∧ kd ≤ 26 then nI (kd - 11) else -1))) (Z, I, L) := by
  have t60 : I 76 11 = 60 ↔ kd = 21 := tk_eq (x := 60) (c := 21) tok hk (by decide) (by decide) (by decide) (by decide)
  have t4 : I 76 11 = 4 ↔ kd = 22 := tk_eq (x := 4) (c := 22) tok hk (by decide) (by decide) (by decide) (by decide)
  have t62 : I 76 11 = 62 ↔ kd = 23 := tk_eq (x := 62) (c := 23) tok hk (by decide) (by decide) (by decide) (by decide)
  have t5 : I 76 11 = 5 ↔ kd = 24 := tk_eq (x := 5) (c := 24) tok hk (by decide) (by decide) (by decide) (by decide)
  have t61 : I 76 11 = 61 ↔ kd = 25 := tk_eq (x := 61) (c := 25) tok hk (by decide) (by decide) (by decide) (by decide)
  have t35 : I 76 11 = 35 ↔ kd = 26 := tk_eq (x := 35) (c := 26) tok hk (by decide) (by decide) (by decide) (by decide)
  refine cp_X12_compareOf (hS.k 76 12 (by decide) (by decide)) ?_
  rw [t60, t4, t62, t5, t61, t35]
  refine ⟨fun a => ⟨fun b => ⟨fun c => ⟨fun d => ⟨fun e => ⟨fun f => ⟨by rw [if_neg (by omega)], rfl⟩, fun f => ⟨by rw [if_pos (by omega), f]; rfl, rfl⟩⟩, fun e => ⟨by rw [if_pos (by omega), e]; rfl, rfl⟩⟩, fun d => ⟨by rw [if_pos (by omega), d]; rfl, rfl⟩⟩, fun c => ⟨by rw [if_pos (by omega), c]; rfl, rfl⟩⟩, fun b => ⟨by rw [if_pos (by omega), b]; rfl, rfl⟩⟩, fun a => ⟨by rw [if_pos (by omega), a]; rfl, rfl⟩⟩
def oIn (o : Option Nat) : Int32 := match o with
  | none => -1
  | some x => nI x
theorem mp_between (hS : Sh Z) (hT : TSz ts) {ei : Bool} (hpl : PLz I P) (tok : TokM I L (kT ts i) (vT ts i)) : Cl g 3 mu_X12_betweenOf [rf g 76, .int (b2i ei)] (Z, I, L) (some (.int (oIn (btwF (kT ts) ei P i)))) (Z, I, L) := by
  have hk : kT ts i < 38 := by have := hT.2.2.2.1 i; omega
  have hv20 := hT.2.2.2.2.2.1 i
  have t43 : I 76 11 = 43 ↔ kT ts i = 27 := tk_eq (x := 43) (c := 27) tok hk (by decide) (by decide) (by decide) (by decide)
  have t45 : I 76 11 = 45 ↔ kT ts i = 28 := tk_eq (x := 45) (c := 28) tok hk (by decide) (by decide) (by decide) (by decide)
  have t42 : I 76 11 = 42 ↔ kT ts i = 29 := tk_eq (x := 42) (c := 29) tok hk (by decide) (by decide) (by decide) (by decide)
  have t47 : I 76 11 = 47 ↔ kT ts i = 30 := tk_eq (x := 47) (c := 30) tok hk (by decide) (by decide) (by decide) (by decide)
  have ko := mp_kindOpen (g := g) (L := L) hS hpl ei
  have kl := ko_lt hpl ei
  have e41 : nI (koF ei P) = 41 ↔ koF ei P = 41 := nI_eq (b := 41) (by omega) (by decide)
  have ic := mp_isCompared (g := g) (L := L) hS hpl
  have co := mp_compareOf (g := g) (Z := Z) hS tok hk
  have w17 := mp_isWord (g := g) (Z := Z) (I := I) (L := L) hS tok hk (w := 17) (by decide)
  rw [decide_eq_decide.mpr (wx_k (by decide) (by decide) hv20)] at w17
  have w16 := tk_w tok hk (w := 16) (by decide)
  rw [wx_k (by decide) (by decide) hv20] at w16
  have c16 : wC 16 = 28530 := by decide
  have e3 := w3_c (g := g) (Z := Z) (I := I) (L := L) 17 (x := 97) (y := 110) (z := 100) (by decide)
  refine cp_X12_betweenOf (hS.k 76 12 (by decide) (by decide)) ?_
  unfold btwF
  rw [t43, t45, t42, t47]
  refine ⟨fun a => ⟨fun b => ⟨fun c => ⟨fun d => ?_, fun d => ⟨by rw [if_neg a, if_neg b, if_neg c, if_pos d]; rfl, rfl⟩⟩, fun c => ⟨by rw [if_neg a, if_neg b, if_pos c]; rfl, rfl⟩⟩, fun b => ⟨by rw [if_neg a, if_pos b]; rfl, rfl⟩⟩, fun a => ⟨by rw [if_pos a]; rfl, rfl⟩⟩
  rw [if_neg a, if_neg b, if_neg c, if_neg d]
  refine ⟨_, ko, fun z => ?_, fun z => ⟨by rw [if_pos (fun y => z (e41.mpr y))]; rfl, rfl⟩⟩
  rw [if_neg (fun y => y (e41.mp z))]
  cases hc : cmpF P with
  | false =>
    rw [hc] at ic
    rw [if_pos rfl]
    refine ⟨_, ic, fun y => absurd rfl y, fun _ => ⟨_, co, ?_, rfl⟩⟩
    by_cases h7 : 21 ≤ kT ts i ∧ kT ts i ≤ 26
    · rw [if_pos h7, if_pos h7]; rfl
    · rw [if_neg h7, if_neg h7]; rfl
  | true =>
    rw [hc] at ic
    rw [if_neg (by decide)]
    refine ⟨_, ic, fun _ => ⟨_, e3, _, w17, fun y => ?_, fun y => ⟨?_, rfl⟩⟩, fun y => absurd y (by decide)⟩
    · have n17 : ¬ kT ts i = 17 := fun x => by rw [decide_eq_true x] at y; exact absurd y (by decide)
      rw [if_neg n17]
      refine ⟨fun q => ⟨by rw [if_neg (w16.2 q)]; rfl, rfl⟩, fun q => ⟨fun s => ⟨?_, rfl⟩, fun s => ⟨?_, rfl⟩⟩⟩
      · rw [if_neg (fun x => s ((lg_cmp_eq _ _).mpr (by rw [← c16]; exact (w16.1 q).mpr x)))]; rfl
      · rw [if_pos ((w16.1 q).mp (by rw [c16]; exact (lg_cmp_eq _ _).mp s))]; rfl
    · have y17 : kT ts i = 17 := Classical.byContradiction (fun x => y (by rw [decide_eq_false x]; rfl))
      rw [if_pos y17]; rfl
/-- an order between two: settle, push, next -/
theorem ac_op (hS : Sh Z) (h8 : T8 tp) (hT : TSz ts) (m : MAz I L k tp ts (P, cs, true, i)) {o : Nat} (ho : (3 ≤ o ∧ o ≤ 6) ∨ (10 ≤ o ∧ o ≤ 15) ∨ o = 21 ∨ o = 22) (hk : ¬ kT ts i = 37) : ∃ J1 J2 J3 I1 L1, Cl g 2 mu_X12_settle [rf g 76, .int (nI (rkO o))] (Z, I, L) none (Z, J1, L) ∧ Cl g 1 mu_X12_push [rf g 76, .int (nI o)] (Z, J1, L) none (Z, J2, L) ∧ J3 = rw1 J2 76 (upd (J2 76) 21 0) ∧ Cl g 3 mu_X12_nextToken [rf g 76] (Z, J3, L) none (Z, I1, L1) ∧ MAz I1 L1 k tp ts (o :: (stl (rkO o) P cs).1, (stl (rkO o) P cs).2, false, i + 1) ∧ GFz k I I1 := by
  obtain ⟨m1, m2, m3, m4, ⟨b1, b2, b3⟩, m6⟩ := m
  have m1 : MT I tp := m1
  have m2 : MTk I L tp ts i := m2
  have m3 : PMs I k P cs := m3
  have b1 : cs.length + P.length ≤ i := b1
  have b2 : 2 * P.length + 1 ≤ i + opsF P := b2
  have b3 : opsF P ≤ 8 := b3
  have m6 : i < ts.length := m6
  have hl := hT.2.1
  have r1 : 1 ≤ rkO o := rk_0.mpr (by omega)
  have r8 := rk_lt o
  obtain ⟨J1, a1, a2, a3⟩ := mp_settle (g := g) (L := L) (l := rkO o) hS r1 r8 m3 (by omega)
  obtain ⟨s1, s2, s3⟩ := stl_b (rkO o) P cs
  obtain ⟨P', hP'⟩ : ∃ P', P' = (stl (rkO o) P cs).1 := ⟨_, rfl⟩
  obtain ⟨c', hc'⟩ : ∃ c', c' = (stl (rkO o) P cs).2 := ⟨_, rfl⟩
  rw [← hP', ← hc'] at a2 s1
  rw [← hP'] at s2 s3
  rw [← hP', ← hc']
  have ob : opsF (o :: P') = opsF P' := ops_b (by omega)
  obtain ⟨J2, d1, d2, d3, d4⟩ := mp_push (g := g) (L := L) hS a2.1 (by omega) (show o < 64 by omega)
  obtain ⟨J3, e⟩ : ∃ J, J = rw1 J2 76 (upd (J2 76) 21 0) := ⟨_, rfl⟩
  have ja : ∀ a, a ≠ 76 → J3 a = J2 a := fun a ha => by rw [e, rw1_n _ _ ha]
  have jr : ∀ q, ¬ q = 21 → J3 76 q = J2 76 q := fun q hq => by rw [e, rw1_s, upd_n _ _ hq]
  have rr : ∀ q, ¬ q = 16 → ¬ q = 19 → ¬ q = 20 → ¬ q = 21 → J3 76 q = I 76 q := fun q h1 h2 h3 h4 => by rw [jr q h4, d4 q h2, a3.2.2 q h1 h2 h3]
  have p3 : PMs J3 k (o :: P') c' := ⟨d2.kept (ja 81 (by decide)) (jr 19 (by decide)), a2.2.1.kept (by rw [ja 79 (by decide), d3 79 (by decide) (by decide)]) (by rw [jr 14 (by decide), d4 14 (by decide)]) (by rw [jr 16 (by decide), d4 16 (by decide)]), by rw [jr 20 (by decide), d4 20 (by decide), ob]; exact a2.2.2⟩
  have mt3 : MT J3 tp := m1.sf (rr 6 (by decide) (by decide) (by decide) (by decide)) (by rw [ja 80 (by decide), d3 80 (by decide) (by decide), a3.1 80 (by decide) (by decide)])
  obtain ⟨I1, L1, f1, f2, f3, f4⟩ := mp_next (g := g) (L := L) hS h8 mt3 (m2.kept (fun q h1 h2 => rr q (by omega) (by omega) (by omega) (by omega))) hk
  refine ⟨J1, J2, J3, I1, L1, a1, d1, e, f1, ⟨mt3.nf f2, f3, p3.nf f2, ?_, ⟨?_, ?_, ?_⟩, f4⟩, ?_⟩
  · show I1 76 21 = 0
    rw [f2.2 21 (by omega), e, rw1_s, upd_s]
  · show c'.length + (o :: P').length ≤ i + 1
    rw [List.length_cons]; omega
  · show 2 * (o :: P').length + 0 ≤ i + 1 + opsF (o :: P')
    rw [List.length_cons, ob]; omega
  · show opsF (o :: P') ≤ 8
    omega
  · refine (a3.gf.trans ⟨fun a h1 _ h3 => by rw [ja a h1, d3 a h1 h3], fun x _ => by rw [ja 79 (by decide), d3 79 (by decide) (by decide)], fun q _ _ h2 _ h4 => by rw [jr q h4, d4 q h2]⟩).trans f2.gf
end MBHD
