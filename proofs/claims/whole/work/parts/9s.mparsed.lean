/-! the model's parsed() -/
section MPAR
variable {g : GE} {Z : Zs} {tp : List Nat} {ts : List (Nat × Nat × Nat)} {k : Nat} {lk ei : Bool}
/-- one step of the machine is one turn of the loop -/
theorem pa_step (hS : Sh Z) (h8 : T8 tp) (hT : TSz ts) (h11 : ∀ i, 11 ≤ kT ts i) {I : Nat → Nat → Int32} {L : Nat → Nat → Int64} {s s1 : MSt} (m : MAz I L k tp ts s) (hs : I 76 22 = 2 ↔ lk = true) (h : stpF (kT ts) (vT ts) lk ei s = .inr (some s1)) : ∃ I1 L1, MAz I1 L1 k tp ts s1 ∧ GFz k I I1 ∧ ∀ {r : Option Value} {M' : Mem}, Lp_X12_parsed_12 g 6 76 (b2i ei) 1 (Z, I1, L1) r M' → Lp_X12_parsed_12 g 6 76 (b2i ei) 1 (Z, I, L) r M' := by
  have k76 := hS.k 76 12 (by decide) (by decide)
  obtain ⟨P, cs, w, i⟩ := s
  have e21 : I 76 21 = b2i w := m.2.2.2.1
  cases w with
  | false =>
    have h : begF (kT ts) (vT ts) lk ei P cs i = .inr (some s1) := h
    have b := mp_begin (g := g) (ei := ei) hS h8 hT h11 m hs
    rw [h] at b
    obtain ⟨I1, L1, b1, b2, b3⟩ := b
    exact ⟨I1, L1, b2, b3, fun {r M'} c => wp_X12_parsed_12 k76 ⟨fun z => absurd z (by decide), fun _ => ⟨fun _ => ⟨_, I1, L1, b1, fun _ => c, fun z => absurd rfl z⟩, fun z => absurd e21 z⟩⟩⟩
  | true =>
    have h : (.inr (bhF (kT ts) ei P cs i) : Nat ⊕ Option MSt) = .inr (some s1) := h
    have h : bhF (kT ts) ei P cs i = some s1 := Sum.inr.inj h
    have b := mp_behind (g := g) (ei := ei) hS h8 hT m
    rw [h] at b
    obtain ⟨I1, L1, b1, b2, b3⟩ := b
    exact ⟨I1, L1, b2, b3, fun {r M'} c => wp_X12_parsed_12 k76 ⟨fun z => absurd z (by decide), fun _ => ⟨fun z => absurd z (by rw [e21]; decide), fun _ => ⟨_, I1, L1, b1, c⟩⟩⟩⟩
theorem pa_rch (hS : Sh Z) (h8 : T8 tp) (hT : TSz ts) (h11 : ∀ i, 11 ≤ kT ts i) {s1 : MSt} : ∀ (n : Nat) (I : Nat → Nat → Int32) (L : Nat → Nat → Int64) (s : MSt), MAz I L k tp ts s → (I 76 22 = 2 ↔ lk = true) → rchN (kT ts) (vT ts) lk ei n s s1 → ∃ I1 L1, MAz I1 L1 k tp ts s1 ∧ GFz k I I1 ∧ ∀ {r : Option Value} {M' : Mem}, Lp_X12_parsed_12 g 6 76 (b2i ei) 1 (Z, I1, L1) r M' → Lp_X12_parsed_12 g 6 76 (b2i ei) 1 (Z, I, L) r M' := by
  intro n
  induction n with
  | zero =>
    intro I L s m _ h
    have h : s = s1 := h
    rw [← h]
    exact ⟨I, L, m, GFz.refl k I, fun {r M'} c => c⟩
  | succ n ih =>
    intro I L s m hs h
    obtain ⟨s2, a, b⟩ := h
    obtain ⟨I1, L1, c1, c2, c3⟩ := pa_step (g := g) hS h8 hT h11 m hs a
    obtain ⟨I2, L2, d1, d2, d3⟩ := ih I1 L1 s2 c1 (by rw [c2.2.2 22 (by omega) (by decide) (by decide) (by decide) (by decide)]; exact hs) b
    exact ⟨I2, L2, d1, c2.trans d2, fun {r M'} c => c3 (d3 c)⟩
theorem pa_fau (hS : Sh Z) (h8 : T8 tp) (hT : TSz ts) (h11 : ∀ i, 11 ≤ kT ts i) {I : Nat → Nat → Int32} {L : Nat → Nat → Int64} {s : MSt} (m : MAz I L k tp ts s) (hs : I 76 22 = 2 ↔ lk = true) {f j : Nat} (h : Fau (kT ts) (vT ts) lk ei s f j) : ∃ I1 L1, Lp_X12_parsed_12 g 6 76 (b2i ei) 1 (Z, I, L) (some (.int (nI f))) (Z, I1, L1) ∧ 1 ≤ f ∧ f ≤ 5 ∧ I1 76 10 = nI (pT ts j) ∧ GFz k I I1 ∧ MT I1 tp := by
  have k76 := hS.k 76 12 (by decide) (by decide)
  obtain ⟨s1, ⟨n, a⟩, hj, b⟩ := h
  obtain ⟨I1, L1, c1, c2, c3⟩ := pa_rch (g := g) hS h8 hT h11 n I L s m hs a
  have hs1 : I1 76 22 = 2 ↔ lk = true := by rw [c2.2.2 22 (by omega) (by decide) (by decide) (by decide) (by decide)]; exact hs
  obtain ⟨P, cs, w, i⟩ := s1
  have hj : i = j := hj
  subst hj
  have e21 : I1 76 21 = b2i w := c1.2.2.2.1
  have e10 : I1 76 10 = nI (pT ts i) := c1.2.1.1
  have hpl : PLz I1 P := c1.2.2.1.1
  have hl := hpl.2.1
  rcases b with b | ⟨b, bf, bm⟩
  · cases w with
    | false =>
      have b : begF (kT ts) (vT ts) lk ei P cs i = .inl f := b
      have q := mp_begin (g := g) (ei := ei) hS h8 hT h11 c1 hs1
      rw [b] at q
      obtain ⟨q1, q2, q3⟩ := q
      exact ⟨I1, L1, c3 (wp_X12_parsed_12 k76 ⟨fun z => absurd z (by decide), fun _ => ⟨fun _ => ⟨_, I1, L1, q1, fun z => absurd z (nI_ne0 (by omega) (by omega)), fun _ => ⟨rfl, rfl⟩⟩, fun z => absurd e21 z⟩⟩), q2, q3, e10, c2, c1.1⟩
    | true => cases (show (.inr (bhF (kT ts) ei P cs i) : Nat ⊕ Option MSt) = .inl f from b)
  · subst bf
    cases w with
    | false =>
      exfalso
      have b : begF (kT ts) (vT ts) lk ei P cs i = .inr none := b
      unfold begF pushF at b
      repeat' split at b
      all_goals cases b
    | true =>
      have b : bhF (kT ts) ei P cs i = none := Sum.inr.inj (show (.inr (bhF (kT ts) ei P cs i) : Nat ⊕ Option MSt) = .inr none from b)
      have q := mp_behind (g := g) (ei := ei) hS h8 hT c1
      rw [b] at q
      have q : Cl g 4 mu_X12_behindOne [rf g 76, .int (b2i ei)] (Z, I1, L1) (some (.int 0)) (Z, I1, L1) := q
      have mkc := mp_marker (g := g) (L := L1) hS hpl
      have ic := mp_isCompared (g := g) (L := L1) hS hpl
      refine ⟨I1, L1, c3 (wp_X12_parsed_12 k76 ⟨fun z => absurd z (by decide), fun _ => ⟨fun z => absurd z (by rw [e21]; decide), fun _ => ⟨_, I1, L1, q, wp_X12_parsed_12 k76 ⟨fun _ => ⟨_, mkc, fun _ => ⟨rfl, rfl⟩, fun z => ?_⟩, fun z => absurd rfl z⟩⟩⟩⟩), by decide, by decide, e10, c2, c1.1⟩
      have bm : ¬ mkF P = none ∨ (ei = true ∧ cmpF P = false) := bm
      cases hm : mkF P with
      | some x =>
        obtain ⟨y, e1, e2, -⟩ := mx_some hpl.pr hm
        rw [e1, nI_pred] at z
        exact absurd (by rw [← nI_0]; exact nI_le (by omega) (by omega)) z
      | none =>
        rcases bm with bm | bm
        · exact absurd hm bm
        · rw [bm.2] at ic
          rw [bm.1]
          exact ⟨fun z => absurd z (by decide), fun _ => ⟨_, ic, fun z => absurd rfl z, fun _ => ⟨rfl, rfl⟩⟩⟩
def PaR (g : GE) (Z : Zs) (L : Nat → Nat → Int64) (k : Nat) (tp : List Nat) (ts : List (Nat × Nat × Nat)) (ei : Bool) (cs : List (Nat × Nat)) (i : Nat) (I : Nat → Nat → Int32) (res : PR) : Prop := match res with
  | .inl q => ¬ q.1 = 0 → ∃ I1 L1, Cl g 6 mu_X12_parsed [rf g 76, .int (b2i ei)] (Z, I, L) (some (.int (nI q.1))) (Z, I1, L1) ∧ 1 ≤ q.1 ∧ q.1 ≤ 5 ∧ I1 76 10 = nI (pT ts q.2) ∧ GFz k I I1 ∧ MT I1 tp
  | .inr q => ∃ I1 L1 es, Cl g 6 mu_X12_parsed [rf g 76, .int (b2i ei)] (Z, I, L) (some (.int 0)) (Z, I1, L1) ∧ MT I1 tp ∧ MTk I1 L1 tp ts q.2 ∧ CDz I1 k (cs ++ es) ∧ I1 76 20 = 0 ∧ (cs ++ es).length ≤ q.2 ∧ q.2 < ts.length ∧ GFz k I I1 ∧ (if ei then CmB es q.1 ∧ blE q.1 else CmN es q.1)
theorem pa_end (hS : Sh Z) (h8 : T8 tp) (hT : TSz ts) (h11 : ∀ i, 11 ≤ kT ts i) {I : Nat → Nat → Int32} {L : Nat → Nat → Int64} {s : MSt} (m : MAz I L k tp ts s) (hs : I 76 22 = 2 ↔ lk = true) {Q : List Nat} {cs : List (Nat × Nat)} {j : Nat} (h : Rch (kT ts) (vT ts) lk ei s (Q, cs, true, j)) (hw : Wai 1 Q) (hf : fo3 (kT ts j)) (hc : ei = true → cmpF Q = true ∧ ¬ kT ts j = 17 ∧ ¬ kT ts j = 16) : ∃ I1 L1, Lp_X12_parsed_12 g 6 76 (b2i ei) 1 (Z, I, L) (some (.int 0)) (Z, I1, L1) ∧ MT I1 tp ∧ MTk I1 L1 tp ts j ∧ CDz I1 k (cs ++ qcF Q) ∧ I1 76 20 = 0 ∧ (cs ++ qcF Q).length ≤ j ∧ j < ts.length ∧ GFz k I I1 := by
  have k76 := hS.k 76 12 (by decide) (by decide)
  obtain ⟨n, a⟩ := h
  obtain ⟨I1, L1, c1, c2, c3⟩ := pa_rch (g := g) hS h8 hT h11 n I L s m hs a
  have e21 : I1 76 21 = 1 := c1.2.2.2.1
  have pm : PMs I1 k Q cs := c1.2.2.1
  have hpl : PLz I1 Q := pm.1
  have bn : cs.length + Q.length ≤ j := c1.2.2.2.2.1.1
  have hj : j < ts.length := c1.2.2.2.2.2
  have hl := hT.2.1
  have hm : mkF Q = none := by
    have := mk_app (P := []) hw (Nat.le_refl _)
    rw [List.append_nil] at this
    rw [this]; rfl
  have hb : bhF (kT ts) ei Q cs j = none := by
    refine bh_none (bt_none hf (fun z => ?_)) (by rw [hm]; exact fun y => absurd y.2 (by decide)) (by rw [hm]; exact fun y => absurd y.2 (by decide)) (by rw [hm]; exact fun y => absurd y.2.1 (by decide)) (by rw [hm]; exact fun y => absurd y.2 (by decide))
    unfold koF at z
    rw [hm] at z
    have he : ei = true := by
      cases ei with
      | true => rfl
      | false => exact absurd z (by decide)
    have q := hc he
    exact ⟨fun y => (by rw [q.1] at y; cases y), fun _ => q.2⟩
  have q := mp_behind (g := g) (ei := ei) hS h8 hT c1
  rw [hb] at q
  have q : Cl g 4 mu_X12_behindOne [rf g 76, .int (b2i ei)] (Z, I1, L1) (some (.int 0)) (Z, I1, L1) := q
  have mkc := mp_marker (g := g) (L := L1) hS hpl
  rw [mx_none hm, nI_m1] at mkc
  have ic := mp_isCompared (g := g) (L := L1) hS hpl
  obtain ⟨I2, d1, d2, d3⟩ := mp_settle (g := g) (L := L1) (l := 1) hS (by decide) (by decide) pm (by omega)
  have es : stl 1 Q cs = ([], cs ++ qcF Q) := by
    have := stl_app (P := []) 1 hw (Nat.le_refl _) cs
    rw [List.append_nil] at this
    rw [this]; rfl
  rw [es] at d2
  have rr : ∀ q, 9 ≤ q → q ≤ 12 → I2 76 q = I1 76 q := fun q h1 h2 => d3.2.2 q (by omega) (by omega) (by omega)
  refine ⟨I2, L1, c3 (wp_X12_parsed_12 k76 ⟨fun z => absurd z (by decide), fun _ => ⟨fun z => absurd z (by rw [e21]; decide), fun _ => ⟨_, I1, L1, q, wp_X12_parsed_12 k76 ⟨fun _ => ⟨_, mkc, fun z => absurd z (by decide), fun _ => ⟨fun _ => ⟨I2, L1, d1, rfl, rfl⟩, fun z => ⟨_, ic, fun _ => ⟨I2, L1, d1, rfl, rfl⟩, fun z2 => ?_⟩⟩⟩, fun z => absurd rfl z⟩⟩⟩⟩), c1.1.sf (d3.2.2 6 (by decide) (by decide) (by decide)) (d3.1 80 (by decide) (by decide)), MTk.kept c1.2.1 rr, d2.2.1, d2.2.2, ?_, hj, c2.trans d3.gf⟩
  · have he : ei = true := by
      cases ei with
      | true => rfl
      | false => exact absurd rfl z
    rw [(hc he).1] at z2
    exact absurd z2 (by decide)
  · rw [List.length_append]
    unfold qcF
    rw [List.length_map]; exact bn
theorem mp_parsed (hS : Sh Z) (h8 : T8 tp) (hT : TSz ts) (h11 : ∀ i, 11 ≤ kT ts i) {I : Nat → Nat → Int32} {L : Nat → Nat → Int64} {cs : List (Nat × Nat)} {i u : Nat} {a : EF} (hM : MT I tp) (hk : MTk I L tp ts i) (hc : CDz I k cs) (h20 : I 76 20 = 0) (hb : cs.length ≤ i) (hi : i < ts.length) (hs : I 76 22 = 2 ↔ lk = true) : PaR g Z L k tp ts ei cs i I (prF (kT ts) (vT ts) lk u (if ei then 8 else 3) 0 i a) := by
  have k76 := hS.k 76 12 (by decide) (by decide)
  obtain ⟨J1, e1⟩ : ∃ J, J = rw1 I 76 (upd (I 76) 19 0) := ⟨_, rfl⟩
  obtain ⟨J2, e2⟩ : ∃ J, J = rw1 J1 76 (upd (J1 76) 21 0) := ⟨_, rfl⟩
  have o : ∀ a, a ≠ 76 → J2 a = I a := fun a ha => by rw [e2, rw1_n _ _ ha, e1, rw1_n _ _ ha]
  have r : ∀ q, ¬ q = 19 → ¬ q = 21 → J2 76 q = I 76 q := fun q h1 h2 => by rw [e2, rw1_s, upd_n _ _ h2, e1, rw1_s, upd_n _ _ h1]
  have gf : GFz k I J2 := ⟨fun a h1 _ _ => o a h1, fun x _ => by rw [o 79 (by decide)], fun q _ _ h2 _ h4 => r q h2 h4⟩
  have m : MAz J2 L k tp ts ([], cs, false, i) := ⟨hM.sf (r 6 (by decide) (by decide)) (o 80 (by decide)), hk.kept (fun q h1 h2 => r q (by omega) (by omega)), ⟨⟨by rw [e2, rw1_s, upd_n _ _ (by decide), e1, rw1_s, upd_s]; rfl, Nat.zero_le _, fun x hx => (by cases hx), fun j v hj => (by cases hj)⟩, hc.kept (o 79 (by decide)) (r 14 (by decide) (by decide)) (r 16 (by decide) (by decide)), by rw [r 20 (by decide) (by decide)]; exact h20⟩, by rw [e2, rw1_s, upd_s]; rfl, ⟨hb, Nat.zero_le _, Nat.zero_le _⟩, hi⟩
  have hs2 : J2 76 22 = 2 ↔ lk = true := by rw [r 22 (by decide) (by decide)]; exact hs
  have go : ∀ {v : Option Value} {M' : Mem}, Lp_X12_parsed_12 g 6 76 (b2i ei) 1 (Z, J2, L) v M' → Cl g 6 mu_X12_parsed [rf g 76, .int (b2i ei)] (Z, I, L) v M' := fun {v M'} h => cp_X12_parsed k76 (fun I1 h1 I2 h2 => by rw [← e1] at h1; rw [h1, ← e2] at h2; rw [h2]; exact h)
  have sm := sim_all (K := kT ts) (V := vT ts) (lk := lk) (ei := ei) (fun i hi => hT.2.2.2.2.2.1 i hi) u
  cases ei with
  | false =>
    have w := sm.2.2.2.1 0 i a [] cs rfl (by decide) (fun z => by cases z) True.intro
    show PaR g Z L k tp ts false cs i I (prF (kT ts) (vT ts) lk u 3 0 i a)
    cases hx : prF (kT ts) (vT ts) lk u 3 0 i a with
    | inl q =>
      rw [hx] at w
      intro hz
      obtain ⟨I1, L1, a1, a2, a3, a4, a5, a6⟩ := pa_fau (g := g) hS h8 hT h11 m hs2 (w hz)
      exact ⟨I1, L1, go a1, a2, a3, a4, gf.trans a5, a6⟩
    | inr q =>
      rw [hx] at w
      obtain ⟨Q, ds, r1, r2, r3, r4⟩ := w
      rw [List.append_nil] at r1
      obtain ⟨I1, L1, a1, a2, a3, a4, a5, a6, a7, a8⟩ := pa_end (g := g) hS h8 hT h11 m hs2 r1 (r2.less (by decide)) r3 (fun z => by cases z)
      rw [List.append_assoc] at a4 a6
      exact ⟨I1, L1, ds ++ qcF Q, go a1, a2, a3, a4, a5, a6, a7, gf.trans a8, r4⟩
  | true =>
    have w := sm.2.2.2.2.2.2.2.2.1 0 i a [] cs rfl (by decide) rfl True.intro
    show PaR g Z L k tp ts true cs i I (prF (kT ts) (vT ts) lk u 8 0 i a)
    cases hx : prF (kT ts) (vT ts) lk u 8 0 i a with
    | inl q =>
      rw [hx] at w
      intro hz
      obtain ⟨I1, L1, a1, a2, a3, a4, a5, a6⟩ := pa_fau (g := g) hS h8 hT h11 m hs2 (w hz)
      exact ⟨I1, L1, go a1, a2, a3, a4, gf.trans a5, a6⟩
    | inr q =>
      rw [hx] at w
      obtain ⟨Q, ds, r1, r2, r3, r4, r5, r6⟩ := w
      rw [List.append_nil] at r1 r6
      obtain ⟨I1, L1, a1, a2, a3, a4, a5, a6, a7, a8⟩ := pa_end (g := g) hS h8 hT h11 m hs2 r1 r2 r3.1 (fun _ => ⟨r6, r3.2⟩)
      rw [List.append_assoc] at a4 a6
      exact ⟨I1, L1, ds ++ qcF Q, go a1, a2, a3, a4, a5, a6, a7, gf.trans a8, r4, r5⟩
end MPAR
