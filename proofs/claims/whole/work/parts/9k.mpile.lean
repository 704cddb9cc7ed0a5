/-! the model's pile: emit(), push(), rank(), settle(), whole(), marker(), isCompared() -/
def PLz (I : Nat → Nat → Int32) (P : List Nat) : Prop := I 76 19 = nI P.length ∧ P.length ≤ 160 ∧ (∀ x ∈ P, x < 64) ∧ ∀ (j : Nat) v, P.reverse[j]? = some v → I 81 j = nI v
def CDz (I : Nat → Nat → Int32) (k : Nat) (cs : List (Nat × Nat)) : Prop := k < 4 ∧ I 76 14 = nI (620 * k) ∧ I 76 16 = nI cs.length ∧ cs.length ≤ 302 ∧ ∀ (j : Nat) q, cs[j]? = some q → I 79 (620 * k + 15 + 2 * j) = nI q.1 ∧ I 79 (620 * k + 15 + 2 * j + 1) = nI q.2
def PMs (I : Nat → Nat → Int32) (k : Nat) (P : List Nat) (cs : List (Nat × Nat)) : Prop := PLz I P ∧ CDz I k cs ∧ I 76 20 = nI (opsF P)
def SFz (k : Nat) (I I1 : Nat → Nat → Int32) : Prop := (∀ a, a ≠ 76 → a ≠ 79 → I1 a = I a) ∧ (∀ x, ¬ (620 * k + 15 ≤ x ∧ x < 620 * k + 620) → I1 79 x = I 79 x) ∧ ∀ q, q ≠ 16 → q ≠ 19 → q ≠ 20 → I1 76 q = I 76 q
theorem SFz.refl (k : Nat) (I : Nat → Nat → Int32) : SFz k I I := ⟨fun _ _ _ => rfl, fun _ _ => rfl, fun _ _ _ _ => rfl⟩
theorem SFz.trans {k : Nat} {I I1 I2 : Nat → Nat → Int32} (a : SFz k I I1) (b : SFz k I1 I2) : SFz k I I2 := ⟨fun q h1 h2 => by rw [b.1 q h1 h2, a.1 q h1 h2], fun q h => by rw [b.2.1 q h, a.2.1 q h], fun q h1 h2 h3 => by rw [b.2.2 q h1 h2 h3, a.2.2 q h1 h2 h3]⟩
theorem SFz.put (k : Nat) (I : Nat → Nat → Int32) {q : Nat} (h : q = 16 ∨ q = 19 ∨ q = 20) (x : Int32) : SFz k I (rw1 I 76 (upd (I 76) q x)) := ⟨fun a ha _ => rw1_n _ _ ha, fun x _ => by rw [rw1_n _ _ (by decide)], fun p h1 h2 h3 => by rw [rw1_s, upd_n _ _ (by omega)]⟩
section MPILE
variable {g : GE} {Z : Zs} {L : Nat → Nat → Int64} {k : Nat}
theorem mp_emit (hS : Sh Z) {I : Nat → Nat → Int32} {cs : List (Nat × Nat)} (c : CDz I k cs) (hl : cs.length < 302) (o v : Nat) : ∃ I1, Cl g 1 mu_X12_emit [rf g 76, .int (nI o), .int (nI v)] (Z, I, L) none (Z, I1, L) ∧ CDz I1 k (cs ++ [(o, v)]) ∧ SFz k I I1 ∧ I1 76 19 = I 76 19 ∧ I1 76 20 = I 76 20 := by
  obtain ⟨c1, c2, c3, c4, c5⟩ := c
  obtain ⟨B, hB⟩ : ∃ B, B = 620 * k + 15 + 2 * cs.length := ⟨_, rfl⟩
  have hB2 : B + 1 < 2480 := by omega
  obtain ⟨J1, e1⟩ : ∃ J, J = rw1 I 79 (upd (I 79) B (nI o)) := ⟨_, rfl⟩
  obtain ⟨J2, e2⟩ : ∃ J, J = rw1 J1 79 (upd (J1 79) (B + 1) (nI v)) := ⟨_, rfl⟩
  obtain ⟨J3, e3⟩ : ∃ J, J = rw1 J2 76 (upd (J2 76) 16 (nI (cs.length + 1))) := ⟨_, rfl⟩
  have p1 : J1 76 = I 76 := by rw [e1, rw1_n _ _ (by decide)]
  have p2 : J2 76 = I 76 := by rw [e2, rw1_n _ _ (by decide), p1]
  have ex : I 76 14 + 15 + 2 * I 76 16 = nI B := by
    rw [c2, c3, show (2 : Int32) * nI cs.length = nI (2 * cs.length) from pk_mul 2 _, show nI (620 * k) + 15 = nI (620 * k + 15) from nI_add _ _, nI_add, hB]
  have n79 := hS.n 79 2480 (by decide)
  have u : ∀ x, J3 79 x = if x = B + 1 then nI v else if x = B then nI o else I 79 x := fun x => by
    rw [e3, rw1_n _ _ (by decide), e2, rw1_s]
    by_cases h1 : x = B + 1
    · rw [if_pos h1, h1, upd_s]
    · rw [if_neg h1, upd_n _ _ h1, e1, rw1_s]
      by_cases h2 : x = B
      · rw [if_pos h2, h2, upd_s]
      · rw [if_neg h2, upd_n _ _ h2]
  have r : ∀ q, q ≠ 16 → J3 76 q = I 76 q := fun q hq => by rw [e3, rw1_s, upd_n _ _ hq, p2]
  refine ⟨J3, cp_X12_emit (hS.k 76 12 (by decide) (by decide)) (hS.r 76 4 79 (by decide)) (hS.k 79 13 (by decide) (by decide)) ?_, ⟨c1, by rw [r 14 (by decide)]; exact c2, by rw [e3, rw1_s, upd_s, List.length_append]; rfl, by rw [List.length_append, List.length_singleton]; omega, fun j q hj => ?_⟩, ⟨fun a h1 h2 => by rw [e3, rw1_n _ _ h1, e2, rw1_n _ _ h2, e1, rw1_n _ _ h2], fun x hx => by rw [u, if_neg (by omega), if_neg (by omega)], fun q h1 _ _ => r q h1⟩, r 19 (by decide), r 20 (by decide)⟩
  · rw [ex, n79, nI_clamp (by omega)]
    refine ⟨vp_in_nI (by omega) (by decide), fun I2 h2 => ?_⟩
    rw [← e1] at h2
    rw [h2, p1, ex, nI_1, nI_clamp (by omega)]
    refine ⟨vp_in_nI hB2 (by decide), fun I4 h4 I5 h5 => ⟨rfl, ?_⟩⟩
    rw [← e2] at h4
    rw [h4, p2, c3, nI_1, ← p2, ← e3] at h5
    rw [h5]
  · by_cases he : j = cs.length
    · rw [he, List.getElem?_append_right (Nat.le_refl _), Nat.sub_self] at hj
      have hq := Option.some.inj hj
      rw [← hq, he, ← hB, u, u, if_neg (by omega), if_pos rfl, if_pos rfl]
      exact ⟨rfl, rfl⟩
    · have hjl := (List.getElem?_eq_some_iff.mp hj).1
      rw [List.length_append, List.length_singleton] at hjl
      rw [List.getElem?_append_left (by omega)] at hj
      rw [u, u, if_neg (by omega), if_neg (by omega), if_neg (by omega), if_neg (by omega)]
      exact c5 j q hj
theorem PLz.top {I : Nat → Nat → Int32} {P : List Nat} {q : Nat} (h : PLz I (q :: P)) : I 81 P.length = nI q := h.2.2.2 P.length q (by
  rw [List.reverse_cons, List.getElem?_append_right (by rw [List.length_reverse]; exact Nat.le_refl _), List.length_reverse, Nat.sub_self]; rfl)
theorem PLz.pop {I I1 : Nat → Nat → Int32} {P : List Nat} {q : Nat} (h : PLz I (q :: P)) (h81 : I1 81 = I 81) (h19 : I1 76 19 = nI P.length) : PLz I1 P := by
  obtain ⟨a, b, c, d⟩ := h
  rw [List.length_cons] at b
  refine ⟨h19, by omega, fun x hx => c x (List.mem_cons_of_mem _ hx), fun j v hj => ?_⟩
  rw [h81]
  refine d j v ?_
  rw [List.reverse_cons, List.getElem?_append_left (List.getElem?_eq_some_iff.mp hj).1]
  exact hj
theorem PLz.kept {I I1 : Nat → Nat → Int32} {P : List Nat} (h : PLz I P) (h81 : I1 81 = I 81) (h19 : I1 76 19 = I 76 19) : PLz I1 P := ⟨by rw [h19]; exact h.1, h.2.1, h.2.2.1, fun j v hj => by rw [h81]; exact h.2.2.2 j v hj⟩
theorem mp_push (hS : Sh Z) {I : Nat → Nat → Int32} {P : List Nat} (h : PLz I P) (hl : P.length < 160) {o : Nat} (ho : o < 64) : ∃ I1, Cl g 1 mu_X12_push [rf g 76, .int (nI o)] (Z, I, L) none (Z, I1, L) ∧ PLz I1 (o :: P) ∧ (∀ a, a ≠ 76 → a ≠ 81 → I1 a = I a) ∧ ∀ q, q ≠ 19 → I1 76 q = I 76 q := by
  obtain ⟨a, b, c, d⟩ := h
  obtain ⟨J1, e1⟩ : ∃ J, J = rw1 I 81 (upd (I 81) P.length (nI o)) := ⟨_, rfl⟩
  obtain ⟨J2, e2⟩ : ∃ J, J = rw1 J1 76 (upd (J1 76) 19 (nI (P.length + 1))) := ⟨_, rfl⟩
  have p1 : J1 76 = I 76 := by rw [e1, rw1_n _ _ (by decide)]
  refine ⟨J2, cp_X12_push (hS.k 76 12 (by decide) (by decide)) (hS.r 76 18 81 (by decide)) (hS.k 81 13 (by decide) (by decide)) ?_, ⟨by rw [e2, rw1_s, upd_s]; rfl, by rw [List.length_cons]; omega, fun x hx => ?_, fun j v hj => ?_⟩, fun q h1 h2 => by rw [e2, rw1_n _ _ h1, e1, rw1_n _ _ h2], fun q hq => by rw [e2, rw1_s, upd_n _ _ hq, p1]⟩
  · rw [a, hS.n 81 160 (by decide), nI_clamp (by omega)]
    refine ⟨vp_in_nI hl (by decide), fun I2 h2 I3 h3 => ⟨rfl, ?_⟩⟩
    rw [← e1] at h2
    rw [h2, p1, a, nI_1, ← p1, ← e2] at h3
    rw [h3]
  · rcases List.mem_cons.mp hx with rfl | hx
    · exact ho
    · exact c x hx
  · rw [e2, rw1_n _ _ (by decide), e1, rw1_s]
    rw [List.reverse_cons] at hj
    by_cases he : j = P.length
    · rw [he, List.getElem?_append_right (by rw [List.length_reverse]; exact Nat.le_refl _), List.length_reverse, Nat.sub_self] at hj
      rw [he, upd_s, Option.some.inj hj]
    · have hjl := (List.getElem?_eq_some_iff.mp hj).1
      rw [List.length_append, List.length_reverse, List.length_singleton] at hjl
      rw [List.getElem?_append_left (by rw [List.length_reverse]; omega)] at hj
      rw [upd_n _ _ he]; exact d j v hj
theorem mp_rank {I : Nat → Nat → Int32} {o : Nat} (h : o < 64) : Cl g 1 mu_X12_rank [.int (nI o)] (Z, I, L) (some (.int (nI (rkO o)))) (Z, I, L) := by
  have q40 : nI o < 40 ↔ o < 40 := nI_ltI (b := 40) (by omega) (by decide)
  have q10 : nI o < 10 ↔ o < 10 := nI_ltI (b := 10) (by omega) (by decide)
  have q5 : nI o < 5 ↔ o < 5 := nI_ltI (b := 5) (by omega) (by decide)
  have e : ∀ x, x < 64 → (nI o = nI x ↔ o = x) := fun x hx => nI_eq (by omega) (by omega)
  have e22 : nI o = 22 ↔ o = 22 := e 22 (by decide)
  have e21 : nI o = 21 ↔ o = 21 := e 21 (by decide)
  have e20 : nI o = 20 ↔ o = 20 := e 20 (by decide)
  have e2 : nI o = 2 ↔ o = 2 := e 2 (by decide)
  refine cp_X12_rank ?_
  rw [q40, q10, q5, e22, e21, e20, e2]
  unfold rkO
  refine ⟨fun h1 => ⟨fun h2 => ⟨fun h3 => ⟨fun h4 => ⟨fun h5 => ⟨fun h6 => ⟨fun h7 => ⟨?_, rfl⟩, fun h7 => ⟨?_, rfl⟩⟩, fun h6 => ⟨?_, rfl⟩⟩, fun h5 => ⟨?_, rfl⟩⟩, fun h4 => ⟨?_, rfl⟩⟩, fun h3 => ⟨?_, rfl⟩⟩, fun h2 => ⟨?_, rfl⟩⟩, fun h1 => ⟨?_, rfl⟩⟩
  · rw [if_neg (by omega), if_neg h2, if_neg h3, if_neg h4, if_neg (by omega), if_neg h6, if_neg (by omega)]; rfl
  · rw [if_neg (by omega), if_neg h2, if_neg h3, if_neg h4, if_neg (by omega), if_neg h6, if_pos (by omega)]; rfl
  · rw [if_neg (by omega), if_neg h2, if_neg h3, if_neg h4, if_neg (by omega), if_pos h6]; rfl
  · rw [if_neg (by omega), if_neg h2, if_neg h3, if_neg h4, if_pos (by omega)]; rfl
  · rw [if_neg (by omega), if_neg h2, if_neg h3, if_pos h4]; rfl
  · rw [if_neg (by omega), if_neg h2, if_pos h3]; rfl
  · rw [if_neg (by omega), if_pos h2]; rfl
  · rw [if_pos (by omega)]; rfl
theorem rk_lt (o : Nat) : rkO o < 8 := by
  unfold rkO
  repeat' split
  all_goals omega
theorem stl_0 (hS : Sh Z) {l : Nat} (h1 : 1 ≤ l) (hl : l < 8) : ∀ (P : List Nat) (cs : List (Nat × Nat)) (I : Nat → Nat → Int32), PMs I k P cs → cs.length + P.length ≤ 302 → ∃ I1, Lp_X12_settle_0 g 2 76 (nI l) (Z, I, L) none (Z, I1, L) ∧ PMs I1 k (stl l P cs).1 (stl l P cs).2 ∧ SFz k I I1 := by
  have k76 := hS.k 76 12 (by decide) (by decide)
  have r81 := hS.r 76 18 81 (by decide)
  have k81 := hS.k 81 13 (by decide) (by decide)
  have n81 := hS.n 81 160 (by decide)
  intro P
  induction P with
  | nil =>
    intro cs I h _
    refine ⟨I, wp_X12_settle_0 k76 r81 k81 ⟨fun _ => ⟨rfl, rfl⟩, fun z => ?_⟩, h, SFz.refl k I⟩
    rw [h.1.1] at z
    exact absurd (by decide) z
  | cons q P ih =>
    intro cs I h hb
    obtain ⟨hp, hc, ho⟩ := id h
    rw [List.length_cons] at hb
    have q64 := hp.2.2.1 q List.mem_cons_self
    have h19 : I 76 19 = nI (P.length + 1) := hp.1
    have hlen := hp.2.1
    rw [List.length_cons] at hlen
    have pos : ¬ I 76 19 ≤ 0 := by
      rw [h19, ← nI_0, nI_leI (by omega) (by decide)]; omega
    have e19 : I 76 19 - 1 = nI P.length := by rw [h19, nI_pred]
    have cl : (nI P.length).toNatClampNeg = P.length := nI_clamp (by omega)
    have hin : vp_in (nI P.length) (Z.2.2.1 81) := by rw [n81]; exact vp_in_nI (by omega) (by decide)
    have rk := mp_rank (g := g) (Z := Z) (I := I) (L := L) q64
    have rl := rk_lt q
    have es : stl l (q :: P) cs = if l ≤ rkO q then stl l P (cs ++ [(q, 0)]) else (q :: P, cs) := rfl
    have lt : nI (rkO q) < nI l ↔ rkO q < l := nI_ltI (by omega) (by omega)
    rw [es]
    by_cases hr : l ≤ rkO q
    case neg =>
      rw [if_neg hr]
      refine ⟨I, wp_X12_settle_0 k76 r81 k81 ⟨fun z => absurd z pos, fun _ => ?_⟩, h, SFz.refl k I⟩
      rw [e19, cl, hp.top]
      exact ⟨hin, _, rk, fun _ => ⟨rfl, rfl⟩, fun z => absurd (lt.mpr (by omega)) z⟩
    rw [if_pos hr]
    have q40 := rk_0.mp (Nat.le_trans h1 hr)
    obtain ⟨J1, e1⟩ : ∃ J, J = rw1 I 76 (upd (I 76) 19 (nI P.length)) := ⟨_, rfl⟩
    have f1 : SFz k I J1 := by rw [e1]; exact SFz.put k I (by decide) _
    have a19 : J1 76 19 = nI P.length := by rw [e1, rw1_s, upd_s]
    have a20 : J1 76 20 = nI (opsF (q :: P)) := by rw [e1, rw1_s, upd_n _ _ (by decide)]; exact ho
    have c1 : CDz J1 k cs := by
      obtain ⟨x1, x2, x3, x4, x5⟩ := hc
      exact ⟨x1, by rw [e1, rw1_s, upd_n _ _ (by decide)]; exact x2, by rw [e1, rw1_s, upd_n _ _ (by decide)]; exact x3, x4, by rw [e1, rw1_n _ _ (by decide)]; exact x5⟩
    obtain ⟨J2, m1, m2, m3, m4, m5⟩ := mp_emit (g := g) (L := L) hS c1 (by omega) q 0
    have t81 : J2 81 = I 81 := by rw [m3.1 81 (by decide) (by decide), f1.1 81 (by decide) (by decide)]
    have b19 : J2 76 19 = nI P.length := by rw [m4]; exact a19
    have b20 : J2 76 20 = nI (opsF (q :: P)) := by rw [m5]; exact a20
    have top : J2 81 P.length = nI q := by rw [t81]; exact hp.top
    have top1 : J1 81 P.length = nI q := by rw [f1.1 81 (by decide) (by decide)]; exact hp.top
    have hb2 : (cs ++ [(q, 0)]).length + P.length ≤ 302 := by rw [List.length_append, List.length_singleton]; omega
    have e2 : nI q = 2 ↔ q = 2 := nI_eq (b := 2) (by omega) (by decide)
    have e20 : nI q = 20 ↔ q = 20 := nI_eq (b := 20) (by omega) (by decide)
    by_cases hu : q = 2 ∨ q = 20
    · have oq : opsF (q :: P) = opsF P + 1 := ops_u (by omega)
      obtain ⟨J3, e3⟩ : ∃ J, J = rw1 J2 76 (upd (J2 76) 20 (nI (opsF P))) := ⟨_, rfl⟩
      have f3 : SFz k J2 J3 := by rw [e3]; exact SFz.put k J2 (by decide) _
      have ex : J2 76 20 - 1 = nI (opsF P) := by rw [b20, oq, nI_pred]
      have pm : PMs J3 k P (cs ++ [(q, 0)]) := by
        refine ⟨hp.pop (by rw [e3, rw1_n _ _ (by decide)]; exact t81) (by rw [e3, rw1_s, upd_n _ _ (by decide)]; exact b19), ?_, by rw [e3, rw1_s, upd_s]⟩
        obtain ⟨x1, x2, x3, x4, x5⟩ := m2
        exact ⟨x1, by rw [e3, rw1_s, upd_n _ _ (by decide)]; exact x2, by rw [e3, rw1_s, upd_n _ _ (by decide)]; exact x3, x4, by rw [e3, rw1_n _ _ (by decide)]; exact x5⟩
      obtain ⟨I1, g1, g2, g3⟩ := ih (cs ++ [(q, 0)]) J3 pm hb2
      refine ⟨I1, wp_X12_settle_0 k76 r81 k81 ⟨fun z => absurd z pos, fun _ => ?_⟩, g2, ((f1.trans m3).trans f3).trans g3⟩
      rw [e19, cl, hp.top]
      refine ⟨hin, _, rk, fun z => absurd (lt.mp z) (by omega), fun _ I4 h4 => ?_⟩
      rw [← e1] at h4
      rw [h4, a19, cl, top1]
      refine ⟨hin, J2, L, m1, ?_⟩
      rw [b19, cl, top]
      refine ⟨hin, fun z I10 h10 => ?_, fun z => ⟨hin, fun z2 => absurd hu (fun y => y.elim (fun x => z (e2.mpr x)) (fun x => z2 (e20.mpr x))), fun z2 I12 h12 => ?_⟩⟩
      · rw [ex, ← e3] at h10; rw [h10]; exact g1
      · rw [ex, ← e3] at h12; rw [h12]; exact g1
    · have oq : opsF (q :: P) = opsF P := ops_b (by omega)
      have pm : PMs J2 k P (cs ++ [(q, 0)]) := ⟨hp.pop t81 b19, m2, by rw [b20, oq]⟩
      obtain ⟨I1, g1, g2, g3⟩ := ih (cs ++ [(q, 0)]) J2 pm hb2
      refine ⟨I1, wp_X12_settle_0 k76 r81 k81 ⟨fun z => absurd z pos, fun _ => ?_⟩, g2, (f1.trans m3).trans g3⟩
      rw [e19, cl, hp.top]
      refine ⟨hin, _, rk, fun z => absurd (lt.mp z) (by omega), fun _ I4 h4 => ?_⟩
      rw [← e1] at h4
      rw [h4, a19, cl, top1]
      refine ⟨hin, J2, L, m1, ?_⟩
      rw [b19, cl, top]
      exact ⟨hin, fun z => absurd (Or.inl (e2.mp z)) hu, fun _ => ⟨hin, fun _ => g1, fun z => absurd (Or.inr (e20.mp z)) hu⟩⟩
theorem mp_settle (hS : Sh Z) {l : Nat} (h1 : 1 ≤ l) (hl : l < 8) {P : List Nat} {cs : List (Nat × Nat)} {I : Nat → Nat → Int32} (h : PMs I k P cs) (hb : cs.length + P.length ≤ 302) : ∃ I1, Cl g 2 mu_X12_settle [rf g 76, .int (nI l)] (Z, I, L) none (Z, I1, L) ∧ PMs I1 k (stl l P cs).1 (stl l P cs).2 ∧ SFz k I I1 := by
  obtain ⟨I1, a, b⟩ := stl_0 (g := g) (L := L) hS h1 hl P cs I h hb
  exact ⟨I1, cp_X12_settle (hS.k 76 12 (by decide) (by decide)) a, b⟩
end MPILE
