/-! the model's reader: beginOne() -/
def GFz (k : Nat) (I I1 : Nat → Nat → Int32) : Prop := (∀ a, a ≠ 76 → a ≠ 79 → a ≠ 81 → I1 a = I a) ∧ (∀ x, ¬ (620 * k + 15 ≤ x ∧ x < 620 * k + 620) → I1 79 x = I 79 x) ∧ ∀ q, ¬ (9 ≤ q ∧ q ≤ 12) → q ≠ 16 → q ≠ 19 → q ≠ 20 → q ≠ 21 → I1 76 q = I 76 q
theorem GFz.refl (k : Nat) (I : Nat → Nat → Int32) : GFz k I I := ⟨fun _ _ _ _ => rfl, fun _ _ => rfl, fun _ _ _ _ _ _ => rfl⟩
theorem GFz.trans {k : Nat} {I I1 I2 : Nat → Nat → Int32} (a : GFz k I I1) (b : GFz k I1 I2) : GFz k I I2 := ⟨fun q h1 h2 h3 => by rw [b.1 q h1 h2 h3, a.1 q h1 h2 h3], fun q h => by rw [b.2.1 q h, a.2.1 q h], fun q h1 h2 h3 h4 h5 => by rw [b.2.2 q h1 h2 h3 h4 h5, a.2.2 q h1 h2 h3 h4 h5]⟩
theorem NFz.gf {k : Nat} {I I1 : Nat → Nat → Int32} (n : NFz I I1) : GFz k I I1 := ⟨fun a h _ _ => n.1 a h, fun x _ => by rw [n.1 79 (by decide)], fun q h _ _ _ _ => n.2 q h⟩
theorem SFz.gf {k : Nat} {I I1 : Nat → Nat → Int32} (n : SFz k I I1) : GFz k I I1 := ⟨fun a h1 h2 _ => n.1 a h1 h2, n.2.1, fun q _ h1 h2 h3 _ => n.2.2 q h1 h2 h3⟩
/-- bounds: every token makes one code or one on the pile at most -/
def BNz (P : List Nat) (cs : List (Nat × Nat)) (w : Bool) (i : Nat) : Prop := cs.length + P.length ≤ i ∧ 2 * P.length + (if w = true then 1 else 0) ≤ i + opsF P ∧ opsF P ≤ 8
def MAz (I : Nat → Nat → Int32) (L : Nat → Nat → Int64) (k : Nat) (tp : List Nat) (ts : List (Nat × Nat × Nat)) (s : MSt) : Prop := MT I tp ∧ MTk I L tp ts s.2.2.2 ∧ PMs I k s.1 s.2.1 ∧ I 76 21 = b2i s.2.2.1 ∧ BNz s.1 s.2.1 s.2.2.1 s.2.2.2 ∧ s.2.2.2 < ts.length
theorem MTk.kept {I I1 : Nat → Nat → Int32} {L : Nat → Nat → Int64} {tp : List Nat} {ts : List (Nat × Nat × Nat)} {i : Nat} (h : MTk I L tp ts i) (e : ∀ q, 9 ≤ q → q ≤ 12 → I1 76 q = I 76 q) : MTk I1 L tp ts i := by
  obtain ⟨a, ⟨t, b1, b2, b3, b4, b5, b6⟩, c⟩ := h
  exact ⟨by rw [e 10 (by decide) (by decide)]; exact a, ⟨t, by rw [e 11 (by decide) (by decide)]; exact b1, b2, b3, b4, by rw [e 12 (by decide) (by decide)]; exact b5, b6⟩, by rw [e 9 (by decide) (by decide)]; exact c⟩
theorem MT.sf {I I1 : Nat → Nat → Int32} {tp : List Nat} (h : MT I tp) (e6 : I1 76 6 = I 76 6) (e80 : I1 80 = I 80) : MT I1 tp := ⟨by rw [e6]; exact h.1, h.2.1, fun k v hk => by rw [e80]; exact h.2.2 k v hk⟩
theorem CDz.kept {I I1 : Nat → Nat → Int32} {k : Nat} {cs : List (Nat × Nat)} (c : CDz I k cs) (e79 : I1 79 = I 79) (e14 : I1 76 14 = I 76 14) (e16 : I1 76 16 = I 76 16) : CDz I1 k cs := ⟨c.1, by rw [e14]; exact c.2.1, by rw [e16]; exact c.2.2.1, c.2.2.2.1, by rw [e79]; exact c.2.2.2.2⟩
theorem PMs.nf {I I1 : Nat → Nat → Int32} {k : Nat} {P : List Nat} {cs : List (Nat × Nat)} (h : PMs I k P cs) (n : NFz I I1) : PMs I1 k P cs := ⟨h.1.kept (n.1 81 (by decide)) (n.2 19 (by omega)), h.2.1.kept (n.1 79 (by decide)) (n.2 14 (by omega)) (n.2 16 (by omega)), by rw [n.2 20 (by omega)]; exact h.2.2⟩
theorem stl_b (l : Nat) : ∀ (P : List Nat) (cs : List (Nat × Nat)), (stl l P cs).2.length + (stl l P cs).1.length = cs.length + P.length ∧ 2 * (stl l P cs).1.length + opsF P ≤ 2 * P.length + opsF (stl l P cs).1 ∧ opsF (stl l P cs).1 ≤ opsF P := by
  intro P
  induction P with
  | nil => intro cs; exact ⟨rfl, Nat.le_refl _, Nat.le_refl _⟩
  | cons q P ih =>
    intro cs
    have es : stl l (q :: P) cs = if l ≤ rkO q then stl l P (cs ++ [(q, 0)]) else (q :: P, cs) := rfl
    rw [es]
    by_cases h : l ≤ rkO q
    · rw [if_pos h]
      obtain ⟨a, b, c⟩ := ih (cs ++ [(q, 0)])
      rw [List.length_append, List.length_singleton] at a
      rw [List.length_cons]
      by_cases hu : q = 2 ∨ q = 20 ∨ 40 ≤ q
      · rw [ops_u hu]; omega
      · rw [ops_b hu]; omega
    · rw [if_neg h]; exact ⟨rfl, Nat.le_refl _, Nat.le_refl _⟩
section MBEG
variable {g : GE} {Z : Zs} {I : Nat → Nat → Int32} {L : Nat → Nat → Int64} {tp : List Nat} {ts : List (Nat × Nat × Nat)} {k i : Nat} {P : List Nat} {cs : List (Nat × Nat)}
theorem mp_whole (hS : Sh Z) (h : PMs I k P cs) (hb : cs.length + P.length ≤ 302) : ∃ I1, Cl g 3 mu_X12_whole [rf g 76] (Z, I, L) none (Z, I1, L) ∧ PMs I1 k (stl 7 P cs).1 (stl 7 P cs).2 ∧ I1 76 21 = 1 ∧ GFz k I I1 ∧ (∀ q, ¬ q = 16 → ¬ q = 19 → ¬ q = 20 → ¬ q = 21 → I1 76 q = I 76 q) ∧ ∀ a, a ≠ 76 → a ≠ 79 → I1 a = I a := by
  obtain ⟨J, e⟩ : ∃ J, J = rw1 I 76 (upd (I 76) 21 1) := ⟨_, rfl⟩
  have o : ∀ a, a ≠ 76 → J a = I a := fun a ha => by rw [e, rw1_n _ _ ha]
  have r : ∀ q, ¬ q = 21 → J 76 q = I 76 q := fun q hq => by rw [e, rw1_s, upd_n _ _ hq]
  have p : PMs J k P cs := ⟨h.1.kept (o 81 (by decide)) (r 19 (by decide)), h.2.1.kept (o 79 (by decide)) (r 14 (by decide)) (r 16 (by decide)), by rw [r 20 (by decide)]; exact h.2.2⟩
  obtain ⟨I1, a, b, c⟩ := mp_settle (g := g) (L := L) (l := 7) hS (by decide) (by decide) p hb
  have f : GFz k I J := ⟨fun q h1 _ _ => o q h1, fun x _ => by rw [o 79 (by decide)], fun q _ _ _ _ h5 => r q h5⟩
  exact ⟨I1, cp_X12_whole (hS.k 76 12 (by decide) (by decide)) (fun I2 h2 => ⟨I1, L, by rw [h2, ← e]; exact a, rfl, rfl⟩), b, by rw [c.2.2 21 (by decide) (by decide) (by decide), e, rw1_s, upd_s], f.trans c.gf, fun q h1 h2 h3 h4 => by rw [c.2.2 q h1 h2 h3, r q h4], fun q h1 h2 => by rw [c.1 q h1 h2, o q h1]⟩
/-- a number or a name: a code, the next token, whole -/
theorem mp_one (hS : Sh Z) (h8 : T8 tp) (hT : TSz ts) (m : MAz I L k tp ts (P, cs, false, i)) (hk : ¬ kT ts i = 37) (o v : Nat) : ∃ I1 J1 J2 L1, Cl g 1 mu_X12_emit [rf g 76, .int (nI o), .int (nI v)] (Z, I, L) none (Z, J1, L) ∧ Cl g 3 mu_X12_nextToken [rf g 76] (Z, J1, L) none (Z, J2, L1) ∧ Cl g 3 mu_X12_whole [rf g 76] (Z, J2, L1) none (Z, I1, L1) ∧ MAz I1 L1 k tp ts (whlF (stl 7 P (cs ++ [(o, v)])) (i + 1)) ∧ GFz k I I1 := by
  obtain ⟨m1, m2, m3, m4, ⟨b1, b2, b3⟩, m6⟩ := m
  have m1 : MT I tp := m1
  have m2 : MTk I L tp ts i := m2
  have m3 : PMs I k P cs := m3
  have b1 : cs.length + P.length ≤ i := b1
  have b2 : 2 * P.length + 0 ≤ i + opsF P := b2
  have b3 : opsF P ≤ 8 := b3
  have m6 : i < ts.length := m6
  have hl := hT.2.1
  obtain ⟨J1, a1, a2, a3, a4, a5⟩ := mp_emit (g := g) (L := L) hS m3.2.1 (by omega) o v
  have p1 : PMs J1 k P (cs ++ [(o, v)]) := ⟨m3.1.kept (a3.1 81 (by decide) (by decide)) a4, a2, by rw [a5]; exact m3.2.2⟩
  obtain ⟨J2, L1, c1, c2, c3, c4⟩ := mp_next (g := g) (L := L) hS h8 (m1.sf (a3.2.2 6 (by decide) (by decide) (by decide)) (a3.1 80 (by decide) (by decide))) (m2.kept (fun q h1 h2 => a3.2.2 q (by omega) (by omega) (by omega))) hk
  obtain ⟨I1, d1, d2, d3, d4, d5, d6⟩ := mp_whole (g := g) (L := L1) hS (p1.nf c2) (by rw [List.length_append, List.length_singleton]; omega)
  obtain ⟨s1, s2, s3⟩ := stl_b 7 P (cs ++ [(o, v)])
  rw [List.length_append, List.length_singleton] at s1
  have mt2 : MT J2 tp := ((m1.sf (I1 := J1) (a3.2.2 6 (by decide) (by decide) (by decide)) (a3.1 80 (by decide) (by decide))).nf c2)
  refine ⟨I1, J1, J2, L1, a1, c1, d1, ⟨mt2.sf (d5 6 (by decide) (by decide) (by decide) (by decide)) (d6 80 (by decide) (by decide)), c3.kept (fun q h1 h2 => d5 q (by omega) (by omega) (by omega) (by omega)), d2, d3, ⟨?_, ?_, ?_⟩, c4⟩, (a3.gf.trans c2.gf).trans d4⟩
  · show (stl 7 P (cs ++ [(o, v)])).2.length + (stl 7 P (cs ++ [(o, v)])).1.length ≤ i + 1; omega
  · show 2 * (stl 7 P (cs ++ [(o, v)])).1.length + 1 ≤ i + 1 + opsF (stl 7 P (cs ++ [(o, v)])).1; omega
  · show opsF (stl 7 P (cs ++ [(o, v)])).1 ≤ 8; omega
theorem mp_opensBy (hS : Sh Z) (h8 : T8 tp) (hT : TSz ts) (m : MAz I L k tp ts (P, cs, false, i)) (hk : ¬ kT ts i = 37) {o : Nat} (ho : o = 2 ∨ o = 20 ∨ (40 ≤ o ∧ o < 64)) : (opsF P = 8 → Cl g 4 mu_X12_opensBy [rf g 76, .int (nI o)] (Z, I, L) (some (.int 3)) (Z, I, L)) ∧ (¬ opsF P = 8 → ∃ I1 L1, Cl g 4 mu_X12_opensBy [rf g 76, .int (nI o)] (Z, I, L) (some (.int 0)) (Z, I1, L1) ∧ MAz I1 L1 k tp ts (o :: P, cs, false, i + 1) ∧ GFz k I I1) := by
  obtain ⟨m1, m2, m3, m4, ⟨b1, b2, b3⟩, m6⟩ := m
  have m1 : MT I tp := m1
  have m2 : MTk I L tp ts i := m2
  have m3 : PMs I k P cs := m3
  have m4 : I 76 21 = 0 := m4
  have b1 : cs.length + P.length ≤ i := b1
  have b2 : 2 * P.length + 0 ≤ i + opsF P := b2
  have b3 : opsF P ≤ 8 := b3
  have m6 : i < ts.length := m6
  have hl := hT.2.1
  have e8 : I 76 20 = 8 ↔ opsF P = 8 := by rw [m3.2.2]; exact nI_eq (b := 8) (by omega) (by decide)
  refine ⟨fun z => cp_X12_opensBy (hS.k 76 12 (by decide) (by decide)) ⟨fun y => absurd (e8.mpr z) y, fun _ => ⟨rfl, rfl⟩⟩, fun z => ?_⟩
  obtain ⟨J, e⟩ : ∃ J, J = rw1 I 76 (upd (I 76) 20 (nI (opsF P + 1))) := ⟨_, rfl⟩
  have ja : ∀ a, a ≠ 76 → J a = I a := fun a ha => by rw [e, rw1_n _ _ ha]
  have jr : ∀ q, ¬ q = 20 → J 76 q = I 76 q := fun q hq => by rw [e, rw1_s, upd_n _ _ hq]
  have ou : opsF (o :: P) = opsF P + 1 := ops_u (by omega)
  obtain ⟨J1, a1, a2, a3, a4⟩ := mp_push (g := g) (L := L) hS (m3.1.kept (I1 := J) (ja 81 (by decide)) (jr 19 (by decide))) (by omega) (show o < 64 by omega)
  have r : ∀ q, ¬ q = 19 → ¬ q = 20 → J1 76 q = I 76 q := fun q h1 h2 => by rw [a4 q h1, jr q h2]
  have oo : ∀ a, a ≠ 76 → a ≠ 81 → J1 a = I a := fun a h1 h2 => by rw [a3 a h1 h2, ja a h1]
  have p1 : PMs J1 k (o :: P) cs := ⟨a2, m3.2.1.kept (oo 79 (by decide) (by decide)) (r 14 (by decide) (by decide)) (r 16 (by decide) (by decide)), by rw [a4 20 (by decide), e, rw1_s, upd_s, ou]⟩
  have mt1 : MT J1 tp := m1.sf (r 6 (by decide) (by decide)) (oo 80 (by decide) (by decide))
  obtain ⟨J2, L1, c1, c2, c3, c4⟩ := mp_next (g := g) (L := L) hS h8 mt1 (m2.kept (fun q h1 h2 => r q (by omega) (by omega))) hk
  refine ⟨J2, L1, cp_X12_opensBy (hS.k 76 12 (by decide) (by decide)) ⟨fun _ I1 h1 => ⟨J1, L, ?_, J2, L1, c1, rfl, rfl⟩, fun y => absurd (e8.mp y) z⟩, ⟨mt1.nf c2, c3, p1.nf c2, ?_, ⟨?_, ?_, ?_⟩, c4⟩, ?_⟩
  · rw [m3.2.2, nI_1, ← e] at h1
    rw [h1]; exact a1
  · show J2 76 21 = 0
    rw [c2.2 21 (by omega), r 21 (by decide) (by decide)]; exact m4
  · show cs.length + (o :: P).length ≤ i + 1
    rw [List.length_cons]; omega
  · show 2 * (o :: P).length + 0 ≤ i + 1 + opsF (o :: P)
    rw [List.length_cons, ou]; omega
  · show opsF (o :: P) ≤ 8
    omega
  · refine GFz.trans ⟨fun a h1 _ h3 => oo a h1 h3, fun x _ => by rw [oo 79 (by decide) (by decide)], fun q _ _ h2 h3 _ => r q h2 h3⟩ c2.gf
end MBEG
