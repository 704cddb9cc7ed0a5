/-! the class's reader: all tokens, all clauses, a new Script -/
def tok1 (q : Nat × Nat × Nat) : Prop := q.1 ≤ 37 ∧ q.2.2 ≤ 10000 ∧ (q.1 = 20 → q.2.2 < 11) ∧ q.2.1 ≤ 300
theorem num_le (tp : List Nat) : ∀ (k p v : Nat), v ≤ 10000 → numF tp k p v ≤ 10000 := by
  intro k
  induction k with
  | zero => intro p v h; exact h
  | succ k ih =>
    intro p v h
    unfold numF
    split
    · exact ih _ _ (Nat.min_le_left _ _)
    · exact h
theorem tk_ok (tp : List Nat) {p : Nat} (hp : p ≤ 300) : tok1 ((tkF tp p).1, p, (tkF tp p).2.1) := by
  unfold tkF
  by_cases h1 : isLt (tp.getD p 0) = true
  · rw [if_pos h1]
    obtain ⟨w, hw⟩ : ∃ w, w = wdF ((tp.drop p).take (runF isLt tp 300 p - p)) := ⟨_, rfl⟩
    rw [← hw]
    show wkF w ≤ 37 ∧ wvF w ≤ 10000 ∧ (wkF w = 20 → wvF w < 11) ∧ p ≤ 300
    unfold wkF wvF
    by_cases a : w < 11
    · rw [if_pos a, if_pos a]; omega
    · rw [if_neg a, if_neg a]
      by_cases b : w < 19
      · rw [if_pos b]; omega
      · rw [if_neg b]; omega
  · rw [if_neg h1]
    by_cases h2 : isDg (tp.getD p 0) = true
    · rw [if_pos h2]
      have := num_le tp 300 p 0 (by decide)
      exact ⟨by show 19 ≤ 37; decide, this, fun z => absurd (show 19 = 20 from z) (by decide), hp⟩
    · rw [if_neg h2]
      have := sgn_le (tp.getD p 0)
      by_cases h3 : (tp.getD p 0 = 60 ∨ tp.getD p 0 = 62) ∧ tp.getD (p + 1) 0 = 61
      · rw [if_pos h3]; exact ⟨by show sgnF _ + 1 ≤ 37; omega, Nat.zero_le _, fun _ => by show 0 < 11; decide, hp⟩
      · rw [if_neg h3]; exact ⟨by show sgnF _ ≤ 37; omega, Nat.zero_le _, fun _ => by show 0 < 11; decide, hp⟩
theorem kT_last {x : Nat × Nat × Nat} {ts : List (Nat × Nat × Nat)} (h1 : 1 ≤ ts.length) (h : kT ts (ts.length - 1) = 37) : kT (x :: ts) ((x :: ts).length - 1) = 37 := by
  obtain ⟨n, hn⟩ : ∃ n, ts.length = n + 1 := ⟨ts.length - 1, by omega⟩
  rw [List.length_cons, Nat.add_sub_cancel, hn]
  rw [hn, Nat.add_sub_cancel] at h
  exact h
theorem scF_ok (tp : List Nat) (hl : tp.length ≤ 300) : ∀ (k p : Nat), p ≤ tp.length → 1 ≤ (scF tp k p).length ∧ kT (scF tp k p) ((scF tp k p).length - 1) = 37 ∧ ∀ q ∈ scF tp k p, tok1 q := by
  have base : 1 ≤ [((37 : Nat), tp.length, (0 : Nat))].length ∧ kT [(37, tp.length, 0)] ([((37 : Nat), tp.length, (0 : Nat))].length - 1) = 37 ∧ ∀ q ∈ [((37 : Nat), tp.length, (0 : Nat))], tok1 q := ⟨Nat.le_refl _, rfl, fun q hq => by
    rw [List.mem_singleton] at hq
    rw [hq]
    exact ⟨Nat.le_refl _, Nat.zero_le _, fun z => absurd (show 37 = 20 from z) (by decide), hl⟩⟩
  intro k
  induction k with
  | zero => intro p hp; exact base
  | succ k ih =>
    intro p hp
    have es : scF tp (k + 1) p = (if tp.length ≤ p then [(37, tp.length, 0)] else if tp.getD p 0 = 32 ∨ tp.getD p 0 = 10 then scF tp k (p + 1) else ((tkF tp p).1, p, (tkF tp p).2.1) :: scF tp k (tkF tp p).2.2) := rfl
    rw [es]
    by_cases h1 : tp.length ≤ p
    · rw [if_pos h1]; exact base
    rw [if_neg h1]
    by_cases h2 : tp.getD p 0 = 32 ∨ tp.getD p 0 = 10
    · rw [if_pos h2]; exact ih (p + 1) (by omega)
    rw [if_neg h2]
    obtain ⟨t1, t2⟩ := tk_next (tp := tp) (p := p) (by omega)
    obtain ⟨i1, i2, i3⟩ := ih (tkF tp p).2.2 t2
    refine ⟨by rw [List.length_cons]; omega, kT_last i1 i2, fun q hq => ?_⟩
    rcases List.mem_cons.mp hq with rfl | hq
    · exact tk_ok tp (by omega)
    · exact i3 q hq
theorem ts_ok {tp : List Nat} (hl : tp.length ≤ 300) : TSz (tkL tp) := by
  obtain ⟨h1, h2, h3⟩ := scF_ok tp hl 300 0 (Nat.zero_le _)
  have g : ∀ i, tok1 ((tkL tp).getD i (37, 0, 0)) := fun i => by
    rw [List.getD_eq_getElem?_getD]
    cases hx : (tkL tp)[i]? with
    | none => exact ⟨Nat.le_refl _, Nat.zero_le _, fun z => absurd (show 37 = 20 from z) (by decide), Nat.zero_le _⟩
    | some q => exact h3 q (List.mem_of_getElem? hx)
  exact ⟨h1, scF_len tp 300 0, h2, fun i => (g i).1, fun i => (g i).2.1, fun i => (g i).2.2.1, fun i => (g i).2.2.2⟩
/-- a copy of the orders; a new Script -/
def cpS (M : Mem) (n : Nat) : Mem := sI (nw (nw M 6 4) 13 n) (mx (nw M 6 4)) (va_cpy (mI (nw (nw M 6 4) 13 n) 11) (mI (nw (nw M 6 4) 13 n) (mx (nw M 6 4))) 0 0 n)
def scS (M : Mem) (n : Nat) : Mem := pI (pI (pI (pR (cpS M n) (mx M) 0 (mx M + 1)) (mx M) 1 (mI M 12 0)) (mx M) 2 (mI M 12 1)) (mx M) 3 (mI M 12 2)
def EnF (g : GE) (M : Mem) (r : Option Value) (M' : Mem) : Prop := ((mI M 3 8) = 0 → (∀ M1 : Mem, M1 = nw M 6 4 → (∃ b4 : Nat, mR M1 3 1 = some b4 ∧ KM M1.1 b4 13 ∧ (∃ (b5 : Nat) (M6 : Mem), Cl g 2 mu_J7_copyOf_59c91 [rf g b4, .int (mI M1 3 3)] M1 (some (rf g b5)) M6 ∧ KM M6.1 b5 13 ∧ (∃ b11 : Nat, mR M6 3 2 = some b11 ∧ KM M6.1 b11 13 ∧ (vp_in 0 (mN M6 b11) ∧ (∃ b13 : Nat, mR M6 3 2 = some b13 ∧ KM M6.1 b13 13 ∧ (vp_in 1 (mN M6 b13) ∧ (∃ b15 : Nat, mR M6 3 2 = some b15 ∧ KM M6.1 b15 13 ∧ (vp_in 2 (mN M6 b15) ∧ (∃ (M17 : Mem), Cl g 2 mu_X6_init [rf g (mx M), rf g b5, .int (mI M6 b11 (0 : Int32).toNatClampNeg), .int (mI M6 b13 (1 : Int32).toNatClampNeg), .int (mI M6 b15 (2 : Int32).toNatClampNeg)] M6 none M17 ∧ (r = some (rf g (mx M)) ∧ M' = M17)))))))))))) ∧ (¬ (mI M 3 8) = 0 → (r = some (.null) ∧ M' = M))
section RTX
variable {g : GE} {Z : Zs} {L : Nat → Nat → Int64} {ts : List (Nat × Nat × Nat)} {I : Nat → Nat → Int32}
theorem en_rd (hS : Sh Z) {n : Nat} (h8 : I 3 8 = 0) (h3 : I 3 3 = nI n) (hn : n < 602) : EnF g (Z, I, L) (some (rf g Z.2.2.2.1)) (scS (Z, I, L) n) := by
  have h99 := hS.1
  refine ⟨fun _ M1 h1 => ?_, fun z => absurd h8 z⟩
  subst h1
  have lo : ∀ a, a < 99 → a ≠ mx ((Z, I, L) : Mem) := fun a ha => Nat.ne_of_lt (Nat.lt_of_lt_of_le ha h99)
  have lo2 : ∀ a, a < 99 → a ≠ mx (nw ((Z, I, L) : Mem) 6 4) := fun a ha => Nat.ne_of_lt (Nat.lt_of_lt_of_le ha (Nat.le_trans h99 (Nat.le_succ _)))
  have k11 : KM (nw ((Z, I, L) : Mem) 6 4).1 11 13 := (hS.k 11 13 (by decide) (by decide)).ext (M := (Z, I, L)) (Ext.nw _ _ _)
  have n11 : mN (nw ((Z, I, L) : Mem) 6 4) 11 = 602 := (rw1_n _ _ (lo 11 (by decide))).trans (hS.n 11 602 (by decide))
  have ei : mI (nw ((Z, I, L) : Mem) 6 4) 3 = I 3 := rw1_n _ _ (lo 3 (by decide))
  have cp := sp_copyOf (g := g) (n := n) k11 (by rw [n11]; exact hn) (by rw [n11]; decide)
  have e6 : mR (cpS (Z, I, L) n) 3 2 = some 12 := (congrFun (rw1_n _ _ (lo2 3 (by decide))) 2).trans ((congrFun (rw1_n _ _ (lo 3 (by decide))) 2).trans (hS.r 3 2 12 (by decide)))
  have k12 : KM (cpS (Z, I, L) n).1 12 13 := (((hS.k 12 13 (by decide) (by decide)).ext (M := (Z, I, L)) (Ext.nw _ _ _)).ext (Ext.nw _ _ _)).ext (Ext.sI _ _ _)
  have n12 : mN (cpS (Z, I, L) n) 12 = 3 := by
    show (rw1 _ _ _) 12 = _
    rw [rw1_n _ _ (lo2 12 (by decide))]
    exact (rw1_n _ _ (lo 12 (by decide))).trans (hS.n 12 3 (by decide))
  have i12 : mI (cpS (Z, I, L) n) 12 = I 12 := by
    show (rw1 _ _ _) 12 = _
    rw [rw1_n _ _ (lo2 12 (by decide))]
    show (rw1 _ _ _) 12 = _
    rw [rw1_n _ _ (lo2 12 (by decide))]
    exact rw1_n _ _ (lo 12 (by decide))
  refine ⟨11, ?_, k11, mx (nw ((Z, I, L) : Mem) 6 4), cpS (Z, I, L) n, ?_, ⟨Nat.lt_succ_self _, rw1_s _ _ _⟩, 12, e6, k12, by rw [n12]; exact vp_in_nI (show 0 < 3 by decide) (by decide), 12, e6, k12, by rw [n12]; exact vp_in_nI (show 1 < 3 by decide) (by decide), 12, e6, k12, by rw [n12]; exact vp_in_nI (show 2 < 3 by decide) (by decide), scS (Z, I, L) n, ?_, rfl, rfl⟩
  · exact (congrFun (rw1_n _ _ (lo 3 (by decide))) 1).trans (hS.r 3 1 11 (by decide))
  · rw [ei, h3]; exact cp
  · refine cp_X6_init (M := cpS (Z, I, L) n) ⟨Nat.lt_succ_of_lt (Nat.lt_succ_self _), ?_⟩ ⟨Nat.lt_succ_self _, rw1_s _ _ _⟩ (fun M1 h1 M4 h4 M7 h7 M10 h10 => ⟨rfl, ?_⟩)
    · show (rw1 _ _ _) _ = _
      rw [rw1_n _ _ (Nat.ne_of_lt (Nat.lt_succ_self _))]
      exact rw1_s _ _ _
    · subst h1 h4 h7 h10
      rw [i12]
      rfl
end RTX
