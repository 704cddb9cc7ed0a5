/-! the model's sortOf(), the clauses that were -/
section MSORT
variable {g : GE} {Z : Zs} {I : Nat → Nat → Int32} {L : Nat → Nat → Int64}
theorem mp_sortOf (hS : Sh Z) {kd v : Nat} (tok : TokM I L kd v) (hk : kd < 38) (hv : kd = 20 → v < 11) : Cl g 3 mu_X12_sortOf [rf g 76] (Z, I, L) (some (.int (if isCl kd then nI (kd - 11) else -1))) (Z, I, L) := by
  have w11 := mp_isWord (g := g) (Z := Z) (I := I) (L := L) hS tok hk (w := 11) (by decide)
  have w12 := mp_isWord (g := g) (Z := Z) (I := I) (L := L) hS tok hk (w := 12) (by decide)
  have w13 := mp_isWord (g := g) (Z := Z) (I := I) (L := L) hS tok hk (w := 13) (by decide)
  rw [decide_eq_decide.mpr (wx_k (by decide) (by decide) hv)] at w11 w12 w13
  have c11 := w4_c (g := g) (Z := Z) (I := I) (L := L) 11 (x := 100) (y := 111) (z := 101) (u := 115) (by decide)
  have c12 := w5_c (g := g) (Z := Z) (I := I) (L := L) 12 (x := 102) (y := 101) (z := 97) (u := 114) (s := 115) (by decide)
  have c13 := w5_c (g := g) (Z := Z) (I := I) (L := L) 13 (x := 108) (y := 105) (z := 107) (u := 101) (s := 115) (by decide)
  have b : ∀ x, b2i (decide (kd = x)) = 0 → ¬ kd = x := fun x z y => by rw [decide_eq_true y] at z; exact absurd z (by decide)
  have b1 : ∀ x, ¬ b2i (decide (kd = x)) = 0 → kd = x := fun x z => Classical.byContradiction (fun y => z (by rw [decide_eq_false y]; rfl))
  refine cp_X12_sortOf (hS.k 76 12 (by decide) (by decide)) ⟨_, c11, _, w11, fun z1 => ⟨_, c12, _, w12, fun z2 => ⟨_, c13, _, w13, fun z3 => ⟨?_, rfl⟩, fun z3 => ⟨?_, rfl⟩⟩, fun z2 => ⟨?_, rfl⟩⟩, fun z1 => ⟨?_, rfl⟩⟩
  · have := b 11 z1
    have := b 12 z2
    have := b 13 z3
    rw [if_neg (by unfold isCl; omega)]
  · have e := b1 13 z3
    rw [if_pos (Or.inr (Or.inr e)), e]; rfl
  · have e := b1 12 z2
    rw [if_pos (Or.inr (Or.inl e)), e]; rfl
  · have e := b1 11 z1
    rw [if_pos (Or.inl e), e]; rfl
end MSORT
/-- which clauses were, as bits -/
def onF (t : TE) : Nat := (if t.1.isSome = true then 1 else 0) + (if t.2.1.isSome = true then 2 else 0) + (if t.2.2.isSome = true then 4 else 0)
theorem on_lt (t : TE) : onF t < 8 := by
  unfold onF
  repeat' split
  all_goals omega
theorem on_tab : ∀ b, b < 8 → ∀ s, s < 3 → (((nI b >>> (nI s &&& 31)) &&& 1) = 1 ↔ b / 2 ^ s % 2 = 1) ∧ (b / 2 ^ s % 2 = 0 → (nI b ||| ((1 : Int32) <<< (nI s &&& 31))) = nI (b + 2 ^ s)) := by decide +kernel
theorem on_bit (t : TE) {s : Nat} (hs : s < 3) : onF t / 2 ^ s % 2 = (if (gtE t s).isSome = true then 1 else 0) := by
  have cs : s = 0 ∨ s = 1 ∨ s = 2 := by omega
  unfold onF
  rcases cs with rfl | rfl | rfl
  · show _ = (if t.1.isSome = true then 1 else 0)
    repeat' split
    all_goals omega
  · show _ = (if t.2.1.isSome = true then 1 else 0)
    repeat' split
    all_goals omega
  · show _ = (if t.2.2.isSome = true then 1 else 0)
    repeat' split
    all_goals omega
theorem on_put (t : TE) {s : Nat} (hs : s < 3) (hn : gtE t s = none) (f : EF) : onF (ptE t s f) = onF t + 2 ^ s := by
  obtain ⟨a, b, c⟩ := t
  have cs : s = 0 ∨ s = 1 ∨ s = 2 := by omega
  rcases cs with rfl | rfl | rfl
  · have hn : a = none := hn
    subst hn
    show (1 + (if b.isSome = true then 2 else 0) + (if c.isSome = true then 4 else 0)) = 0 + (if b.isSome = true then 2 else 0) + (if c.isSome = true then 4 else 0) + 1
    omega
  · have hn : b = none := hn
    subst hn
    show ((if a.isSome = true then 1 else 0) + 2 + (if c.isSome = true then 4 else 0)) = (if a.isSome = true then 1 else 0) + 0 + (if c.isSome = true then 4 else 0) + 2
    omega
  · have hn : c = none := hn
    subst hn
    show ((if a.isSome = true then 1 else 0) + (if b.isSome = true then 2 else 0) + 4) = (if a.isSome = true then 1 else 0) + (if b.isSome = true then 2 else 0) + 0 + 4
    omega
