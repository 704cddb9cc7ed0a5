/-! the model's clause() -/
def TBz (I : Nat → Nat → Int32) (k : Nat) (cl : List (Nat × Nat × Nat)) : Prop := I 79 (620 * k) = nI cl.length ∧ ∀ (j : Nat) q, cl[j]? = some q → q.1 < 3 ∧ I 79 (620 * k + 1 + 3 * j) = nI q.1 ∧ I 79 (620 * k + 1 + 3 * j + 1) = nI q.2.1 ∧ I 79 (620 * k + 1 + 3 * j + 2) = nI q.2.2
/-- the clauses of a text, and what their codes mean -/
def MCz (cl : List (Nat × Nat × Nat)) (cs : List (Nat × Nat)) (t : TE) : Prop := ∀ s, s < 3 → match gtE t s with
  | none => ∀ (j : Nat) q, cl[j]? = some q → ¬ q.1 = s
  | some f => ∃ j pre es post, cl[j]? = some (s, pre.length, pre.length + es.length) ∧ (∀ (j2 : Nat) q, j2 < j → cl[j2]? = some q → ¬ q.1 = s) ∧ cs = pre ++ es ++ post ∧ (if s = 1 then CmB es f ∧ blE f else CmN es f)
def cntE (t : TE) : Nat := (if t.1.isSome = true then 1 else 0) + (if t.2.1.isSome = true then 1 else 0) + (if t.2.2.isSome = true then 1 else 0)
theorem cnt_put (t : TE) {s : Nat} (hs : s < 3) (hn : gtE t s = none) (f : EF) : cntE (ptE t s f) = cntE t + 1 ∧ cntE t ≤ 2 := by
  obtain ⟨a, b, c⟩ := t
  have cs : s = 0 ∨ s = 1 ∨ s = 2 := by omega
  rcases cs with rfl | rfl | rfl
  · have hn : a = none := hn
    subst hn
    show (1 + (if b.isSome = true then 1 else 0) + (if c.isSome = true then 1 else 0)) = 0 + (if b.isSome = true then 1 else 0) + (if c.isSome = true then 1 else 0) + 1 ∧ 0 + (if b.isSome = true then 1 else 0) + (if c.isSome = true then 1 else 0) ≤ 2
    repeat' split
    all_goals omega
  · have hn : b = none := hn
    subst hn
    show ((if a.isSome = true then 1 else 0) + 1 + (if c.isSome = true then 1 else 0)) = (if a.isSome = true then 1 else 0) + 0 + (if c.isSome = true then 1 else 0) + 1 ∧ (if a.isSome = true then 1 else 0) + 0 + (if c.isSome = true then 1 else 0) ≤ 2
    repeat' split
    all_goals omega
  · have hn : c = none := hn
    subst hn
    show ((if a.isSome = true then 1 else 0) + (if b.isSome = true then 1 else 0) + 1) = (if a.isSome = true then 1 else 0) + (if b.isSome = true then 1 else 0) + 0 + 1 ∧ (if a.isSome = true then 1 else 0) + (if b.isSome = true then 1 else 0) + 0 ≤ 2
    repeat' split
    all_goals omega
theorem MCz.put {cl : List (Nat × Nat × Nat)} {cs : List (Nat × Nat)} {t : TE} (h : MCz cl cs t) {s : Nat} (hs : s < 3) (hn : gtE t s = none) {f : EF} {es : List (Nat × Nat)} (hc : if s = 1 then CmB es f ∧ blE f else CmN es f) : MCz (cl ++ [(s, cs.length, (cs ++ es).length)]) (cs ++ es) (ptE t s f) := by
  intro r hr
  rw [gtE_put hs hr]
  have hrs := h r hr
  by_cases he : r = s
  · rw [if_pos he]
    rw [he, hn] at hrs
    have hrs : ∀ (j : Nat) q, cl[j]? = some q → ¬ q.1 = s := hrs
    refine ⟨cl.length, cs, es, [], ?_, fun j2 q h1 h2 => ?_, by rw [List.append_nil], by rw [he]; exact hc⟩
    · rw [List.getElem?_append_right (Nat.le_refl _), Nat.sub_self, he, List.length_append]; rfl
    · rw [List.getElem?_append_left h1] at h2
      rw [he]; exact hrs j2 q h2
  · rw [if_neg he]
    cases hg : gtE t r with
    | none =>
      rw [hg] at hrs
      have hrs : ∀ (j : Nat) q, cl[j]? = some q → ¬ q.1 = r := hrs
      intro j q hj
      by_cases hl : j < cl.length
      · rw [List.getElem?_append_left hl] at hj; exact hrs j q hj
      · rw [List.getElem?_append_right (by omega)] at hj
        have hm := List.mem_of_getElem? hj
        rw [List.mem_singleton] at hm
        rw [hm]; exact fun z => he z.symm
    | some g =>
      rw [hg] at hrs
      obtain ⟨j, pre, ds, post, a, b, c, d⟩ := hrs
      have jl := (List.getElem?_eq_some_iff.mp a).1
      refine ⟨j, pre, ds, post ++ es, by rw [List.getElem?_append_left jl]; exact a, fun j2 q h1 h2 => ?_, by rw [c]; simp only [List.append_assoc], d⟩
      rw [List.getElem?_append_left (by omega)] at h2
      exact b j2 q h1 h2
/-- all that holds between two clauses -/
def TSt (I : Nat → Nat → Int32) (L : Nat → Nat → Int64) (k : Nat) (tp : List Nat) (ts : List (Nat × Nat × Nat)) (i : Nat) (cs : List (Nat × Nat)) (cl : List (Nat × Nat × Nat)) (t : TE) : Prop := MT I tp ∧ MTk I L tp ts i ∧ CDz I k cs ∧ I 76 20 = 0 ∧ cs.length ≤ i ∧ i < ts.length ∧ TBz I k cl ∧ cl.length = cntE t ∧ MCz cl cs t ∧ I 76 23 = nI (onF t)
def HFz (k : Nat) (I I1 : Nat → Nat → Int32) : Prop := (∀ a, a ≠ 76 → a ≠ 79 → a ≠ 81 → I1 a = I a) ∧ (∀ x, ¬ (620 * k ≤ x ∧ x < 620 * k + 620) → I1 79 x = I 79 x) ∧ ∀ q, ¬ (9 ≤ q ∧ q ≤ 12) → ¬ (16 ≤ q ∧ q ≤ 23) → I1 76 q = I 76 q
theorem GFz.hf {k : Nat} {I I1 : Nat → Nat → Int32} (h : GFz k I I1) : HFz k I I1 := ⟨h.1, fun x hx => h.2.1 x (by omega), fun q h1 h2 => h.2.2 q h1 (by omega) (by omega) (by omega) (by omega)⟩
theorem HFz.refl (k : Nat) (I : Nat → Nat → Int32) : HFz k I I := ⟨fun _ _ _ _ => rfl, fun _ _ => rfl, fun _ _ _ => rfl⟩
theorem HFz.trans {k : Nat} {I I1 I2 : Nat → Nat → Int32} (a : HFz k I I1) (b : HFz k I1 I2) : HFz k I I2 := ⟨fun q h1 h2 h3 => by rw [b.1 q h1 h2 h3, a.1 q h1 h2 h3], fun q h => by rw [b.2.1 q h, a.2.1 q h], fun q h1 h2 => by rw [b.2.2 q h1 h2, a.2.2 q h1 h2]⟩
theorem HFz.p76 (k : Nat) (I : Nat → Nat → Int32) {q : Nat} (h : 16 ≤ q ∧ q ≤ 23) (x : Int32) : HFz k I (rw1 I 76 (upd (I 76) q x)) := ⟨fun a ha _ _ => rw1_n _ _ ha, fun x _ => by rw [rw1_n _ _ (by decide)], fun p h1 h2 => by rw [rw1_s, upd_n _ _ (by omega)]⟩
theorem HFz.p79 (k : Nat) (I : Nat → Nat → Int32) {q : Nat} (h : 620 * k ≤ q ∧ q < 620 * k + 620) (x : Int32) : HFz k I (rw1 I 79 (upd (I 79) q x)) := ⟨fun a _ ha _ => rw1_n _ _ ha, fun p hp => by rw [rw1_s, upd_n _ _ (by omega)], fun p _ _ => by rw [rw1_n _ _ (by decide)]⟩
def CxT (g : GE) (Z : Zs) (y v : Int32) (I15 : Nat → Nat → Int32) (L16 : Nat → Nat → Int64) (r : Option Value) (M' : Mem) : Prop := (v = 0 → (vp_in (y + 2) (Z.2.2.1 79) ∧ (∀ I19, I19 = rw1 I15 79 (upd (I15 79) (y + 2).toNatClampNeg (I15 76 16)) → (vp_in (I19 76 14) (Z.2.2.1 79) ∧ (vp_in (I19 76 14) (Z.2.2.1 79) ∧ (∀ I22, I22 = rw1 I19 79 (upd (I19 79) (I19 76 14).toNatClampNeg ((I19 79 (I19 76 14).toNatClampNeg) + 1)) → (((I22 76 11) = 59 → (∃ I23 L24, Cl g 3 mu_X12_nextToken [rf g 76] (Z, I22, L16) none (Z, I23, L24) ∧ (r = some (.int 0) ∧ M' = (Z, I23, L24)))) ∧ (¬ (I22 76 11) = 59 → (r = some (.int 1) ∧ M' = (Z, I22, L16)))))))))) ∧ (¬ v = 0 → (r = some (.int v) ∧ M' = (Z, I15, L16)))
