/-! the constructor of State -/
theorem cw_of (x : Int32) : ∃ w, 2 ≤ w ∧ w ≤ 5 ∧ (if 2 < (if x < 5 then x else 5) then (if x < 5 then x else 5) else 2) = nI w ∧ (2 ≤ x → (x ≤ 5 → x = nI w) ∧ (¬ x ≤ 5 → w = 5)) ∧ (¬ 2 ≤ x → w = 2) := by
  by_cases h0 : x < 0
  · have a : x < 5 := Int32.lt_trans h0 (by decide)
    have b : ¬ 2 < x := fun z => absurd (Int32.lt_trans z h0) (by decide)
    have c : ¬ 2 ≤ x := fun z => absurd (Int32.lt_of_le_of_lt z h0) (by decide)
    refine ⟨2, by decide, by decide, ?_, fun z => absurd z c, fun _ => rfl⟩
    rw [if_pos a, if_neg b]; rfl
  · obtain ⟨k, hk, rfl⟩ := nI_of h0
    have l5 : nI k < 5 ↔ k < 5 := nI_ltI (b := 5) hk (by decide)
    have l2 : 2 < nI k ↔ 2 < k := nI_ltI (a := 2) (by decide) hk
    have e2 : 2 ≤ nI k ↔ 2 ≤ k := nI_leI (a := 2) (by decide) hk
    have e5 : nI k ≤ 5 ↔ k ≤ 5 := nI_leI (b := 5) hk (by decide)
    by_cases a : k < 5
    · rw [if_pos (l5.mpr a)]
      by_cases b : 2 < k
      · rw [if_pos (l2.mpr b)]
        exact ⟨k, by omega, by omega, rfl, fun _ => ⟨fun _ => rfl, fun z => absurd (e5.mpr (by omega)) z⟩, fun z => absurd (e2.mpr (by omega)) z⟩
      · rw [if_neg (fun z => b (l2.mp z))]
        refine ⟨2, by decide, by decide, rfl, fun z => ⟨fun _ => ?_, fun z2 => absurd (e5.mpr (by omega)) z2⟩, fun _ => rfl⟩
        have := e2.mp z
        rw [show k = 2 by omega]
    · rw [if_neg (fun z => a (l5.mp z)), if_pos (by decide)]
      refine ⟨5, by decide, by decide, rfl, fun _ => ⟨fun z => ?_, fun _ => rfl⟩, fun z => absurd (e2.mpr (by omega)) z⟩
      have := e5.mp z
      rw [show k = 5 by omega]
def e8a (M : Mem) (o w h : Nat) : Mem := pI (pI (atS (inS (inS (inS (inS (inS (inS (inS (inS (inS (inS M o 3 6) o 4 6) o 5 16) o 6 30) o 7 30) o 8 20) o 9 20) o 10 20) o 11 6) o 12 6) 16 o 13 4) o 0 (nI w)) o 1 (nI h)
def e8S (M : Mem) (o w h : Nat) : Mem := inS (e8a M o w h) o 2 (w * h)
