/-! odds(): what a tap keeps -/
section ODDS2
variable {w h : Nat} {S : Nat → List Nat} {tx : List TX}
theorem sp_sum (k : wh w h) (hW : WF w h S tx) {t : TX} {tap m : Nat} (hm : m ≤ 10) {W : Nat → Nat} (hP : onP w h S W) : ∀ (d p : Nat) (A : Nat → Nat), onP w h S A → onP w h S (spF w h (S 0) t tap m W d p A) ∧ sm 100 (spF w h (S 0) t tap m W d p A) + 10 * sm p W = sm 100 A + 10 * sm (p + d) W := by
  have hmul := k.mul
  intro d
  induction d with
  | zero => intro p A hA; exact ⟨hA, rfl⟩
  | succ d ih =>
    intro p A hA
    have es : sm (p + 1) W = sm p W + W p := rfl
    by_cases h0 : W p = 0
    · obtain ⟨i1, i2⟩ := ih (p + 1) A hA
      have e : spF w h (S 0) t tap m W (d + 1) p A = spF w h (S 0) t tap m W d (p + 1) A := by
        show spF w h (S 0) t tap m W d (p + 1) (if W p = 0 then A else _) = _
        rw [if_pos h0]
      rw [e, show p + (d + 1) = p + 1 + d by omega]
      exact ⟨i1, by omega⟩
    · have hp := hP p h0
      have q1 := step_isP (tap := tap) (t := t) k hW hp
      have q2 := step_isP (tap := (tap + 1) % 4) (t := t) k hW hp
      have l1 := q1.1
      have l2 := q2.1
      have hB : onP w h S (addF (addF A (stepF w h (S 0) t p tap % 200) (W p * (10 - m))) (stepF w h (S 0) t p ((tap + 1) % 4) % 200) (W p * m)) := fun i hi => by
        by_cases h2 : i = stepF w h (S 0) t p ((tap + 1) % 4) % 200
        · rw [h2]; exact q2
        · by_cases h1 : i = stepF w h (S 0) t p tap % 200
          · rw [h1]; exact q1
          · unfold addF at hi
            rw [rw1_n _ _ h2, rw1_n _ _ h1] at hi
            exact hA i hi
      obtain ⟨i1, i2⟩ := ih (p + 1) _ hB
      have e : spF w h (S 0) t tap m W (d + 1) p A = spF w h (S 0) t tap m W d (p + 1) (addF (addF A (stepF w h (S 0) t p tap % 200) (W p * (10 - m))) (stepF w h (S 0) t p ((tap + 1) % 4) % 200) (W p * m)) := by
        show spF w h (S 0) t tap m W d (p + 1) (if W p = 0 then A else _) = _
        rw [if_neg h0]
      rw [e, show p + (d + 1) = p + 1 + d by omega]
      rw [sm_add (by omega), sm_add (by omega)] at i2
      have ex : W p * (10 - m) + W p * m = 10 * W p := by rw [← Nat.mul_add, show 10 - m + m = 10 by omega, Nat.mul_comm]
      exact ⟨i1, by omega⟩
end ODDS2
