/-! the greatest common divisor, on both sides -/
section GCD
variable {g : GE} {Z : Zs} {I : Nat → Nat → Int32} {L : Nat → Nat → Int64}
theorem nJ_0 {n : Nat} (h : n < 2 ^ 63) : nJ n = 0 ↔ n = 0 := nJ_eq (b := 0) h (by decide)
theorem cd_run : ∀ (d j a b : Nat), j + d = 100 → a < 2 ^ 62 → b < 2 ^ 62 → Lp_X11_commonDivisor_13 g 2 (nJ a) (nJ b) (nI j) (Z, I, L) (some (.long (nJ (euF d a b)))) (Z, I, L) := by
  intro d
  induction d with
  | zero =>
    intro j a b hj ha hb
    exact wp_X11_commonDivisor_13 ⟨fun _ => ⟨rfl, rfl⟩, fun e => absurd ((nI_leI (a := 100) (b := j) (by decide) (by omega)).mpr (by omega)) e⟩
  | succ d ih =>
    intro j a b hj ha hb
    refine wp_X11_commonDivisor_13 ⟨fun e => absurd ((nI_leI (a := 100) (b := j) (by decide) (by omega)).mp e) (by omega), fun _ => ?_⟩
    rw [lg_cmp_eq, nJ_0 (show b < 2 ^ 63 by omega)]
    refine ⟨fun e => ⟨?_, rfl⟩, fun e => ⟨e, fun y hy y2 hy2 => ?_⟩⟩
    · show some (Value.long (nJ (if b = 0 then a else euF d b (a % b)))) = _
      rw [if_pos e]
    · rw [hy, hy2, nI_1, nJ_rem (by omega) (by omega) (by omega)]
      show Lp_X11_commonDivisor_13 g 2 (nJ b) (nJ (a % b)) (nI (j + 1)) (Z, I, L) (some (Value.long (nJ (if b = 0 then a else euF d b (a % b))))) (Z, I, L)
      rw [if_neg e]
      have := Nat.mod_lt a (show b > 0 by omega)
      exact ih (j + 1) b (a % b) (by omega) hb (by omega)
theorem cc_run : ∀ (n u v : Nat), v ≤ n → u < 2 ^ 62 → v < 2 ^ 62 → Lp_X12_common_6 g 1 (nJ u) (nJ v) (Z, I, L) (some (.long (nJ (Nat.gcd u v)))) (Z, I, L) := by
  intro n
  induction n with
  | zero =>
    intro u v hn hu hv
    have hv0 : v = 0 := by omega
    subst hv0
    refine wp_X12_common_6 ?_
    rw [lg_cmp_eq, nJ_0 (show 0 < 2 ^ 63 by decide)]
    exact ⟨fun _ => ⟨by rw [Nat.gcd_zero_right], rfl⟩, fun e => absurd rfl e⟩
  | succ n ih =>
    intro u v hn hu hv
    refine wp_X12_common_6 ?_
    rw [lg_cmp_eq, nJ_0 (show v < 2 ^ 63 by omega)]
    refine ⟨fun e => ⟨by rw [e, Nat.gcd_zero_right], rfl⟩, fun e => ⟨e, fun y hy => ?_⟩⟩
    rw [hy, nJ_rem (by omega) (by omega) (by omega), show Nat.gcd u v = Nat.gcd v (u % v) by rw [Nat.gcd_comm u v, Nat.gcd_rec v u, Nat.gcd_comm]]
    have := Nat.mod_lt u (show v > 0 by omega)
    exact ih v (u % v) (by omega) hv (by omega)
end GCD
