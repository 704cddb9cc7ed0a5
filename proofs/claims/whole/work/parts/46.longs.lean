/-! longs that are natural numbers; Euclid -/
def nJ (n : Nat) : Int64 := Int64.ofNat n
theorem nJ_toInt {n : Nat} (h : n < 2 ^ 63) : (nJ n).toInt = (n : Int) := by
  unfold nJ
  rw [Int64.toInt_ofNat', show Int64.size = 2 ^ 64 from rfl]
  exact Int.bmod_eq_of_le (by omega) (by omega)
theorem nJ_add (a b : Nat) : nJ a + nJ b = nJ (a + b) := (Int64.ofNat_add a b).symm
theorem nJ_mul (a b : Nat) : nJ a * nJ b = nJ (a * b) := (Int64.ofNat_mul a b).symm
theorem nJ_sub {a b : Nat} (h : b ≤ a) : nJ a - nJ b = nJ (a - b) := by
  obtain ⟨c, rfl⟩ : ∃ c, a = c + b := ⟨a - b, by omega⟩
  rw [← nJ_add, Int64.add_sub_cancel, Nat.add_sub_cancel]
theorem nJ_eq {a b : Nat} (ha : a < 2 ^ 63) (hb : b < 2 ^ 63) : nJ a = nJ b ↔ a = b := by
  constructor
  · intro e
    have := congrArg Int64.toInt e
    rw [nJ_toInt ha, nJ_toInt hb] at this
    omega
  · intro e; rw [e]
theorem nJ_div {a d : Nat} (ha : a < 2 ^ 63) (hd : d < 2 ^ 63) (h0 : 0 < d) : nJ a / nJ d = nJ (a / d) := by
  apply Int64.toInt_inj.mp
  rw [Int64.toInt_div, nJ_toInt ha, nJ_toInt hd, nJ_toInt (Nat.lt_of_le_of_lt (Nat.div_le_self a d) ha)]
  rw [show ((a : Int).tdiv (d : Int)) = ((a / d : Nat) : Int) from rfl]
  have hl := Nat.div_le_self a d
  obtain ⟨x, hx⟩ : ∃ x, x = a / d := ⟨_, rfl⟩
  rw [← hx] at hl ⊢
  exact Int.bmod_eq_of_le (by omega) (by omega)
theorem nJ_rem {a d : Nat} (ha : a < 2 ^ 63) (hd : d < 2 ^ 63) (h0 : 0 < d) : nJ a - nJ a / nJ d * nJ d = nJ (a % d) := by
  rw [nJ_div ha hd h0, nJ_mul, nJ_sub (Nat.div_mul_le_self a d)]
  exact congrArg nJ (by have := Nat.div_add_mod' a d; omega)
/-- Euclid with a bound of turns -/
def euF : Nat → Nat → Nat → Nat
  | 0, a, _ => a
  | d + 1, a, b => if b = 0 then a else euF d b (a % b)
/-- two turns halve the greater -/
theorem eu_gcd : ∀ (k d a b : Nat), b ≤ a → a < 2 ^ k → 2 * k ≤ d → euF d a b = Nat.gcd a b := by
  intro k
  induction k with
  | zero =>
    intro d a b h1 h2 h3
    have ha : a = 0 := by simpa using h2
    have hb : b = 0 := by omega
    subst ha; subst hb
    cases d with
    | zero => rfl
    | succ d => rfl
  | succ k ih =>
    intro d a b h1 h2 h3
    obtain ⟨d', rfl⟩ : ∃ d', d = d' + 2 := ⟨d - 2, by omega⟩
    by_cases hb : b = 0
    · subst hb
      show (if (0 : Nat) = 0 then a else _) = _
      rw [if_pos rfl, Nat.gcd_zero_right]
    · have e1 : euF (d' + 2) a b = euF (d' + 1) b (a % b) := by
        show (if b = 0 then a else euF (d' + 1) b (a % b)) = _
        rw [if_neg hb]
      have hm := Nat.mod_lt a (show b > 0 by omega)
      have g1 : Nat.gcd a b = Nat.gcd b (a % b) := by rw [Nat.gcd_comm a b, Nat.gcd_rec b a, Nat.gcd_comm]
      rw [e1, g1]
      by_cases hc : a % b = 0
      · rw [hc]
        show (if (0 : Nat) = 0 then b else _) = _
        rw [if_pos rfl, Nat.gcd_zero_right]
      · have e2 : euF (d' + 1) b (a % b) = euF d' (a % b) (b % (a % b)) := by
          show (if a % b = 0 then b else euF d' (a % b) (b % (a % b))) = _
          rw [if_neg hc]
        have hm2 := Nat.mod_lt b (show a % b > 0 by omega)
        have g2 : Nat.gcd b (a % b) = Nat.gcd (a % b) (b % (a % b)) := by rw [Nat.gcd_comm b (a % b), Nat.gcd_rec (a % b) b, Nat.gcd_comm]
        rw [e2, g2]
        have hq : 1 ≤ a / b := Nat.div_pos h1 (by omega)
        have hda := Nat.div_add_mod a b
        have hbq : b * 1 ≤ b * (a / b) := Nat.mul_le_mul_left b hq
        have hpw : 2 ^ (k + 1) = 2 * 2 ^ k := by rw [Nat.pow_succ]; omega
        exact ih d' (a % b) (b % (a % b)) (by omega) (by omega) (by omega)
