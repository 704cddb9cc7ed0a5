theorem bs_same {Q Q' : Nat → Bool} {A : Nat → Nat → Int32} {i n : Nat} : ∀ {d j : Nat} {b : Option Nat}, (∀ q, q < n → Q' (6 * i + q) = Q (6 * i + q)) → j + d = n → bsF Q' A i d j b = bsF Q A i d j b := by
  intro d
  induction d with
  | zero => intro j b _ _; rfl
  | succ d ih =>
    intro j b hq hj
    show bsF Q' A i d (j + 1) (if Q' (6 * i + j) then b else _) = bsF Q A i d (j + 1) (if Q (6 * i + j) then b else _)
    rw [hq j (by omega)]
    exact ih hq (by omega)
