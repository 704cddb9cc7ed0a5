/-! odds(): weights as natural numbers -/
def sm : Nat → (Nat → Nat) → Nat
  | 0, _ => 0
  | n + 1, W => sm n W + W n
def addF (A : Nat → Nat) (s x : Nat) : Nat → Nat := rw1 A s (A s + x)
theorem sm_same : ∀ {n : Nat} {A B : Nat → Nat}, (∀ i, i < n → A i = B i) → sm n A = sm n B := by
  intro n
  induction n with
  | zero => intro A B _; rfl
  | succ n ih =>
    intro A B hAB
    show sm n A + A n = sm n B + B n
    rw [ih (fun i hi => hAB i (by omega)), hAB n (by omega)]
theorem sm_add : ∀ {n : Nat} {A : Nat → Nat} {s x : Nat}, s < n → sm n (addF A s x) = sm n A + x := by
  intro n
  induction n with
  | zero => intro A s x hs; exact absurd hs (by omega)
  | succ n ih =>
    intro A s x hs
    show sm n (addF A s x) + addF A s x n = sm n A + A n + x
    by_cases h : s = n
    · subst h
      have e1 : sm s (addF A s x) = sm s A := sm_same (fun i hi => by unfold addF; exact rw1_n _ _ (by omega))
      rw [e1, show addF A s x s = A s + x from rw1_s _ _ _]
      omega
    · rw [ih (by omega), show addF A s x n = A n from rw1_n _ _ (fun z => h z.symm)]
      omega
theorem sm_le : ∀ {n : Nat} {A : Nat → Nat} {i : Nat}, i < n → A i ≤ sm n A := by
  intro n
  induction n with
  | zero => intro A i hi; exact absurd hi (by omega)
  | succ n ih =>
    intro A i hi
    show A i ≤ sm n A + A n
    by_cases h : i = n
    · subst h; omega
    · have := ih (A := A) (show i < n by omega)
      omega
theorem sm_zero : ∀ (n : Nat), sm n (fun _ => 0) = 0 := by
  intro n
  induction n with
  | zero => rfl
  | succ n ih => show sm n (fun _ => 0) + 0 = 0; omega
/-- one tap that may be misheard -/
def spF (w h : Nat) (K : List Nat) (t : TX) (tap m : Nat) (W : Nat → Nat) : Nat → Nat → (Nat → Nat) → Nat → Nat
  | 0, _, A => A
  | d + 1, p, A => spF w h K t tap m W d (p + 1) (if W p = 0 then A else addF (addF A (stepF w h K t p tap % 200) (W p * (10 - m))) (stepF w h K t p ((tap + 1) % 4) % 200) (W p * m))
/-- only POSES weigh -/
def onP (w h : Nat) (S : Nat → List Nat) (W : Nat → Nat) : Prop := ∀ p, W p ≠ 0 → isP w h S p
def wtF (w h : Nat) (K : List Nat) (t : TX) (m : Nat) : List Nat → (Nat → Nat) → Nat → Nat
  | [], W => W
  | tap :: ts, W => wtF w h K t m ts (spF w h K t tap m W 100 0 (fun _ => 0))
