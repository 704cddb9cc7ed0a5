/-! the class's state by lists: 0 kinds, 1 poses, 2 habits, 3 taps, 4 stepPairs, 5 stepPoses, 6 seenPoses, 7 seenTaps, 8 seenThens, 9 sights, 10 paces -/
def nA (f : Nat) : Nat := [40, 19, 21, 23, 25, 27, 29, 31, 33, 35, 37].getD f 0
def cpF (w h f : Nat) : Nat := if f = 0 then w * h else [0, 6, 6, 16, 30, 30, 20, 20, 20, 6, 6].getD f 0
/-- w and h -/
def wh (w h : Nat) : Prop := 2 ≤ w ∧ w ≤ 5 ∧ 2 ≤ h ∧ h ≤ 5
theorem wh.mul {w h : Nat} (k : wh w h) : 4 ≤ w * h ∧ w * h ≤ 25 := by
  obtain ⟨h1, h2, h3, h4⟩ := k
  exact ⟨Nat.mul_le_mul h1 h3, Nat.mul_le_mul h2 h4⟩
/-- the class's state at now holds the lists S and the texts tx -/
def CS (Z : Zs) (I : Nat → Nat → Int32) (w h : Nat) (S : Nat → List Nat) (tx : List TX) : Prop := Sh Z ∧ wh w h ∧ I 18 0 = nI w ∧ I 18 1 = nI h ∧ Z.2.2.1 41 = w * h ∧ (∀ f, f < 11 → IL Z I (nA f) (nA f + 1) (cpF w h f) (S f)) ∧ I 18 14 = nI tx.length ∧ tx.length ≤ 4 ∧ (∀ (k : Nat) t, tx[k]? = some t → ∃ sc, Z.2.1 39 k = some sc ∧ TC Z I sc t)
/-- the lists are such as calls make them -/
def WF (w h : Nat) (S : Nat → List Nat) (tx : List TX) : Prop := (S 0).length = w * h ∧ (∀ (k : Nat) v, (S 0)[k]? = some v → v ≤ 3) ∧ (S 1).length = (S 2).length ∧ (∀ (k : Nat) v, (S 1)[k]? = some v → v < 4 * (w * h) ∧ (S 0).getD (v / 4) 0 ≠ 1) ∧ (∀ (k : Nat) v, (S 2)[k]? = some v → v < tx.length) ∧ (∀ (k : Nat) v, (S 3)[k]? = some v → v < 4) ∧ (S 4).length = (S 5).length ∧ (∀ (k : Nat) v, (S 4)[k]? = some v → v < (S 1).length) ∧ (∀ (k : Nat) v, (S 5)[k]? = some v → v < 4 * (w * h) ∧ (S 0).getD (v / 4) 0 ≠ 1) ∧ (S 6).length = (S 7).length ∧ (S 6).length = (S 8).length ∧ (∀ (k : Nat) v, (S 6)[k]? = some v → v < 4 * (w * h)) ∧ (∀ (k : Nat) v, (S 7)[k]? = some v → v < 4) ∧ (∀ (k : Nat) v, (S 8)[k]? = some v → v < 4 * (w * h)) ∧ (∀ (k : Nat) v, (S 9)[k]? = some v → v ≤ 9) ∧ (∀ (k : Nat) v, (S 10)[k]? = some v → v ≤ 9) ∧ ∀ (k : Nat) t, tx[k]? = some t → TXok t
/-- a POSE -/
def isP (w h : Nat) (S : Nat → List Nat) (p : Nat) : Prop := p < 4 * (w * h) ∧ (S 0).getD (p / 4) 0 ≠ 1
section STATE
variable {g : GE} {Z : Zs} {I : Nat → Nat → Int32} {L : Nat → Nat → Int64} {w h : Nat} {S : Nat → List Nat} {tx : List TX}
theorem CS.il (k : CS Z I w h S tx) (f : Nat) (hf : f < 11) : IL Z I (nA f) (nA f + 1) (cpF w h f) (S f) := k.2.2.2.2.2.1 f hf
/-- what the state's cells are -/
def stA (a : Nat) : Prop := a = 18 ∨ (19 ≤ a ∧ a ≤ 38) ∨ a = 40 ∨ a = 41
theorem CS.kept {I1 : Nat → Nat → Int32} (k : CS Z I w h S tx) (hf : ∀ a, stA a ∨ (99 ≤ a ∧ a < Z.2.2.2.1) → I1 a = I a) : CS Z I1 w h S tx := by
  obtain ⟨k0, k1, k2, k3, k4, k5, k6, k7, k8⟩ := k
  have e18 : I1 18 = I 18 := hf 18 (Or.inl (Or.inl rfl))
  refine ⟨k0, k1, by rw [e18]; exact k2, by rw [e18]; exact k3, k4, fun f hf2 => ?_, by rw [e18]; exact k6, k7, fun j t hj => ?_⟩
  · have cs : stA (nA f) ∧ stA (nA f + 1) := by
      have : f = 0 ∨ f = 1 ∨ f = 2 ∨ f = 3 ∨ f = 4 ∨ f = 5 ∨ f = 6 ∨ f = 7 ∨ f = 8 ∨ f = 9 ∨ f = 10 := by omega
      unfold stA nA
      rcases this with rfl | rfl | rfl | rfl | rfl | rfl | rfl | rfl | rfl | rfl | rfl <;> simp
    exact (k5 f hf2).kept (by rw [hf _ (Or.inl cs.1)]) (fun j _ => by rw [hf _ (Or.inl cs.2)])
  · obtain ⟨sc, h1, h2⟩ := k8 j t hj
    exact ⟨sc, h1, h2.kept (fun a h3 h4 => hf a (Or.inr ⟨h3, h4⟩))⟩
theorem sp_posesInAll (k : CS Z I w h S tx) : Cl g 1 mu_X8_posesInAll [rf g 18] (Z, I, L) (some (.int (nI (4 * (w * h))))) (Z, I, L) := by
  refine cp_X8_posesInAll (k.1.k 18 8 (by decide) (by decide)) ⟨?_, rfl⟩
  rw [k.2.2.1, k.2.2.2.1, show (4 : Int32) * nI w = nI (4 * w) from pk_mul 4 w, pk_mul, Nat.mul_assoc]
theorem sp_isCell (k : CS Z I w h S tx) (x : Int32) : Cl g 1 mu_X8_isCell [rf g 18, .int x] (Z, I, L) (some (.int (if ¬ x < 0 ∧ x < nI (w * h) then 1 else 0))) (Z, I, L) := by
  refine cp_X8_isCell (k.1.k 18 8 (by decide) (by decide)) ?_
  rw [k.2.2.1, k.2.2.2.1, pk_mul]
  refine ⟨fun hx => ⟨?_, rfl⟩, fun hx => ⟨fun hy => ⟨?_, rfl⟩, fun hy => ⟨?_, rfl⟩⟩⟩
  · rw [if_neg (fun e => e.1 hx)]
  · rw [if_neg (fun e => absurd e.2 (Int32.not_lt.mpr hy))]
  · rw [if_pos ⟨hx, Int32.not_le.mp hy⟩]
theorem sp_isText (k : CS Z I w h S tx) (x : Int32) : Cl g 1 mu_X8_isText [rf g 18, .int x] (Z, I, L) (some (.int (if ¬ x < 0 ∧ x < nI tx.length then 1 else 0))) (Z, I, L) := by
  refine cp_X8_isText (k.1.k 18 8 (by decide) (by decide)) ?_
  rw [k.2.2.2.2.2.2.1]
  refine ⟨fun hx => ⟨?_, rfl⟩, fun hx => ⟨fun hy => ⟨?_, rfl⟩, fun hy => ⟨?_, rfl⟩⟩⟩
  · rw [if_neg (fun e => e.1 hx)]
  · rw [if_neg (fun e => absurd e.2 (Int32.not_lt.mpr hy))]
  · rw [if_pos ⟨hx, Int32.not_le.mp hy⟩]
theorem sp_isPair (k : CS Z I w h S tx) (x : Int32) : Cl g 2 mu_X8_isPair [rf g 18, .int x] (Z, I, L) (some (.int (if ¬ x < 0 ∧ x < nI (S 1).length then 1 else 0))) (Z, I, L) := by
  refine cp_X8_isPair (k.1.k 18 8 (by decide) (by decide)) (k.1.r 18 3 19 (by decide)) (k.1.k 19 2 (by decide) (by decide)) ⟨fun hx => ⟨?_, rfl⟩, fun hx => ⟨_, sp_size (k.il 1 (by decide)), fun hy => ⟨?_, rfl⟩, fun hy => ⟨?_, rfl⟩⟩⟩
  · rw [if_neg (fun e => e.1 hx)]
  · rw [if_neg (fun e => absurd e.2 (Int32.not_lt.mpr hy))]
  · rw [if_pos ⟨hx, Int32.not_le.mp hy⟩]
theorem getD_le {xs : List Nat} {m : Nat} (h : ∀ (k : Nat) v, xs[k]? = some v → v ≤ m) (j : Nat) : xs.getD j 0 ≤ m := by
  rw [List.getD_eq_getElem?_getD]
  cases hj : xs[j]? with
  | none => exact Nat.zero_le _
  | some v => exact h j v hj
theorem sp_isPose (k : CS Z I w h S tx) (hW : WF w h S tx) (x : Int32) : ∃ b : Bool, Cl g 2 mu_X8_isPose [rf g 18, .int x] (Z, I, L) (some (.int (b2i b))) (Z, I, L) ∧ (b = true ↔ ∃ p, x = nI p ∧ isP w h S p) := by
  have hm := k.2.1.mul
  have hk := k.1.k 18 8 (by decide) (by decide)
  by_cases hx : x < 0
  · refine ⟨false, cp_X8_isPose hk (k.1.r 18 2 40 (by decide)) (k.1.k 40 2 (by decide) (by decide)) ⟨fun _ => ⟨rfl, rfl⟩, fun hc => absurd hx hc⟩, ?_⟩
    refine ⟨fun e => (by cases e), fun ⟨p, h1, h2, _⟩ => absurd hx (by rw [h1]; exact nI_pos (by omega))⟩
  obtain ⟨p, hp, rfl⟩ := nI_of hx
  have e4 : nI p / 4 = nI (p / 4) := pk_div (d := 4) hp (by decide) (by decide)
  have uq : ∀ q, nI p = nI q → q < 2 ^ 31 → q = p := fun q e hq => ((nI_eq hp hq).mp e).symm
  by_cases hl : 4 * (w * h) ≤ p
  · refine ⟨false, cp_X8_isPose hk (k.1.r 18 2 40 (by decide)) (k.1.k 40 2 (by decide) (by decide)) ⟨fun hc => absurd hc hx, fun _ => ⟨_, sp_posesInAll k, fun _ => ⟨rfl, rfl⟩, fun hc => absurd (nI_le hl hp) hc⟩⟩, ?_⟩
    refine ⟨fun e => (by cases e), fun ⟨q, h1, h2, _⟩ => ?_⟩
    have := uq q h1 (by omega)
    omega
  refine ⟨decide ((S 0).getD (p / 4) 0 ≠ 1), cp_X8_isPose hk (k.1.r 18 2 40 (by decide)) (k.1.k 40 2 (by decide) (by decide)) ⟨fun hc => absurd hc hx, fun _ => ⟨_, sp_posesInAll k, fun hc => absurd hc (nI_ge (by omega) (by omega)), fun _ => ?_⟩⟩, ?_⟩
  · rw [e4]
    refine ⟨_, sp_at (k.il 0 (by decide)) _, ?_⟩
    rw [atL_n _ (by omega)]
    have h3 := getD_le hW.2.1 (p / 4)
    refine ⟨fun e => ⟨?_, rfl⟩, fun e => ⟨?_, rfl⟩⟩
    · have e1 : (S 0).getD (p / 4) 0 = 1 := (nI_eq (b := 1) (by omega) (by decide)).mp e
      simp only [e1]; rfl
    · have e1 : ¬ (S 0).getD (p / 4) 0 = 1 := fun z => e (by rw [z]; rfl)
      simp only [ne_eq, e1, not_false_eq_true, decide_true]; rfl
  · rw [decide_eq_true_iff]
    refine ⟨fun e => ⟨p, rfl, by omega, e⟩, fun ⟨q, h1, h2, h3⟩ => ?_⟩
    rw [uq q h1 (by omega)] at h3
    exact h3
end STATE
