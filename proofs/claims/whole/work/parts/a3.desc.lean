/-! a memory said by lists: kinds, lengths, references, in the order in which they were made (the newest first) -/
def lkq : List (Nat × Nat) → Nat → Nat
  | [], _ => 0
  | q :: C, a => if a = q.1 then q.2 else lkq C a
def lkp : List (Nat × Nat × Nat) → Nat → Nat → Option Nat
  | [], _, _ => none
  | q :: R, a, k => if a = q.1 ∧ k = q.2.1 then some q.2.2 else lkp R a k
def Dsz (M : Mem) (x s : Nat) (C N : List (Nat × Nat)) (R : List (Nat × Nat × Nat)) (I : Nat → Nat → Int32) : Prop := cx M = x ∧ cs M = s ∧ (∀ a, cT M a = lkq C a) ∧ (∀ a, cN M a = lkq N a) ∧ (∀ a k, cR M a k = lkp R a k) ∧ (∀ a, cI M a = I a) ∧ (∀ a, x ≤ a → I a = fun _ => 0) ∧ ∀ a k, x ≤ a → lkp R a k = none
section DESC
variable {M : Mem} {x s : Nat} {C N : List (Nat × Nat)} {R : List (Nat × Nat × Nat)} {I : Nat → Nat → Int32}
theorem Dsz.dN (d : Dsz M x s C N R I) (t n : Nat) : Dsz (nwD M t n) (x + 1) (s + n) ((x, t) :: C) ((x, n) :: N) R I := by
  obtain ⟨d1, d2, d3, d4, d5, d6, d7, d8⟩ := d
  refine ⟨by rw [cx_nw, d1], by show cs M + n = _; rw [d2], fun a => ?_, fun a => ?_, fun a k => ?_, fun a => ?_, fun a ha => d7 a (by omega), fun a k ha => d8 a k (by omega)⟩
  · rw [cT_nw, d1, d3]; rfl
  · rw [cN_nw, d1, d4]; rfl
  · rw [cR_nw, d1, d5]
    by_cases e : a = x
    · rw [if_pos e, e, d8 x k (Nat.le_refl _)]
    · rw [if_neg e]
  · rw [cI_nw, d1, d6]
    by_cases e : a = x
    · rw [if_pos e, e, d7 x (Nat.le_refl _)]
    · rw [if_neg e]
theorem Dsz.dR (d : Dsz M x s C N R I) {o : Nat} (k v : Nat) (ho : o < x) : Dsz (pR M o k v) x s C N ((o, k, v) :: R) I := by
  obtain ⟨d1, d2, d3, d4, d5, d6, d7, d8⟩ := d
  refine ⟨d1, d2, d3, d4, fun a j => ?_, d6, d7, fun a j ha => ?_⟩
  · rw [cR_pR, d5]; rfl
  · show (if a = o ∧ j = k then some v else lkp R a j) = none
    rw [if_neg (by omega), d8 a j ha]
theorem Dsz.dI (d : Dsz M x s C N R I) {o : Nat} (k : Nat) (v : Int32) (ho : o < x) : Dsz (pI M o k v) x s C N R (rw1 I o (upd (I o) k v)) := by
  obtain ⟨d1, d2, d3, d4, d5, d6, d7, d8⟩ := d
  refine ⟨d1, d2, d3, d4, d5, fun a => ?_, fun a ha => ?_, d8⟩
  · rw [cI_pI, d6, d6]; rfl
  · rw [rw1_n _ _ (by omega)]; exact d7 a ha
theorem Dsz.dA (d : Dsz M x s C N R I) {o : Nat} (t k n : Nat) (ho : o < x) : Dsz (atS M t o k n) (x + 1) (s + n) ((x, t) :: C) ((x, n) :: N) ((o, k, x) :: R) I := by
  have h := (d.dN t n).dR k (cx M) (show o < x + 1 by omega)
  rw [d.1] at h
  unfold atS
  rw [d.1]
  exact h
theorem Dsz.dB (d : Dsz M x s C N R I) {o : Nat} (k n : Nat) (ho : o < x) : Dsz (arS M o k n) (x + 1) (s + n) ((x, 13) :: C) ((x, n) :: N) ((o, k, x) :: R) I := d.dA 13 k n ho
theorem Dsz.dC (d : Dsz M x s C N R I) {o : Nat} (k n : Nat) (ho : o < x) : Dsz (inS M o k n) (x + 2) (s + 2 + n) ((x + 1, 13) :: (x, 2) :: C) ((x + 1, n) :: (x, 2) :: N) ((o, k, x) :: (x, 0, x + 1) :: R) I := by
  have h1 := (d.dN 2 2).dB (o := x) 0 n (by omega)
  have h := h1.dR k x (show o < x + 1 + 1 by omega)
  have e : inS M o k n = pR (arS (nwD M 2 2) x 0 n) o k x := by
    unfold inS
    rw [d.1]
  rw [e]
  exact h
theorem Dsz.km (d : Dsz M x s C N R I) {a t : Nat} (ha : a < x) (ht : lkq C a = t) : KM M.1 a t := ⟨by show a < cx M; rw [d.1]; exact ha, (d.2.2.1 a).trans ht⟩
theorem Dsz.r (d : Dsz M x s C N R I) {a k : Nat} {b : Option Nat} (h : lkp R a k = b) : mR M a k = b := (d.2.2.2.2.1 a k).trans h
theorem Dsz.n (d : Dsz M x s C N R I) {a n : Nat} (h : lkq N a = n) : mN M a = n := (d.2.2.2.1 a).trans h
theorem Dsz.i (d : Dsz M x s C N R I) (a : Nat) : mI M a = I a := d.2.2.2.2.2.1 a
/-- other numbers in the same cells -/
theorem Dsz.re (d : Dsz M x s C N R I) {I1 : Nat → Nat → Int32} {L1 : Nat → Nat → Int64} (h : ∀ a, x ≤ a → I1 a = I a) : Dsz (M.1, I1, L1) x s C N R I1 := by
  obtain ⟨d1, d2, d3, d4, d5, d6, d7, d8⟩ := d
  exact ⟨d1, d2, d3, d4, d5, fun _ => rfl, fun a ha => by rw [h a ha]; exact d7 a ha, d8⟩
theorem Dsz.d9 (d : Dsz M x s C N R I) {o : Nat} (ho : o < x) : Dsz (e9S M o) (x + 6) (s + 2 + 301 + 2 + 301 + 2 + 301) ((x + 5, 13) :: (x + 4, 2) :: (x + 3, 13) :: (x + 2, 2) :: (x + 1, 13) :: (x, 2) :: C) ((x + 5, 301) :: (x + 4, 2) :: (x + 3, 301) :: (x + 2, 2) :: (x + 1, 301) :: (x, 2) :: N) ((o, 2, x + 4) :: (x + 4, 0, x + 5) :: (o, 1, x + 2) :: (x + 2, 0, x + 3) :: (o, 0, x) :: (x, 0, x + 1) :: R) I := ((d.dC 0 301 ho).dC 1 301 (by omega)).dC 2 301 (by omega)
end DESC
