/-! rows of POSES, and the search over them -/
abbrev TR : Type := Nat × Nat × Nat
def pr (r : TR) (i : Nat) : Nat := if i = 0 then r.1 else if i = 1 then r.2.1 else r.2.2
def encF (p : Nat → Nat) : Nat → Nat
  | 0 => 0
  | j + 1 => encF p j * 100 + p j
def okR (w h : Nat) (S : Nat → List Nat) (n : Nat) (r : TR) : Prop := (∀ i, i < n → isP w h S (pr r i)) ∧ ∀ i, n ≤ i → i < 3 → pr r i = 0
theorem TR.ext {r s : TR} (h : ∀ i, i < 3 → pr r i = pr s i) : r = s := by
  obtain ⟨a, b, c⟩ := r
  obtain ⟨a', b', c'⟩ := s
  have h0 : a = a' := h 0 (by decide)
  have h1 : b = b' := h 1 (by decide)
  have h2 : c = c' := h 2 (by decide)
  rw [h0, h1, h2]
theorem encF_inj {p q : Nat → Nat} : ∀ {n : Nat}, (∀ i, i < n → p i < 100) → (∀ i, i < n → q i < 100) → encF p n = encF q n → ∀ i, i < n → p i = q i := by
  intro n
  induction n with
  | zero => intro _ _ _ i hi; exact absurd hi (by omega)
  | succ n ih =>
    intro hp hq he i hi
    have he : encF p n * 100 + p n = encF q n * 100 + q n := he
    have a := hp n (by omega)
    have b := hq n (by omega)
    by_cases hin : i = n
    · rw [hin]; omega
    · exact ih (fun i hi => hp i (by omega)) (fun i hi => hq i (by omega)) (by omega) i (by omega)
theorem encF_lt {p : Nat → Nat} : ∀ {n : Nat}, (∀ i, i < n → p i < 100) → encF p n < 100 ^ n := by
  intro n
  induction n with
  | zero => intro _; exact Nat.zero_lt_one
  | succ n ih =>
    intro hp
    have := ih (fun i hi => hp i (by omega))
    have := hp n (by omega)
    show encF p n * 100 + p n < 100 ^ (n + 1)
    rw [Nat.pow_succ]
    omega
theorem encF_same {p q : Nat → Nat} : ∀ {n : Nat}, (∀ i, i < n → p i = q i) → encF p n = encF q n := by
  intro n
  induction n with
  | zero => intro _; rfl
  | succ n ih =>
    intro h
    show encF p n * 100 + p n = encF q n * 100 + q n
    rw [ih (fun i hi => h i (by omega)), h n (by omega)]
/-- the row behind a TAP, by the habits tt -/
def nxT (w h : Nat) (K : List Nat) (n : Nat) (tt : Nat → TX) (r : TR) (tap : Nat) : TR := (stepF w h K (tt 0) r.1 tap % 200, if 1 < n then stepF w h K (tt 1) r.2.1 tap % 200 else 0, if 2 < n then stepF w h K (tt 2) r.2.2 tap % 200 else 0)
theorem nxT_pr {w h n tap i : Nat} {K : List Nat} {tt : Nat → TX} {r : TR} (hn : 1 ≤ n) (h3 : n ≤ 3) (hi : i < n) : pr (nxT w h K n tt r tap) i = stepF w h K (tt i) (pr r i) tap % 200 := by
  have cs : i = 0 ∨ i = 1 ∨ i = 2 := by omega
  rcases cs with rfl | rfl | rfl
  · rfl
  · show (if 1 < n then _ else 0) = _; rw [if_pos hi]; rfl
  · show (if 2 < n then _ else 0) = _; rw [if_pos hi]; rfl
theorem nxT_0 {w h n tap i : Nat} {K : List Nat} {tt : Nat → TX} {r : TR} (hn : 1 ≤ n) (hi : n ≤ i) (h3 : i < 3) : pr (nxT w h K n tt r tap) i = 0 := by
  have cs : i = 1 ∨ i = 2 := by omega
  rcases cs with rfl | rfl
  · show (if 1 < n then _ else 0) = _; rw [if_neg (by omega)]
  · show (if 2 < n then _ else 0) = _; rw [if_neg (by omega)]
theorem okR.nx {w h n tap : Nat} {S : Nat → List Nat} {tx : List TX} {tt : Nat → TX} {r : TR} (k : wh w h) (hW : WF w h S tx) (hn : 1 ≤ n) (h3 : n ≤ 3) (ho : okR w h S n r) : okR w h S n (nxT w h (S 0) n tt r tap) :=
  ⟨fun i hi => by rw [nxT_pr hn h3 hi]; exact step_isP k hW (ho.1 i hi), fun i hi hi3 => nxT_0 hn hi hi3⟩
theorem okR.eq {w h n : Nat} {S : Nat → List Nat} {r s : TR} (k : wh w h) (h3 : n ≤ 3) (hr : okR w h S n r) (hs : okR w h S n s) (he : encF (pr r) n = encF (pr s) n) : r = s := by
  have hm := k.mul
  refine TR.ext (fun i hi => ?_)
  by_cases hin : i < n
  · exact encF_inj (fun i hi => by have := (hr.1 i hi).1; omega) (fun i hi => by have := (hs.1 i hi).1; omega) he i hin
  · rw [hr.2 i (by omega) hi, hs.2 i (by omega) hi]
/-- is a row there -/
def thB (n : Nat) (goal : Option Nat) (r : TR) : Bool := match goal with
  | some c => decide (∀ i, i < n → pr r i / 4 = c)
  | none => decide (¬ r.1 = r.2.1)
/-- the rows that are found, where they came from, by which TAP -/
abbrev ST : Type := List TR × List Nat × List Nat
def bfF (w h : Nat) (K : List Nat) (n : Nat) (tt : Nat → TX) (goal : Option Nat) : Nat → Nat → Nat → ST → Option (Option Nat) × ST
  | 0, _, _, s => (none, s)
  | k + 1, hd, tap, s => if tap < 4 then (if nxT w h K n tt (s.1.getD hd (0, 0, 0)) tap ∈ s.1 then bfF w h K n tt goal k hd (tap + 1) s else if s.1.length = 3000 then (some none, s) else if thB n goal (nxT w h K n tt (s.1.getD hd (0, 0, 0)) tap) then (some (some s.1.length), (s.1 ++ [nxT w h K n tt (s.1.getD hd (0, 0, 0)) tap], s.2.1 ++ [hd], s.2.2 ++ [tap])) else bfF w h K n tt goal k hd (tap + 1) (s.1 ++ [nxT w h K n tt (s.1.getD hd (0, 0, 0)) tap], s.2.1 ++ [hd], s.2.2 ++ [tap])) else if hd + 1 < s.1.length then bfF w h K n tt goal k (hd + 1) 0 s else (none, s)
def dpF (F : List Nat) : Nat → Nat → Nat
  | 0, _ => 0
  | k + 1, j => if j = 0 then 0 else dpF F k (F.getD j 0) + 1
def upF (F : List Nat) : Nat → Nat → Nat
  | 0, j => j
  | k + 1, j => upF F k (F.getD j 0)
/-- what is answered -/
def saF (o : Option (Option Nat) × ST) (x : Int32) : Int32 := match o.1 with
  | none => -1
  | some none => -2
  | some (some j) => if x = -1 then nI (dpF o.2.2.1 3001 j) else if x < nI (dpF o.2.2.1 3001 j) then nI (o.2.2.2.getD (upF o.2.2.1 (dpF o.2.2.1 3001 j - 1 - x.toNatClampNeg) j) 0) else -1
/-- the search's start: all at the POSE p -/
def r0F (n p : Nat) : TR := (p, if 1 < n then p else 0, if 2 < n then p else 0)
def skF (w h : Nat) (K : List Nat) (n : Nat) (tt : Nat → TX) (goal : Option Nat) (p : Nat) : Option (Option Nat) × ST := if thB n goal (r0F n p) then (some (some 0), ([r0F n p], [0], [0])) else bfF w h K n tt goal 20000 0 0 ([r0F n p], [0], [0])
theorem r0F_pr {n p i : Nat} (hn : 1 ≤ n) (hi : i < 3) : pr (r0F n p) i = if i < n then p else 0 := by
  have cs : i = 0 ∨ i = 1 ∨ i = 2 := by omega
  rcases cs with rfl | rfl | rfl
  · rw [if_pos (by omega)]; rfl
  · rfl
  · rfl
theorem r0F_ok {w h n p : Nat} {S : Nat → List Nat} (hn : 1 ≤ n) (h3 : n ≤ 3) (hp : isP w h S p) : okR w h S n (r0F n p) :=
  ⟨fun i hi => by rw [r0F_pr hn (by omega), if_pos hi]; exact hp, fun i hi hi3 => by rw [r0F_pr hn hi3, if_neg (by omega)]⟩
/-- the state is such as a search makes it -/
def sok (w h : Nat) (S : Nat → List Nat) (n : Nat) (s : ST) : Prop := (∀ r ∈ s.1, okR w h S n r) ∧ s.2.1.length = s.1.length ∧ s.2.2.length = s.1.length ∧ 1 ≤ s.1.length ∧ s.1.length ≤ 3000 ∧ (∀ j, 0 < j → j < s.1.length → s.2.1.getD j 0 < j) ∧ ∀ j, s.2.2.getD j 0 < 4
theorem getD_app {α : Type} {xs : List α} {a e : α} {k : Nat} : (xs ++ [a]).getD k e = if k < xs.length then xs.getD k e else if k = xs.length then a else e := by
  rw [List.getD_eq_getElem?_getD]
  by_cases hk : k < xs.length
  · rw [if_pos hk, List.getElem?_append_left hk, List.getD_eq_getElem?_getD]
  · rw [if_neg hk, List.getElem?_append_right (by omega)]
    by_cases he : k = xs.length
    · rw [if_pos he, he, Nat.sub_self]; rfl
    · rw [if_neg he, List.getElem?_eq_none (by rw [List.length_singleton]; omega)]; rfl
theorem getD_mem {xs : List TR} {k : Nat} (hk : k < xs.length) : xs.getD k (0, 0, 0) ∈ xs := by
  rw [List.getD_eq_getElem?_getD, List.getElem?_eq_getElem hk]
  exact List.getElem_mem hk
theorem sok.put {w h n hd tap : Nat} {S : Nat → List Nat} {s : ST} {r : TR} (k : sok w h S n s) (hr : okR w h S n r) (hl : s.1.length < 3000) (hh : hd < s.1.length) (ht : tap < 4) : sok w h S n (s.1 ++ [r], s.2.1 ++ [hd], s.2.2 ++ [tap]) := by
  obtain ⟨k1, k2, k3, k4, k5, k6, k7⟩ := k
  refine ⟨fun q hq => ?_, ?_, ?_, ?_, ?_, fun j h0 hj => ?_, fun j => ?_⟩
  · rcases List.mem_append.mp hq with hq | hq
    · exact k1 q hq
    · rw [List.mem_singleton.mp hq]; exact hr
  · show (s.2.1 ++ [hd]).length = (s.1 ++ [r]).length
    rw [List.length_append, List.length_append, k2]; rfl
  · show (s.2.2 ++ [tap]).length = (s.1 ++ [r]).length
    rw [List.length_append, List.length_append, k3]; rfl
  · show 1 ≤ (s.1 ++ [r]).length
    rw [List.length_append]; omega
  · show (s.1 ++ [r]).length ≤ 3000
    rw [List.length_append, List.length_singleton]; omega
  · have hj : j < (s.1 ++ [r]).length := hj
    rw [List.length_append, List.length_singleton] at hj
    show (s.2.1 ++ [hd]).getD j 0 < j
    rw [getD_app, k2]
    split
    · exact k6 j h0 (by omega)
    · split
      · omega
      · omega
  · show (s.2.2 ++ [tap]).getD j 0 < 4
    rw [getD_app]
    split
    · exact k7 j
    · split
      · exact ht
      · decide
/-- the depth: each step up is one less -/
theorem dp_more {F : List Nat} : ∀ (k m j : Nat), j ≤ k → j ≤ m → (∀ i, 0 < i → i ≤ j → F.getD i 0 < i) → dpF F k j = dpF F m j := by
  intro k
  induction k with
  | zero =>
    intro m j hj _ _
    have : j = 0 := by omega
    subst this
    cases m with
    | zero => rfl
    | succ m => rfl
  | succ k ih =>
    intro m j hj hm hF
    by_cases h0 : j = 0
    · subst h0
      cases m with
      | zero => rfl
      | succ m => rfl
    · obtain ⟨m', rfl⟩ : ∃ m', m = m' + 1 := ⟨m - 1, by omega⟩
      show (if j = 0 then 0 else dpF F k (F.getD j 0) + 1) = (if j = 0 then 0 else dpF F m' (F.getD j 0) + 1)
      have := hF j (by omega) (Nat.le_refl _)
      rw [if_neg h0, if_neg h0, ih m' (F.getD j 0) (by omega) (by omega) (fun i h1 h2 => hF i h1 (by omega))]
theorem dp_le {F : List Nat} : ∀ (k j : Nat), (∀ i, 0 < i → i ≤ j → F.getD i 0 < i) → dpF F k j ≤ j := by
  intro k
  induction k with
  | zero => intro j _; exact Nat.zero_le _
  | succ k ih =>
    intro j hF
    show (if j = 0 then 0 else dpF F k (F.getD j 0) + 1) ≤ j
    by_cases h0 : j = 0
    · rw [if_pos h0]; omega
    · have h1 := hF j (by omega) (Nat.le_refl _)
      have := ih (F.getD j 0) (fun i h1 h2 => hF i h1 (by omega))
      rw [if_neg h0]; omega
