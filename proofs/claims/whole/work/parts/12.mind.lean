/-! Mind: its stack, and what a row of orders works out -/
def MS (Z : Zs) (I : Nat → Nat → Int32) (o nb wb : Nat) (s : List Int32) : Prop := KM Z o 4 ∧ Z.2.1 o 0 = some nb ∧ KM Z nb 13 ∧ Z.2.2.1 nb = 11 ∧ Z.2.1 o 1 = some wb ∧ KM Z wb 13 ∧ Z.2.2.1 wb = 64 ∧ nb ≠ wb ∧ s.length ≤ 64 ∧ I o 2 = nI s.length ∧ ∀ k v, s[k]? = some v → I wb k = v
/-- the array at a holds the list xs -/
def OA (Z : Zs) (I : Nat → Nat → Int32) (a : Nat) (xs : List Nat) : Prop := KM Z a 13 ∧ Z.2.2.1 a = xs.length ∧ xs.length ≤ 60000 ∧ ∀ k v, xs[k]? = some v → I a k = nI v
theorem OA.at {Z : Zs} {I : Nat → Nat → Int32} {a : Nat} {xs : List Nat} (h : OA Z I a xs) {k v : Nat} (hk : xs[k]? = some v) : I a (nI k).toNatClampNeg = nI v := by
  have hl := (List.getElem?_eq_some_iff.mp hk).1
  have := h.2.2.1
  rw [nI_clamp (by omega)]
  exact h.2.2.2 k v hk
/-- what two values become by the order c -/
def jnF (c : Nat) (x y : Int64) : Int64 := if c = 16 then x ||| y else if c = 17 then x &&& y else if c = 21 then (if x < y then 1 else 0) else if c = 22 then (if x ≤ y then 1 else 0) else if c = 23 then (if y < x then 1 else 0) else if c = 24 then (if y ≤ x then 1 else 0) else if c = 25 then (if x = y then 1 else 0) else if c = 26 then (if x = y then 0 else 1) else if c = 27 then x + y else if c = 28 then x - y else if c = 29 then x * y else if c = 30 then (if y = 0 then 0 else x / y) else 0
def hdF (x : Int64) : Int32 := (if (if x < 1000000 then x else 1000000) < (-1000000) then (-1000000) else (if x < 1000000 then x else 1000000)).toInt32
def hjF (c : Nat) (x y : Int32) : Int32 := hdF (jnF c x.toInt64 y.toInt64)
/-- an order that joins two values -/
def isJ (c : Nat) : Prop := c = 16 ∨ c = 17 ∨ (21 ≤ c ∧ c ≤ 30)
/-- one order is done: from the place p with the values s to p' with s' -/
def St1 (ords : List Nat) (env : Nat → Int32) (p : Nat) (s : List Int32) (p' : Nat) (s' : List Int32) : Prop :=
  (ords[p]? = some 19 ∧ ∃ z, ords[p + 1]? = some z ∧ p' = p + 2 ∧ s' = s ++ [nI z] ∧ s.length < 64) ∨
  (ords[p]? = some 20 ∧ ∃ z, ords[p + 1]? = some z ∧ z < 11 ∧ p' = p + 2 ∧ s' = s ++ [env z] ∧ s.length < 64) ∨
  (ords[p]? = some 34 ∧ ∃ z v, ords[p + 1]? = some z ∧ z < 2 ^ 31 ∧ s = s' ++ [v] ∧ p' = if v = 0 then z else p + 2) ∨
  (ords[p]? = some 35 ∧ ∃ z, ords[p + 1]? = some z ∧ z < 2 ^ 31 ∧ s = s' ∧ p' = z) ∨
  (ords[p]? = some 18 ∧ ∃ t v, s = t ++ [v] ∧ s' = t ++ [if v = 0 then 1 else 0] ∧ p' = p + 1) ∨
  (ords[p]? = some 38 ∧ ∃ t v, s = t ++ [v] ∧ s' = t ++ [-v] ∧ p' = p + 1) ∨
  (∃ c, ords[p]? = some c ∧ isJ c ∧ ∃ t x y, s = t ++ [x] ++ [y] ∧ s' = t ++ [hjF c x y] ∧ p' = p + 1)
def Stn (ords : List Nat) (env : Nat → Int32) : Nat → Nat → List Int32 → Nat → List Int32 → Prop
  | 0, p, s, p', s' => p = p' ∧ s = s'
  | n + 1, p, s, p', s' => ∃ p1 s1, St1 ords env p s p1 s1 ∧ Stn ords env n p1 s1 p' s'
theorem Stn.tr {ords : List Nat} {env : Nat → Int32} : ∀ {n m p s p1 s1 p2 s2}, Stn ords env n p s p1 s1 → Stn ords env m p1 s1 p2 s2 → Stn ords env (n + m) p s p2 s2
  | 0, m, p, s, p1, s1, p2, s2, h, k => by obtain ⟨rfl, rfl⟩ := h; rw [Nat.zero_add]; exact k
  | n + 1, m, p, s, p1, s1, p2, s2, h, k => by
    obtain ⟨q, t, h1, h2⟩ := h
    rw [show n + 1 + m = (n + m) + 1 by omega]
    exact ⟨q, t, h1, Stn.tr h2 k⟩
section MIND
variable {g : GE} {Z : Zs} {I : Nat → Nat → Int32} {L : Nat → Nat → Int64} {o nb wb a1 : Nat} {s : List Int32}
theorem MS.kept {I1 : Nat → Nat → Int32} (h : MS Z I o nb wb s) (h1 : I1 o 2 = I o 2) (h2 : I1 wb = I wb) : MS Z I1 o nb wb s := by
  obtain ⟨a1, a2, a3, a4, a5, a6, a7, a8, a9, a10, a11⟩ := h
  exact ⟨a1, a2, a3, a4, a5, a6, a7, a8, a9, by rw [h1]; exact a10, fun k v hk => by rw [h2]; exact a11 k v hk⟩
theorem sp_name (h : MS Z I o nb wb s) (k : Nat) (hk : k < 11) (v : Int32) : Cl g 1 mu_X4_name [rf g o, .int (nI k), .int v] (Z, I, L) none (Z, rw1 I nb (upd (I nb) k v), L) := by
  obtain ⟨a1, a2, a3, a4, -⟩ := h
  refine cp_X4_name a1 a2 a3 ⟨fun hc => absurd hc (nI_pos (by omega)), fun _ => ⟨fun hc => absurd hc ?_, fun _ => ⟨?_, fun I2 hI2 => ⟨rfl, ?_⟩⟩⟩⟩
  · exact nI_ge (a := k) (b := 11) hk (by decide)
  · rw [a4]; exact vp_in_nI hk (by decide)
  · rw [hI2, nI_clamp (by omega)]
theorem sp_push (h : MS Z I o nb wb s) (hl : s.length < 64) (v : Int32) : ∃ I1, Cl g 1 mu_X4_push [rf g o, .int v] (Z, I, L) none (Z, I1, L) ∧ MS Z I1 o nb wb (s ++ [v]) ∧ ∀ a, a ≠ o → a ≠ wb → I1 a = I a := by
  obtain ⟨a1, a2, a3, a4, a5, a6, a7, a8, a9, a10, a11⟩ := id h
  have how : o ≠ wb := a1.ne a6 (by decide)
  refine ⟨rw1 (rw1 I wb (upd (I wb) s.length v)) o (upd (I o) 2 (nI (s.length + 1))), cp_X4_push a1 a5 a6 ⟨fun hc => absurd hc ?_, fun _ => ⟨?_, fun I2 hI2 I3 hI3 => ⟨rfl, ?_⟩⟩⟩, ⟨a1, a2, a3, a4, a5, a6, a7, a8, ?_, ?_, fun k w hk => ?_⟩, fun a ha hb => ?_⟩
  · rw [a7, a10]; exact nI_ge hl (by decide)
  · rw [a7, a10]; exact vp_in_nI hl (by decide)
  · have e1 : I2 o = I o := by rw [hI2]; exact rw1_n _ _ how
    rw [hI3, e1, hI2, a10, nI_clamp (by omega), nI_1]
  · rw [List.length_append, List.length_singleton]; omega
  · rw [rw1_s, List.length_append, List.length_singleton]; rfl
  · rw [rw1_n _ _ (Ne.symm how), rw1_s]
    unfold upd
    by_cases hkl : k < s.length
    · rw [List.getElem?_append_left hkl] at hk
      rw [if_neg (by omega)]
      exact a11 k w hk
    · have hkl2 := (List.getElem?_eq_some_iff.mp hk).1
      rw [List.length_append, List.length_singleton] at hkl2
      have hke : k = s.length := by omega
      subst hke
      rw [if_pos rfl]
      rw [List.getElem?_append_right (Nat.le_refl _), Nat.sub_self] at hk
      exact Option.some.inj hk
  · rw [rw1_n _ _ ha, rw1_n _ _ hb]
theorem sp_pop {v : Int32} (h : MS Z I o nb wb (s ++ [v])) : ∃ I1, Cl g 1 mu_X4_pop [rf g o] (Z, I, L) (some (.int v)) (Z, I1, L) ∧ MS Z I1 o nb wb s ∧ ∀ a, a ≠ o → I1 a = I a := by
  obtain ⟨a1, a2, a3, a4, a5, a6, a7, a8, a9, a10, a11⟩ := id h
  have how : o ≠ wb := a1.ne a6 (by decide)
  rw [List.length_append, List.length_singleton] at a9 a10
  have e0 : nI (s.length + 1) - 1 = nI s.length := nI_pred _
  refine ⟨rw1 I o (upd (I o) 2 (nI s.length)), cp_X4_pop a1 a5 a6 ⟨fun _ I1 hI1 => ?_, fun hc => absurd ?_ hc⟩, ⟨a1, a2, a3, a4, a5, a6, a7, a8, by omega, by rw [rw1_s]; rfl, fun k w hk => ?_⟩, fun a ha => rw1_n _ _ ha⟩
  · rw [a10, e0] at hI1
    have e1 : I1 o 2 = nI s.length := by rw [hI1, rw1_s]; rfl
    have e2 : I1 wb = I wb := by rw [hI1, rw1_n _ _ (Ne.symm how)]
    rw [e1, e2, a7, nI_clamp (by omega)]
    refine ⟨vp_in_nI (by omega) (by decide), ?_, by rw [hI1]⟩
    rw [a11 s.length v (by simp)]
  · rw [a10, ← nI_0, nI_ltI (by omega) (by omega)]; omega
  · rw [rw1_n _ _ (Ne.symm how)]
    have hkl := (List.getElem?_eq_some_iff.mp hk).1
    exact a11 k w (by rw [List.getElem?_append_left hkl]; exact hk)
theorem sp_join {c : Nat} (hc : isJ c) (x y : Int64) : Cl g 1 mu_X4_join [.int (nI c), .long x, .long y] (Z, I, L) (some (.long (jnF c x y))) (Z, I, L) := by
  have hb : 16 ≤ c ∧ c ≤ 30 := by unfold isJ at hc; omega
  have ne : ∀ k : Nat, k < 100 → c ≠ k → ¬ nI c = nI k := fun k hk h e => h ((nI_eq (by omega) (by omega)).mp e)
  have hlo : ¬ (nI c < 16 ∨ 30 < nI c) := by
    intro h
    rcases h with h | h
    · exact absurd ((nI_ltI (a := c) (b := 16) (by omega) (by omega)).mp h) (by omega)
    · exact absurd ((nI_ltI (a := 30) (b := c) (by omega) (by omega)).mp h) (by omega)
  refine cp_X4_join ⟨fun h => absurd h hlo, ?_⟩
  rcases hc with rfl | rfl | ⟨h1, h2⟩
  · refine ⟨fun _ => ⟨rfl, rfl⟩, ?_⟩
    exact ⟨fun h => absurd h (by decide), fun h => absurd h (by decide), fun h => absurd h (by decide), fun h => absurd h (by decide), fun h => absurd h (by decide), fun h => absurd h (by decide), fun h => absurd h (by decide), fun h => absurd h (by decide), fun h => absurd h (by decide), fun h => absurd h (by decide), fun h => absurd h (by decide), fun h => absurd h (by decide), fun h => absurd h (by decide), fun h => absurd h (by decide)⟩
  · refine ⟨fun h => absurd h (by decide), fun _ => ⟨rfl, rfl⟩, ?_⟩
    exact ⟨fun h => absurd h (by decide), fun h => absurd h (by decide), fun h => absurd h (by decide), fun h => absurd h (by decide), fun h => absurd h (by decide), fun h => absurd h (by decide), fun h => absurd h (by decide), fun h => absurd h (by decide), fun h => absurd h (by decide), fun h => absurd h (by decide), fun h => absurd h (by decide), fun h => absurd h (by decide), fun h => absurd h (by decide)⟩
  · simp only [lg_cmp_ge, lg_cmp_le, lg_cmp_gt, lg_cmp_lt, lg_cmp_eq]
    have cs : c = 21 ∨ c = 22 ∨ c = 23 ∨ c = 24 ∨ c = 25 ∨ c = 26 ∨ c = 27 ∨ c = 28 ∨ c = 29 ∨ c = 30 := by omega
    rcases cs with rfl | rfl | rfl | rfl | rfl | rfl | rfl | rfl | rfl | rfl
    all_goals
      refine ⟨fun h => absurd h (by decide), fun h => absurd h (by decide), fun h => absurd h (by decide), fun h => absurd h (by decide), fun h => absurd h (by decide), ?_⟩
      simp [jnF, nI, -Int64.not_le, -Int64.not_lt]
      try (constructor <;> intro h <;> simp_all)
theorem sp_held (x : Int64) : Cl g 2 mu_X4_held [.long x] (Z, I, L) (some (.int (hdF x))) (Z, I, L) := cp_X4_held ⟨rfl, rfl⟩
end MIND
