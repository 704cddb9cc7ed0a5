/-! the calls on the lists: when they are taken, and that the lists stay such as calls make them -/
def isTp (x : Int32) (tap : Nat) : Prop := x = nI tap ∧ tap < 4
/-- a list with one more -/
theorem getElem_app {xs : List Nat} {a : Nat} {k v : Nat} (h : (xs ++ [a])[k]? = some v) : xs[k]? = some v ∨ (k = xs.length ∧ v = a) := by
  by_cases hk : k < xs.length
  · rw [List.getElem?_append_left hk] at h; exact Or.inl h
  · have hl := (List.getElem?_eq_some_iff.mp h).1
    rw [List.length_append, List.length_singleton] at hl
    have hke : k = xs.length := by omega
    subst hke
    rw [List.getElem?_append_right (Nat.le_refl _), Nat.sub_self] at h
    exact Or.inr ⟨rfl, (Option.some.inj h).symm⟩
theorem getElem_set {xs : List Nat} {i a k v : Nat} (h : (xs.set i a)[k]? = some v) : (k = i ∧ v = a) ∨ (k ≠ i ∧ xs[k]? = some v) := by
  rw [List.getElem?_set] at h
  by_cases hk : i = k
  · rw [if_pos hk] at h
    split at h
    · exact Or.inl ⟨hk.symm, (Option.some.inj h).symm⟩
    · cases h
  · rw [if_neg hk] at h
    exact Or.inr ⟨fun e => hk e.symm, h⟩
theorem getElem_keep {xs : List Nat} {a k v : Nat} (h : (keepL xs a)[k]? = some v) : (∃ j : Nat, xs[j]? = some v) ∨ v = a := by
  unfold keepL at h
  rcases getElem_app h with h1 | ⟨_, h1⟩
  · split at h1
    · exact Or.inl ⟨k, h1⟩
    · rw [List.getElem?_drop] at h1; exact Or.inl ⟨_, h1⟩
  · exact Or.inr h1
theorem keepL_len {xs : List Nat} {a : Nat} (h : xs.length ≤ 30) : (keepL xs a).length = if xs.length < 30 then xs.length + 1 else 30 := by
  unfold keepL
  split
  · rw [List.length_append, List.length_singleton]
  · rw [List.length_append, List.length_singleton, List.length_drop]; omega
section ABS
variable {w h : Nat} {S : Nat → List Nat} {tx : List TX}
theorem WF.row (hW : WF w h S tx) {tap : Nat} (ht : tap < 4) : WF w h (rw1 S 3 (S 3 ++ [tap])) tx := by
  obtain ⟨a1, a2, a3, a4, a5, a6, a7, a8, a9, a10, a11, a12, a13, a14, a15, a16, a17⟩ := hW
  refine ⟨a1, a2, a3, a4, a5, fun k v hv => ?_, a7, a8, a9, a10, a11, a12, a13, a14, a15, a16, a17⟩
  rcases getElem_app hv with h1 | ⟨_, rfl⟩
  · exact a6 k v h1
  · exact ht
theorem WF.row0 (hW : WF w h S tx) : WF w h (rw1 S 3 []) tx := by
  obtain ⟨a1, a2, a3, a4, a5, a6, a7, a8, a9, a10, a11, a12, a13, a14, a15, a16, a17⟩ := hW
  exact ⟨a1, a2, a3, a4, a5, fun k v hv => (by cases hv), a7, a8, a9, a10, a11, a12, a13, a14, a15, a16, a17⟩
theorem WF.pair (hW : WF w h S tx) {p hb : Nat} (hp : isP w h S p) (hh : hb < tx.length) : WF w h (rw1 (rw1 S 1 (S 1 ++ [p])) 2 (S 2 ++ [hb])) tx := by
  obtain ⟨a1, a2, a3, a4, a5, a6, a7, a8, a9, a10, a11, a12, a13, a14, a15, a16, a17⟩ := hW
  refine ⟨a1, a2, ?_, fun k v hv => ?_, fun k v hv => ?_, a6, a7, fun k v hv => ?_, a9, a10, a11, a12, a13, a14, a15, a16, a17⟩
  · show (S 1 ++ [p]).length = (S 2 ++ [hb]).length
    rw [List.length_append, List.length_append, a3]; rfl
  · rcases getElem_app hv with h1 | ⟨_, rfl⟩
    · exact a4 k v h1
    · exact hp
  · rcases getElem_app hv with h1 | ⟨_, rfl⟩
    · exact a5 k v h1
    · exact hh
  · have := a8 k v hv
    show v < (S 1 ++ [p]).length
    rw [List.length_append]; omega
theorem WF.seen (hW : WF w h S tx) {p tap q : Nat} (hp : isP w h S p) (ht : tap < 4) (hq : isP w h S q) : WF w h (rw1 (rw1 (rw1 S 6 (S 6 ++ [p])) 7 (S 7 ++ [tap])) 8 (S 8 ++ [q])) tx := by
  obtain ⟨a1, a2, a3, a4, a5, a6, a7, a8, a9, a10, a11, a12, a13, a14, a15, a16, a17⟩ := hW
  refine ⟨a1, a2, a3, a4, a5, a6, a7, a8, a9, ?_, ?_, fun k v hv => ?_, fun k v hv => ?_, fun k v hv => ?_, a15, a16, a17⟩
  · show (S 6 ++ [p]).length = (S 7 ++ [tap]).length
    rw [List.length_append, List.length_append, a10]; rfl
  · show (S 6 ++ [p]).length = (S 8 ++ [q]).length
    rw [List.length_append, List.length_append, a11]; rfl
  · rcases getElem_app hv with h1 | ⟨_, rfl⟩
    · exact a12 k v h1
    · exact hp.1
  · rcases getElem_app hv with h1 | ⟨_, rfl⟩
    · exact a13 k v h1
    · exact ht
  · rcases getElem_app hv with h1 | ⟨_, rfl⟩
    · exact a14 k v h1
    · exact hq.1
theorem WF.sight (hW : WF w h S tx) {v0 : Nat} (hv : v0 ≤ 9) : WF w h (rw1 S 9 (S 9 ++ [v0])) tx := by
  obtain ⟨a1, a2, a3, a4, a5, a6, a7, a8, a9, a10, a11, a12, a13, a14, a15, a16, a17⟩ := hW
  refine ⟨a1, a2, a3, a4, a5, a6, a7, a8, a9, a10, a11, a12, a13, a14, fun k v hk => ?_, a16, a17⟩
  rcases getElem_app hk with h1 | ⟨_, rfl⟩
  · exact a15 k v h1
  · exact hv
theorem WF.pace (hW : WF w h S tx) {v0 : Nat} (hv : v0 ≤ 9) : WF w h (rw1 S 10 (S 10 ++ [v0])) tx := by
  obtain ⟨a1, a2, a3, a4, a5, a6, a7, a8, a9, a10, a11, a12, a13, a14, a15, a16, a17⟩ := hW
  refine ⟨a1, a2, a3, a4, a5, a6, a7, a8, a9, a10, a11, a12, a13, a14, a15, fun k v hk => ?_, a17⟩
  rcases getElem_app hk with h1 | ⟨_, rfl⟩
  · exact a16 k v h1
  · exact hv
/-- a step is kept, and the pair q stands at p -/
theorem WF.keep (hW : WF w h S tx) {q : Nat} (hq : q < (S 1).length) (h30 : (S 4).length ≤ 30) : WF w h (rw1 (rw1 S 4 (keepL (S 4) q)) 5 (keepL (S 5) ((S 1).getD q 0))) tx := by
  obtain ⟨a1, a2, a3, a4, a5, a6, a7, a8, a9, a10, a11, a12, a13, a14, a15, a16, a17⟩ := hW
  refine ⟨a1, a2, a3, a4, a5, a6, ?_, fun k v hv => ?_, fun k v hv => ?_, a10, a11, a12, a13, a14, a15, a16, a17⟩
  · show (keepL (S 4) q).length = (keepL (S 5) ((S 1).getD q 0)).length
    rw [keepL_len h30, keepL_len (by omega), a7]
  · rcases getElem_keep hv with ⟨j, h1⟩ | rfl
    · exact a8 j v h1
    · exact hq
  · rcases getElem_keep hv with ⟨j, h1⟩ | rfl
    · exact a9 j v h1
    · refine a4 q _ ?_
      rw [List.getElem?_eq_getElem hq]
      simp [List.getD, List.getElem?_eq_getElem hq]
theorem WF.stand (hW : WF w h S tx) {q p : Nat} (hp : isP w h S p) : WF w h (rw1 S 1 ((S 1).set q p)) tx := by
  obtain ⟨a1, a2, a3, a4, a5, a6, a7, a8, a9, a10, a11, a12, a13, a14, a15, a16, a17⟩ := hW
  refine ⟨a1, a2, ?_, fun k v hv => ?_, a5, a6, a7, fun k v hv => ?_, a9, a10, a11, a12, a13, a14, a15, a16, a17⟩
  · show ((S 1).set q p).length = (S 2).length
    rw [List.length_set]; exact a3
  · rcases getElem_set hv with ⟨_, rfl⟩ | ⟨_, h1⟩
    · exact hp
    · exact a4 k v h1
  · have := a8 k v hv
    show v < ((S 1).set q p).length
    rw [List.length_set]; exact this
theorem WF.unstep (hW : WF w h S tx) (n : Nat) : WF w h (rw1 (rw1 S 4 ((S 4).take n)) 5 ((S 5).take n)) tx := by
  obtain ⟨a1, a2, a3, a4, a5, a6, a7, a8, a9, a10, a11, a12, a13, a14, a15, a16, a17⟩ := hW
  have tk : ∀ {xs : List Nat} {k v : Nat}, (xs.take n)[k]? = some v → xs[k]? = some v := fun {xs k v} hv => by
    rw [List.getElem?_take] at hv
    split at hv
    · exact hv
    · cases hv
  refine ⟨a1, a2, a3, a4, a5, a6, ?_, fun k v hv => a8 k v (tk hv), fun k v hv => a9 k v (tk hv), a10, a11, a12, a13, a14, a15, a16, a17⟩
  show ((S 4).take n).length = ((S 5).take n).length
  rw [List.length_take, List.length_take, a7]
theorem WF.cell (hW : WF w h S tx) {c kind : Nat} (hk : kind ≤ 3) (hn : kind = 1 → ∀ (j : Nat) v, (S 1)[j]? = some v → v / 4 ≠ c) : WF w h (rw1 (rw1 (rw1 S 0 ((S 0).set c kind)) 4 []) 5 []) tx := by
  obtain ⟨a1, a2, a3, a4, a5, a6, a7, a8, a9, a10, a11, a12, a13, a14, a15, a16, a17⟩ := hW
  refine ⟨?_, fun k v hv => ?_, a3, fun k v hv => ⟨(a4 k v hv).1, ?_⟩, a5, a6, rfl, fun k v hv => (by cases hv), fun k v hv => (by cases hv), a10, a11, a12, a13, a14, a15, a16, a17⟩
  · show ((S 0).set c kind).length = w * h
    rw [List.length_set]; exact a1
  · rcases getElem_set hv with ⟨_, rfl⟩ | ⟨_, h1⟩
    · exact hk
    · exact a2 k v h1
  · show ((S 0).set c kind).getD (v / 4) 0 ≠ 1
    rw [List.getD_eq_getElem?_getD, List.getElem?_set]
    by_cases hc : c = v / 4
    · rw [if_pos hc]
      split
      · intro e
        have e : kind = 1 := e
        exact hn e k v hv hc.symm
      · exact (by decide : (0 : Nat) ≠ 1)
    · rw [if_neg hc, ← List.getD_eq_getElem?_getD]
      exact (a4 k v hv).2
/-- a step leads to a POSE -/
theorem step_isP (k : wh w h) (hW : WF w h S tx) {t : TX} {p tap : Nat} (hp : isP w h S p) : isP w h S (stepF w h (S 0) t p tap % 200) := by
  have hm := k.mul
  obtain ⟨h1, h2⟩ := hp
  unfold stepF
  split
  · rw [show (p + 400) % 200 = p by omega]; exact ⟨h1, h2⟩
  have tn : ∀ q, isP w h S (turnF p q % 200) := fun q => by
    have : turnF p q / 4 = p / 4 ∧ turnF p q < 100 := by unfold turnF; omega
    rw [Nat.mod_eq_of_lt (by omega)]
    refine ⟨by omega, ?_⟩
    rw [this.1]; exact h2
  unfold deedF
  split
  · split
    · rw [show (p + 200) % 200 = p by omega]; exact ⟨h1, h2⟩
    · rename_i hka
      cases ha : ahd w h p with
      | none => exact absurd (by unfold kah; rw [ha]) hka
      | some c =>
        have hc := ahd_lt k.1 k.2.2.1 h1 ha
        have hk2 : (S 0).getD c 0 ≠ 1 := by
          have : kah w h (S 0) p = (S 0).getD c 0 := by unfold kah; rw [ha]
          rw [← this]; exact hka
        show isP w h S ((4 * c + p % 4) % 200)
        rw [Nat.mod_eq_of_lt (by omega)]
        refine ⟨by omega, ?_⟩
        rw [show (4 * c + p % 4) / 4 = c by omega]; exact hk2
  split
  · exact tn 3
  split
  · exact tn 1
  split
  · exact tn 2
  · rw [Nat.mod_eq_of_lt (by omega)]; exact ⟨h1, h2⟩
end ABS
