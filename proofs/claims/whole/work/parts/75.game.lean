/-! the chase: who catches in how many turns -/
/-- caught within n turns; k = 0: it is the catcher's turn -/
def wnF (f e : Nat → Nat → Nat) : Nat → Nat → Nat → Nat → Prop
  | 0, _, c, p => c / 4 = p / 4
  | n + 1, k, c, p => wnF f e n k c p ∨ (k = 0 ∧ ∃ tap, tap < 4 ∧ wnF f e n 1 (f c tap) p) ∨ (k ≠ 0 ∧ ∀ tap, tap < 4 → wnF f e n 0 c (e p tap))
def isV (f e : Nat → Nat → Nat) (s : TR) (t : Nat) : Prop := wnF f e t s.1 s.2.1 s.2.2 ∧ ∀ n, n < t → ¬ wnF f e n s.1 s.2.1 s.2.2
theorem wn_up {f e : Nat → Nat → Nat} {n k c p : Nat} (h : wnF f e n k c p) : ∀ m, n ≤ m → wnF f e m k c p := by
  intro m
  induction m with
  | zero => intro hm; rw [show n = 0 by omega] at h; exact h
  | succ m ih =>
    intro hm
    by_cases he : n = m + 1
    · rw [← he]; exact h
    · exact Or.inl (ih (by omega))
theorem isV.uniq {f e : Nat → Nat → Nat} {s : TR} {t u : Nat} (h : isV f e s t) (k : isV f e s u) : t = u := by
  rcases Nat.lt_trichotomy t u with h1 | h1 | h1
  · exact absurd h.1 (k.2 t h1)
  · exact h1
  · exact absurd k.1 (h.2 u h1)
theorem isV.le {f e : Nat → Nat → Nat} {s : TR} {t n : Nat} (h : isV f e s t) (k : wnF f e n s.1 s.2.1 s.2.2) : t ≤ n := Classical.byContradiction (fun z => h.2 n (by omega) k)
/-- what chase() answers -/
def CAz (f e : Nat → Nat → Nat) (p q : Nat) (r : Int32) : Prop := (∃ t, t < 2 ^ 30 ∧ isV f e (0, p, q) t ∧ r = nI t) ∨ (r = -1 ∧ ∀ n, ¬ wnF f e n 0 p q)
/-- what hunt() answers -/
def HAz (f e : Nat → Nat → Nat) (p q : Nat) (r : Int32) : Prop := (∃ t, isV f e (0, p, q) (t + 1) ∧ ∃ tap, tap < 4 ∧ r = nI tap ∧ isV f e (1, f p tap, q) t ∧ ∀ o, o < tap → ¬ isV f e (1, f p o, q) t) ∨ (r = -1 ∧ (p / 4 = q / 4 ∨ ∀ n, ¬ wnF f e n 0 p q))
theorem CAz.uniq {f e : Nat → Nat → Nat} {p q : Nat} {r s : Int32} (h : CAz f e p q r) (k : CAz f e p q s) : r = s := by
  rcases h with ⟨t, -, h1, h2⟩ | ⟨h1, h2⟩
  · rcases k with ⟨u, -, k1, k2⟩ | ⟨k1, k2⟩
    · rw [h2, k2, h1.uniq k1]
    · exact absurd h1.1 (k2 t)
  · rcases k with ⟨u, -, k1, k2⟩ | ⟨k1, k2⟩
    · exact absurd k1.1 (h2 u)
    · rw [h1, k1]
theorem HAz.uniq {f e : Nat → Nat → Nat} {p q : Nat} {r s : Int32} (h : HAz f e p q r) (k : HAz f e p q s) : r = s := by
  rcases h with ⟨t, h1, o, h2, h3, h4, h5⟩ | ⟨h1, h2⟩
  · rcases k with ⟨u, k1, o', k2, k3, k4, k5⟩ | ⟨k1, k2⟩
    · have e1 : t = u := by have := h1.uniq k1; omega
      subst e1
      rcases Nat.lt_trichotomy o o' with z | z | z
      · exact absurd h4 (k5 o z)
      · rw [h3, k3, z]
      · exact absurd k4 (h5 o' z)
    · rcases k2 with k2 | k2
      · exact absurd (show wnF f e 0 0 p q from k2) (h1.2 0 (by omega))
      · exact absurd h1.1 (k2 _)
  · rcases k with ⟨u, k1, o', k2, k3, k4, k5⟩ | ⟨k1, k2⟩
    · rcases h2 with h2 | h2
      · exact absurd (show wnF f e 0 0 p q from h2) (k1.2 0 (by omega))
      · exact absurd k1.1 (h2 _)
    · rw [h1, k1]
/-- the standings settled so far, in their order; those ahead of h have been gone on from -/
def GIz (P : Nat → Prop) (f e : Nat → Nat → Nat) (Q : List TR) (h : Nat) (V : TR → Nat) : Prop :=
  (∀ k c p, k < 2 → P c → P p → c / 4 = p / 4 → (k, c, p) ∈ Q) ∧ (∀ s ∈ Q, s.1 < 2 ∧ P s.2.1 ∧ P s.2.2 ∧ isV f e s (V s)) ∧ (∀ i j, i ≤ j → j < Q.length → V (Q.getD i (0, 0, 0)) ≤ V (Q.getD j (0, 0, 0))) ∧ (∀ j, j < Q.length → h < Q.length → V (Q.getD j (0, 0, 0)) ≤ V (Q.getD h (0, 0, 0)) + 1) ∧ (∀ c p, P c → P p → (0, c, p) ∉ Q → ∀ tap, tap < 4 → (1, f c tap, p) ∉ Q.take h) ∧ (∀ c p, P c → P p → (1, c, p) ∉ Q → ∃ tap, tap < 4 ∧ (0, c, e p tap) ∉ Q.take h) ∧ (∀ i j, i < j → j < Q.length → Q.getD i (0, 0, 0) ≠ Q.getD j (0, 0, 0)) ∧ h ≤ Q.length ∧ ∀ j, j < Q.length → V (Q.getD j (0, 0, 0)) ≤ j
theorem mem_idx {Q : List TR} {s : TR} (h : s ∈ Q) : ∃ i, i < Q.length ∧ Q.getD i (0, 0, 0) = s := by
  obtain ⟨i, hi, hi2⟩ := List.mem_iff_getElem.mp h
  exact ⟨i, hi, by rw [List.getD_eq_getElem?_getD, List.getElem?_eq_getElem hi]; exact hi2⟩
theorem mem_take {Q : List TR} {s : TR} {h : Nat} : s ∈ Q.take h ↔ ∃ i, i < h ∧ i < Q.length ∧ Q.getD i (0, 0, 0) = s := by
  constructor
  · intro hs
    obtain ⟨i, hi, hi2⟩ := List.mem_iff_getElem.mp hs
    rw [List.length_take] at hi
    refine ⟨i, by omega, by omega, ?_⟩
    rw [List.getElem_take] at hi2
    rw [List.getD_eq_getElem?_getD, List.getElem?_eq_getElem (by omega)]; exact hi2
  · rintro ⟨i, h1, h2, h3⟩
    rw [List.getD_eq_getElem?_getD, List.getElem?_eq_getElem h2] at h3
    have h3 : Q[i] = s := h3
    rw [← h3]
    exact List.mem_iff_getElem.mpr ⟨i, by rw [List.length_take]; omega, by rw [List.getElem_take]⟩
section GAME
variable {P : Nat → Prop} {f e : Nat → Nat → Nat} {Q : List TR} {h : Nat} {V : TR → Nat}
/-- what is caught within what stands at the head is there -/
theorem GIz.all (G : GIz P f e Q h V) (hf : ∀ c tap, P c → P (f c tap)) (he : ∀ c tap, P c → P (e c tap)) {b : Nat} (hb : ∀ s ∈ Q, V s < b → s ∈ Q.take h) : ∀ (n k c p : Nat), n ≤ b → k < 2 → P c → P p → wnF f e n k c p → (k, c, p) ∈ Q := by
  obtain ⟨g1, g2, g3, g4, g5, g6, g7, g8, g9⟩ := G
  intro n
  induction n with
  | zero => intro k c p _ hk hc hp hw; exact g1 k c p hk hc hp hw
  | succ n ih =>
    intro k c p hn hk hc hp hw
    rcases hw with hw | ⟨h0, tap, ht, hw⟩ | ⟨h0, hw⟩
    · exact ih k c p (by omega) hk hc hp hw
    · subst h0
      have m := ih 1 (f c tap) p (by omega) (by decide) (hf c tap hc) hp hw
      have v := (g2 _ m).2.2.2.le (n := n) hw
      exact Classical.byContradiction (fun z => g5 c p hc hp z tap ht (hb _ m (by omega)))
    · have hk1 : k = 1 := by omega
      subst hk1
      refine Classical.byContradiction (fun z => ?_)
      obtain ⟨tap, ht, hz⟩ := g6 c p hc hp z
      have m := ih 0 c (e p tap) (by omega) (by decide) hc (he p tap hp) (hw tap ht)
      have v := (g2 _ m).2.2.2.le (n := n) (hw tap ht)
      exact hz (hb _ m (by omega))
theorem GIz.below (G : GIz P f e Q h V) (hh : h < Q.length) : ∀ s ∈ Q, V s < V (Q.getD h (0, 0, 0)) → s ∈ Q.take h := fun s hs hv => by
  obtain ⟨i, hi, rfl⟩ := mem_idx hs
  refine mem_take.mpr ⟨i, Classical.byContradiction (fun z => ?_), hi, rfl⟩
  have := G.2.2.1 h i (by omega) hi
  omega
/-- one more is settled -/
theorem GIz.put (G : GIz P f e Q h V) (hf : ∀ c tap, P c → P (f c tap)) (he : ∀ c tap, P c → P (e c tap)) (hh : h < Q.length) {k c p : Nat} (hk : k < 2) (hc : P c) (hp : P p) (hn : (k, c, p) ∉ Q) (hw : wnF f e (V (Q.getD h (0, 0, 0)) + 1) k c p) {V1 : TR → Nat} (hV : ∀ s, V1 s = if s = (k, c, p) then V (Q.getD h (0, 0, 0)) + 1 else V s) : GIz P f e (Q ++ [(k, c, p)]) h V1 := by
  have al := G.all hf he (G.below hh)
  obtain ⟨g1, g2, g3, g4, g5, g6, g7, g8, g9⟩ := G
  have vo : ∀ s ∈ Q, V1 s = V s := fun s hs => by rw [hV, if_neg (fun z => hn (by rw [← z]; exact hs))]
  have len : (Q ++ [(k, c, p)]).length = Q.length + 1 := by rw [List.length_append, List.length_singleton]
  have gd : ∀ i, i < Q.length → (Q ++ [(k, c, p)]).getD i (0, 0, 0) = Q.getD i (0, 0, 0) := fun i hi => by rw [getD_app, if_pos hi]
  have gl : (Q ++ [(k, c, p)]).getD Q.length (0, 0, 0) = (k, c, p) := by rw [getD_app, if_neg (by omega), if_pos rfl]
  have vg : ∀ i, i < Q.length → V1 ((Q ++ [(k, c, p)]).getD i (0, 0, 0)) = V (Q.getD i (0, 0, 0)) := fun i hi => by rw [gd i hi]; exact vo _ (getD_mem hi)
  have vn : V1 (k, c, p) = V (Q.getD h (0, 0, 0)) + 1 := by rw [hV, if_pos rfl]
  have tk : (Q ++ [(k, c, p)]).take h = Q.take h := List.take_append_of_le_length g8
  refine ⟨fun k' c' p' h1 h2 h3 h4 => List.mem_append_left _ (g1 k' c' p' h1 h2 h3 h4), fun s hs => ?_, fun i j hij hj => ?_, fun j hj _ => ?_, fun c' p' h1 h2 h3 => ?_, fun c' p' h1 h2 h3 => ?_, fun i j hij hj => ?_, by omega, fun j hj => ?_⟩
  · rcases List.mem_append.mp hs with hs | hs
    · rw [vo s hs]; exact g2 s hs
    · rw [List.mem_singleton.mp hs, vn]
      exact ⟨hk, hc, hp, hw, fun n hn' hwn => hn (al n k c p (by omega) hk hc hp hwn)⟩
  · rw [len] at hj
    by_cases hj2 : j < Q.length
    · rw [vg i (by omega), vg j hj2]; exact g3 i j hij hj2
    · have : j = Q.length := by omega
      subst this
      rw [gl, vn]
      by_cases hi2 : i < Q.length
      · rw [vg i hi2]; exact g4 i hi2 hh
      · rw [show i = Q.length by omega, gl, vn]
        exact Nat.le_refl _
  · rw [len] at hj
    rw [vg h hh]
    by_cases hj2 : j < Q.length
    · rw [vg j hj2]; exact g4 j hj2 hh
    · rw [show j = Q.length by omega, gl, vn]
      exact Nat.le_refl _
  · rw [tk]; exact g5 c' p' h1 h2 (fun z => h3 (List.mem_append_left _ z))
  · rw [tk]; exact g6 c' p' h1 h2 (fun z => h3 (List.mem_append_left _ z))
  · rw [len] at hj
    rw [gd i (by omega)]
    by_cases hj2 : j < Q.length
    · rw [gd j hj2]; exact g7 i j hij hj2
    · rw [show j = Q.length by omega, gl]
      intro z
      exact hn (by rw [← z]; exact getD_mem (by omega))
  · rw [len] at hj
    by_cases hj2 : j < Q.length
    · rw [vg j hj2]; exact g9 j hj2
    · have : j = Q.length := by omega
      subst this
      rw [gl, vn]
      have := g9 h hh
      omega
theorem take_1 (hh : h < Q.length) {s : TR} : s ∈ Q.take (h + 1) ↔ s ∈ Q.take h ∨ s = Q.getD h (0, 0, 0) := by
  constructor
  · intro hs
    obtain ⟨i, h1, h2, h3⟩ := mem_take.mp hs
    by_cases hi : i = h
    · rw [hi] at h3; exact Or.inr h3.symm
    · exact Or.inl (mem_take.mpr ⟨i, by omega, h2, h3⟩)
  · rintro (hs | hs)
    · obtain ⟨i, h1, h2, h3⟩ := mem_take.mp hs
      exact mem_take.mpr ⟨i, by omega, h2, h3⟩
    · exact mem_take.mpr ⟨h, by omega, hh, hs.symm⟩
/-- the head goes on -/
theorem GIz.next (G : GIz P f e Q h V) (hh : h < Q.length) (hd : ∀ c p, P c → P p → (0, c, p) ∉ Q → ∀ tap, tap < 4 → (1, f c tap, p) ≠ Q.getD h (0, 0, 0)) (he : ∀ c p, P c → P p → (1, c, p) ∉ Q → ∃ tap, tap < 4 ∧ (0, c, e p tap) ∉ Q.take (h + 1)) : GIz P f e Q (h + 1) V := by
  obtain ⟨g1, g2, g3, g4, g5, g6, g7, g8, g9⟩ := G
  refine ⟨g1, g2, g3, fun j hj hh' => ?_, fun c p h1 h2 h3 tap ht hm => ?_, he, g7, by omega, g9⟩
  · have := g4 j hj hh
    have := g3 h (h + 1) (by omega) hh'
    omega
  · rcases (take_1 hh).mp hm with hm | hm
    · exact g5 c p h1 h2 h3 tap ht hm
    · exact hd c p h1 h2 h3 tap ht hm
theorem GIz.fresh (G : GIz P f e Q h V) (hh : h < Q.length) : Q.getD h (0, 0, 0) ∉ Q.take h := fun z => by
  obtain ⟨i, h1, h2, h3⟩ := mem_take.mp z
  exact G.2.2.2.2.2.2.1 i h h1 hh h3
/-- the queue is gone through: what isn't settled never is -/
theorem GIz.done (G : GIz P f e Q h V) (hf : ∀ c tap, P c → P (f c tap)) (he : ∀ c tap, P c → P (e c tap)) (hh : Q.length ≤ h) {k c p : Nat} (hk : k < 2) (hc : P c) (hp : P p) (hn : (k, c, p) ∉ Q) (n : Nat) : ¬ wnF f e n k c p := fun hw => hn (G.all hf he (b := n) (fun s hs _ => by rw [List.take_of_length_le hh]; exact hs) n k c p (Nat.le_refl _) hk hc hp hw)
end GAME
