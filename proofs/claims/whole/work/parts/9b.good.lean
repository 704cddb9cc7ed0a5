/-! what is read heeds the names of its sort alone; what is asked is 0 or 1 -/
def gdE (lk : Bool) (F : EF) : Prop := ∀ e e' : Nat → Int32, (∀ k, k < 11 → decide (6 ≤ k) = lk → e k = e' k) → F e = F e'
def blE (F : EF) : Prop := ∀ env, F env = 0 ∨ F env = 1
theorem bnd_inv {x : PR} {k : EF → Nat → PR} {r : EF × Nat} (h : bnd x k = .inr r) : ∃ f j, x = .inr (f, j) ∧ k f j = .inr r := by
  cases x with
  | inl e => cases h
  | inr q => exact ⟨q.1, q.2, rfl, h⟩
theorem gd_jf {lk : Bool} {c : Nat} {f e : EF} (hf : gdE lk f) (he : gdE lk e) : gdE lk (jf c f e) := fun x y h => by
  show hjF c (f x) (e x) = hjF c (f y) (e y)
  rw [hf x y h, he x y h]
theorem hd_if (p : Prop) [Decidable p] : hdF (if p then 1 else 0) = 0 ∨ hdF (if p then 1 else 0) = 1 := by
  by_cases h : p
  · rw [if_pos h]; exact Or.inr (by decide)
  · rw [if_neg h]; exact Or.inl (by decide)
theorem hd_ifn (p : Prop) [Decidable p] : hdF (if p then 0 else 1) = 0 ∨ hdF (if p then 0 else 1) = 1 := by
  by_cases h : p
  · rw [if_pos h]; exact Or.inl (by decide)
  · rw [if_neg h]; exact Or.inr (by decide)
theorem bl_cmp {c : Nat} (h1 : 21 ≤ c) (h2 : c ≤ 26) (f e : EF) : blE (jf c f e) := fun env => by
  show hjF c (f env) (e env) = 0 ∨ hjF c (f env) (e env) = 1
  have cs : c = 21 ∨ c = 22 ∨ c = 23 ∨ c = 24 ∨ c = 25 ∨ c = 26 := by omega
  rcases cs with rfl | rfl | rfl | rfl | rfl | rfl
  · exact hd_if _
  · exact hd_if _
  · exact hd_if _
  · exact hd_if _
  · exact hd_if _
  · exact hd_ifn _
theorem bl_or {f e : EF} (hf : blE f) (he : blE e) : blE (jf 16 f e) := fun env => by
  show hjF 16 (f env) (e env) = 0 ∨ hjF 16 (f env) (e env) = 1
  rcases hf env with h1 | h1 <;> rcases he env with h2 | h2 <;> rw [h1, h2] <;> decide
theorem bl_and {f e : EF} (hf : blE f) (he : blE e) : blE (jf 17 f e) := fun env => by
  show hjF 17 (f env) (e env) = 0 ∨ hjF 17 (f env) (e env) = 1
  rcases hf env with h1 | h1 <;> rcases he env with h2 | h2 <;> rw [h1, h2] <;> decide
section GOOD
variable {K V : Nat → Nat} {lk : Bool}
theorem pr_good (hV : ∀ i, K i = 20 → V i < 11) : ∀ (u m n i : Nat) (a F : EF) (j : Nat), m ≤ 9 → prF K V lk u m n i a = .inr (F, j) → gdE lk a → (m = 7 ∨ m = 9 → blE a) → gdE lk F ∧ (5 ≤ m → blE F) := by
  intro u
  induction u with
  | zero => intro m n i a F j _ h; cases h
  | succ u ih =>
    intro m n i a F j hm h ha hb
    match m, hm, h, hb with
    | 0, _, h, _ =>
      refine ⟨?_, fun z => absurd z (by decide)⟩
      have h : (if K i = 19 then (if 9999 < V i then (.inl (2, i) : PR) else .inr (fun _ => nI (V i), i + 1)) else if K i = 20 then (if decide (6 ≤ V i) = lk then .inr (fun env => env (V i), i + 1) else .inl (5, i)) else if K i = 31 then (if n < 8 then bnd (prF K V lk u 3 (n + 1) (i + 1) a) (fun f j => if K j = 32 then .inr (f, j + 1) else .inl (1, j)) else .inl (3, i)) else if K i = 28 then (if n < 8 then bnd (prF K V lk u 0 (n + 1) (i + 1) a) (fun f j => .inr (fun env => - f env, j)) else .inl (3, i)) else if K i = 14 then (if n < 8 then bnd (prF K V lk u 8 (n + 1) (i + 1) a) (fun c j => if K j = 34 then bnd (prF K V lk u 3 (n + 1) (j + 1) a) (fun f k => if K k = 35 then bnd (prF K V lk u 3 (n + 1) (k + 1) a) (fun e l => if K l = 15 then .inr (fun env => if c env = 0 then e env else f env, l + 1) else .inl (1, l)) else .inl (1, k)) else .inl (1, j)) else .inl (3, i)) else .inl (1, i)) = .inr (F, j) := h
      by_cases h19 : K i = 19
      · rw [if_pos h19] at h
        by_cases h9 : 9999 < V i
        · rw [if_pos h9] at h; cases h
        · rw [if_neg h9] at h
          cases h
          exact fun _ _ _ => rfl
      rw [if_neg h19] at h
      by_cases h20 : K i = 20
      · rw [if_pos h20] at h
        by_cases h9 : decide (6 ≤ V i) = lk
        · rw [if_pos h9] at h
          cases h
          exact fun e e' hh => hh (V i) (hV i h20) h9
        · rw [if_neg h9] at h; cases h
      rw [if_neg h20] at h
      by_cases h31 : K i = 31
      · rw [if_pos h31] at h
        by_cases h8 : n < 8
        · rw [if_pos h8] at h
          obtain ⟨f, k, e1, e2⟩ := bnd_inv h
          by_cases q : K k = 32
          · rw [if_pos q] at e2
            cases e2
            exact (ih 3 _ _ a _ _ (by decide) e1 ha (fun z => absurd z (by decide))).1
          · rw [if_neg q] at e2; cases e2
        · rw [if_neg h8] at h; cases h
      rw [if_neg h31] at h
      by_cases h28 : K i = 28
      · rw [if_pos h28] at h
        by_cases h8 : n < 8
        · rw [if_pos h8] at h
          obtain ⟨f, k, e1, e2⟩ := bnd_inv h
          cases e2
          have := (ih 0 _ _ a _ _ (by decide) e1 ha (fun z => absurd z (by decide))).1
          exact fun e e' hh => by show - f e = - f e'; rw [this e e' hh]
        · rw [if_neg h8] at h; cases h
      rw [if_neg h28] at h
      by_cases h14 : K i = 14
      · rw [if_pos h14] at h
        by_cases h8 : n < 8
        · rw [if_pos h8] at h
          obtain ⟨c, k, e1, e2⟩ := bnd_inv h
          by_cases q : K k = 34
          · rw [if_pos q] at e2
            obtain ⟨f, k2, e3, e4⟩ := bnd_inv e2
            by_cases q2 : K k2 = 35
            · rw [if_pos q2] at e4
              obtain ⟨e, k3, e5, e6⟩ := bnd_inv e4
              by_cases q3 : K k3 = 15
              · rw [if_pos q3] at e6
                cases e6
                have g1 := (ih 8 _ _ a _ _ (by decide) e1 ha (fun z => absurd z (by decide))).1
                have g2 := (ih 3 _ _ a _ _ (by decide) e3 ha (fun z => absurd z (by decide))).1
                have g3 := (ih 3 _ _ a _ _ (by decide) e5 ha (fun z => absurd z (by decide))).1
                exact fun x y hh => by
                  show (if c x = 0 then e x else f x) = (if c y = 0 then e y else f y)
                  rw [g1 x y hh, g2 x y hh, g3 x y hh]
              · rw [if_neg q3] at e6; cases e6
            · rw [if_neg q2] at e4; cases e4
          · rw [if_neg q] at e2; cases e2
        · rw [if_neg h8] at h; cases h
      rw [if_neg h14] at h; cases h
    | 1, _, h, _ =>
      have h : bnd (prF K V lk u 0 n i a) (fun f j => prF K V lk u 2 n j f) = .inr (F, j) := h
      obtain ⟨f, k, e1, e2⟩ := bnd_inv h
      have g := (ih 0 _ _ a _ _ (by decide) e1 ha (fun z => absurd z (by decide))).1
      exact ⟨(ih 2 _ _ f _ _ (by decide) e2 g (fun z => absurd z (by decide))).1, fun z => absurd z (by decide)⟩
    | 2, _, h, _ =>
      have h : (if K i = 29 ∨ K i = 30 then bnd (prF K V lk u 0 n (i + 1) a) (fun e j => prF K V lk u 2 n j (jf (K i) a e)) else .inr (a, i)) = .inr (F, j) := h
      refine ⟨?_, fun z => absurd z (by decide)⟩
      by_cases q : K i = 29 ∨ K i = 30
      · rw [if_pos q] at h
        obtain ⟨f, k, e1, e2⟩ := bnd_inv h
        have g := (ih 0 _ _ a _ _ (by decide) e1 ha (fun z => absurd z (by decide))).1
        exact (ih 2 _ _ _ _ _ (by decide) e2 (gd_jf ha g) (fun z => absurd z (by decide))).1
      · rw [if_neg q] at h
        cases h
        exact ha
    | 3, _, h, _ =>
      have h : bnd (prF K V lk u 1 n i a) (fun f j => prF K V lk u 4 n j f) = .inr (F, j) := h
      obtain ⟨f, k, e1, e2⟩ := bnd_inv h
      have g := (ih 1 _ _ a _ _ (by decide) e1 ha (fun z => absurd z (by decide))).1
      exact ⟨(ih 4 _ _ f _ _ (by decide) e2 g (fun z => absurd z (by decide))).1, fun z => absurd z (by decide)⟩
    | 4, _, h, _ =>
      have h : (if K i = 27 ∨ K i = 28 then bnd (prF K V lk u 1 n (i + 1) a) (fun e j => prF K V lk u 4 n j (jf (K i) a e)) else .inr (a, i)) = .inr (F, j) := h
      refine ⟨?_, fun z => absurd z (by decide)⟩
      by_cases q : K i = 27 ∨ K i = 28
      · rw [if_pos q] at h
        obtain ⟨f, k, e1, e2⟩ := bnd_inv h
        have g := (ih 1 _ _ a _ _ (by decide) e1 ha (fun z => absurd z (by decide))).1
        exact (ih 4 _ _ _ _ _ (by decide) e2 (gd_jf ha g) (fun z => absurd z (by decide))).1
      · rw [if_neg q] at h
        cases h
        exact ha
    | 5, _, h, _ =>
      have h : (if K i = 18 then (if n < 8 then bnd (prF K V lk u 5 (n + 1) (i + 1) a) (fun f j => .inr (fun env => if f env = 0 then 1 else 0, j)) else .inl (3, i)) else bnd (prF K V lk u 3 n i a) (fun f j => if 21 ≤ K j ∧ K j ≤ 26 then bnd (prF K V lk u 3 n (j + 1) a) (fun e k => .inr (jf (K j) f e, k)) else .inl (1, j))) = .inr (F, j) := h
      by_cases h18 : K i = 18
      · rw [if_pos h18] at h
        by_cases h8 : n < 8
        · rw [if_pos h8] at h
          obtain ⟨f, k, e1, e2⟩ := bnd_inv h
          cases e2
          have g := (ih 5 _ _ a _ _ (by decide) e1 ha (fun z => absurd z (by decide))).1
          refine ⟨fun x y hh => ?_, fun _ env => ?_⟩
          · show (if f x = 0 then (1 : Int32) else 0) = (if f y = 0 then 1 else 0)
            rw [g x y hh]
          · show (if f env = 0 then (1 : Int32) else 0) = 0 ∨ (if f env = 0 then (1 : Int32) else 0) = 1
            by_cases q : f env = 0
            · rw [if_pos q]; exact Or.inr rfl
            · rw [if_neg q]; exact Or.inl rfl
        · rw [if_neg h8] at h; cases h
      · rw [if_neg h18] at h
        obtain ⟨f, k, e1, e2⟩ := bnd_inv h
        by_cases q : 21 ≤ K k ∧ K k ≤ 26
        · rw [if_pos q] at e2
          obtain ⟨e, k2, e3, e4⟩ := bnd_inv e2
          cases e4
          have g1 := (ih 3 _ _ a _ _ (by decide) e1 ha (fun z => absurd z (by decide))).1
          have g2 := (ih 3 _ _ a _ _ (by decide) e3 ha (fun z => absurd z (by decide))).1
          exact ⟨gd_jf g1 g2, fun _ => bl_cmp q.1 q.2 f e⟩
        · rw [if_neg q] at e2; cases e2
    | 6, _, h, _ =>
      have h : bnd (prF K V lk u 5 n i a) (fun f j => prF K V lk u 7 n j f) = .inr (F, j) := h
      obtain ⟨f, k, e1, e2⟩ := bnd_inv h
      have g := ih 5 _ _ a _ _ (by decide) e1 ha (fun z => absurd z (by decide))
      have g2 := ih 7 _ _ f _ _ (by decide) e2 g.1 (fun _ => g.2 (by decide))
      exact ⟨g2.1, fun _ => g2.2 (by decide)⟩
    | 7, _, h, hb =>
      have h : (if K i = 17 then bnd (prF K V lk u 5 n (i + 1) a) (fun e j => prF K V lk u 7 n j (jf 17 a e)) else .inr (a, i)) = .inr (F, j) := h
      have hb := hb (Or.inl rfl)
      by_cases q : K i = 17
      · rw [if_pos q] at h
        obtain ⟨f, k, e1, e2⟩ := bnd_inv h
        have g := ih 5 _ _ a _ _ (by decide) e1 ha (fun z => absurd z (by decide))
        have g2 := ih 7 _ _ _ _ _ (by decide) e2 (gd_jf ha g.1) (fun _ => bl_and hb (g.2 (by decide)))
        exact ⟨g2.1, fun _ => g2.2 (by decide)⟩
      · rw [if_neg q] at h
        cases h
        exact ⟨ha, fun _ => hb⟩
    | 8, _, h, _ =>
      have h : bnd (prF K V lk u 6 n i a) (fun f j => prF K V lk u 9 n j f) = .inr (F, j) := h
      obtain ⟨f, k, e1, e2⟩ := bnd_inv h
      have g := ih 6 _ _ a _ _ (by decide) e1 ha (fun z => absurd z (by decide))
      have g2 := ih 9 _ _ f _ _ (by decide) e2 g.1 (fun _ => g.2 (by decide))
      exact ⟨g2.1, fun _ => g2.2 (by decide)⟩
    | 9, _, h, hb =>
      have h : (if K i = 16 then bnd (prF K V lk u 6 n (i + 1) a) (fun e j => prF K V lk u 9 n j (jf 16 a e)) else .inr (a, i)) = .inr (F, j) := h
      have hb := hb (Or.inr rfl)
      by_cases q : K i = 16
      · rw [if_pos q] at h
        obtain ⟨f, k, e1, e2⟩ := bnd_inv h
        have g := ih 6 _ _ a _ _ (by decide) e1 ha (fun z => absurd z (by decide))
        have g2 := ih 9 _ _ _ _ _ (by decide) e2 (gd_jf ha g.1) (fun _ => bl_or hb (g.2 (by decide)))
        exact ⟨g2.1, fun _ => g2.2 (by decide)⟩
      · rw [if_neg q] at h
        cases h
        exact ⟨ha, fun _ => hb⟩
    | m + 10, hm, _, _ => exact absurd hm (by omega)
def gdT (t : TE) : Prop := (∀ f, t.1 = some f → gdE false f) ∧ (∀ f, t.2.1 = some f → gdE false f ∧ blE f) ∧ ∀ f, t.2.2 = some f → gdE true f
theorem cls_good (hV : ∀ i, K i = 20 → V i < 11) {fu i j : Nat} {t t' : TE} (h : clsF K V fu i t = .inr (t', j)) (hg : gdT t) : gdT t' := by
  unfold clsF at h
  by_cases hc : isCl (K i)
  case neg => rw [if_neg hc] at h; cases h
  rw [if_pos hc] at h
  by_cases hs : (gtE t (K i - 11)).isSome = true
  · rw [if_pos hs] at h; cases h
  rw [if_neg hs] at h
  cases hx : prF K V (decide (K i = 13)) fu (if K i = 12 then 8 else 3) 0 (i + 1) (fun _ => 0) with
  | inl e => rw [hx] at h; cases h
  | inr q =>
    rw [hx] at h
    have h : (if K q.2 = 33 then (.inr (ptE t (K i - 11) q.1, q.2 + 1) : CRs) else .inl (1, q.2)) = .inr (t', j) := h
    by_cases q33 : K q.2 = 33
    case neg => rw [if_neg q33] at h; cases h
    rw [if_pos q33] at h
    cases h
    rcases hc with z | z | z
    · rw [z] at hx ⊢
      have g := pr_good (lk := false) hV fu 3 0 (i + 1) (fun _ => 0) q.1 q.2 (by decide) hx (fun _ _ _ => rfl) (fun z => absurd z (by decide))
      exact ⟨fun f hf => by cases hf; exact g.1, hg.2.1, hg.2.2⟩
    · rw [z] at hx ⊢
      have g := pr_good (lk := false) hV fu 8 0 (i + 1) (fun _ => 0) q.1 q.2 (by decide) hx (fun _ _ _ => rfl) (fun z => absurd z (by decide))
      exact ⟨hg.1, fun f hf => by cases hf; exact ⟨g.1, g.2 (by decide)⟩, hg.2.2⟩
    · rw [z] at hx ⊢
      have g := pr_good (lk := true) hV fu 3 0 (i + 1) (fun _ => 0) q.1 q.2 (by decide) hx (fun _ _ _ => rfl) (fun z => absurd z (by decide))
      exact ⟨hg.1, hg.2.1, fun f hf => by cases hf; exact g.1⟩
theorem rd_good (hV : ∀ i, K i = 20 → V i < 11) {fu : Nat} : ∀ (k i : Nat) (t t' : TE), rdF K V fu k i t = .inr t' → gdT t → gdT t' := by
  intro k
  induction k with
  | zero => intro i t t' h hg; cases h; exact hg
  | succ k ih =>
    intro i t t' h hg
    have h : (if K i = 37 then (.inr t : (Nat × Nat) ⊕ TE) else match clsF K V fu i t with | .inl e => .inl e | .inr q => rdF K V fu k q.2 q.1) = .inr t' := h
    by_cases h37 : K i = 37
    · rw [if_pos h37] at h; cases h; exact hg
    rw [if_neg h37] at h
    cases hx : clsF K V fu i t with
    | inl e => rw [hx] at h; cases h
    | inr q =>
      rw [hx] at h
      exact ih q.2 q.1 t' h (cls_good hV hx hg)
end GOOD
/-- a text, by what its clauses mean -/
def txE (t : TE) : TX := (t.1, t.2.1.map (fun f env => decide (¬ f env = 0)), t.2.2)
theorem tx_ok {t : TE} (h : gdT t) : TXok (txE t) := by
  refine ⟨fun f hf e e' hh => h.1 f hf e e' (fun k _ hk => hh k (by have := of_decide_eq_false hk; omega)), fun f hf e e' hh => ?_, fun f hf e e' hh => h.2.2 f hf e e' (fun k h1 hk => hh k (of_decide_eq_true hk) h1)⟩
  have hf : t.2.1.map (fun f env => decide (¬ f env = 0)) = some f := hf
  cases hx : t.2.1 with
  | none => rw [hx] at hf; cases hf
  | some F =>
    rw [hx] at hf
    cases hf
    show decide (¬ F e = 0) = decide (¬ F e' = 0)
    rw [(h.2.1 F hx).1 e e' (fun k _ hk => hh k (by have := of_decide_eq_false hk; omega))]
theorem tx_b {t : TE} (h : gdT t) : (txE t).2.1.map (fun b env => b2i (b env)) = t.2.1 := by
  show (t.2.1.map (fun f env => decide (¬ f env = 0))).map (fun b env => b2i (b env)) = t.2.1
  cases hx : t.2.1 with
  | none => rfl
  | some F =>
    show some (fun env => b2i (decide (¬ F env = 0))) = some F
    congr 1
    funext env
    rcases (h.2.1 F hx).2 env with z | z
    · rw [z]; rfl
    · rw [z]; rfl
