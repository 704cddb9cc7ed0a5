/-! the model's codes, by what they leave -/
def CmN (es : List (Nat × Nat)) (F : EF) : Prop := ∀ (env : Nat → Int32) (vs : List Int32) (bs : List Bool), vs.length + es.length ≤ 330 → bs.length + es.length ≤ 330 → Wn env es vs bs (vs ++ [F env]) bs
def CmB (es : List (Nat × Nat)) (F : EF) : Prop := ∀ (env : Nat → Int32) (vs : List Int32) (bs : List Bool), vs.length + es.length ≤ 330 → bs.length + es.length ≤ 330 → Wn env es vs bs vs (bs ++ [decide (¬ F env = 0)])
theorem Wn.one {env : Nat → Int32} {o v : Nat} {vs vs' : List Int32} {ts ts' : List Bool} (h : W1 env o v vs ts vs' ts') : Wn env [(o, v)] vs ts vs' ts' := ⟨vs', ts', h, rfl, rfl⟩
theorem cm_num {v : Nat} (h : v ≤ 9999) : CmN [(0, v)] (fun _ => nI v) := fun env vs bs h1 h2 => Wn.one (Or.inl ⟨rfl, h, rfl, rfl, by have h1 : vs.length + 1 ≤ 330 := h1; omega⟩)
theorem cm_name {v : Nat} (h : v < 11) : CmN [(1, v)] (fun env => env v) := fun env vs bs h1 h2 => Wn.one (Or.inr (Or.inl ⟨rfl, h, rfl, rfl, by have h1 : vs.length + 1 ≤ 330 := h1; omega⟩))
theorem cm_neg {es : List (Nat × Nat)} {F : EF} (k : CmN es F) : CmN (es ++ [(2, 0)]) (fun env => - F env) := fun env vs bs h1 h2 => by
  rw [List.length_append, List.length_singleton] at h1 h2
  exact (k env vs bs (by omega) (by omega)).tr (Wn.one (Or.inr (Or.inr (Or.inl ⟨rfl, vs, F env, rfl, rfl, rfl⟩))))
theorem cm_bin {o : Nat} {es ds : List (Nat × Nat)} {a f : EF} (h3 : 3 ≤ o) (h6 : o ≤ 6) (k : CmN es a) (l : CmN ds f) : CmN (es ++ ds ++ [(o, 0)]) (jf (o + 24) a f) := fun env vs bs h1 h2 => by
  rw [List.length_append, List.length_append, List.length_singleton] at h1 h2
  exact ((k env vs bs (by omega) (by omega)).tr (l env (vs ++ [a env]) bs (by rw [List.length_append, List.length_singleton]; omega) (by omega))).tr (Wn.one (Or.inr (Or.inr (Or.inr (Or.inl ⟨h3, h6, vs, a env, f env, rfl, rfl, rfl⟩)))))
theorem hd_ne (p : Prop) [Decidable p] : decide (¬ hdF (if p then 1 else 0) = 0) = decide p := by
  by_cases h : p
  · rw [if_pos h, decide_eq_true h]; decide
  · rw [if_neg h, decide_eq_false h]; decide
theorem hd_nen (p : Prop) [Decidable p] : decide (¬ hdF (if p then 0 else 1) = 0) = decide (¬ p) := by
  by_cases h : p
  · rw [if_pos h, decide_eq_false (show ¬ ¬ p from fun z => z h)]; decide
  · rw [if_neg h, decide_eq_true h]; decide
theorem i64_eq {x y : Int32} : x.toInt64 = y.toInt64 ↔ x = y := ⟨fun h => Int32.toInt_inj.mp (by rw [← Int32.toInt_toInt64, h, Int32.toInt_toInt64]), fun h => by rw [h]⟩
theorem bc_hj {o : Nat} (h1 : 10 ≤ o) (h2 : o ≤ 15) (x y : Int32) : bcF o x y = decide (¬ hjF (o + 11) x y = 0) := by
  have cs : o = 10 ∨ o = 11 ∨ o = 12 ∨ o = 13 ∨ o = 14 ∨ o = 15 := by omega
  rcases cs with rfl | rfl | rfl | rfl | rfl | rfl
  · show decide (x < y) = decide (¬ hdF (if x.toInt64 < y.toInt64 then 1 else 0) = 0)
    rw [hd_ne, decide_eq_decide, Int32.toInt64_lt]
  · show decide (x ≤ y) = decide (¬ hdF (if x.toInt64 ≤ y.toInt64 then 1 else 0) = 0)
    rw [hd_ne, decide_eq_decide, Int32.toInt64_le]
  · show decide (y < x) = decide (¬ hdF (if y.toInt64 < x.toInt64 then 1 else 0) = 0)
    rw [hd_ne, decide_eq_decide, Int32.toInt64_lt]
  · show decide (y ≤ x) = decide (¬ hdF (if y.toInt64 ≤ x.toInt64 then 1 else 0) = 0)
    rw [hd_ne, decide_eq_decide, Int32.toInt64_le]
  · show decide (x = y) = decide (¬ hdF (if x.toInt64 = y.toInt64 then 1 else 0) = 0)
    rw [hd_ne, decide_eq_decide, i64_eq]
  · show decide (¬ x = y) = decide (¬ hdF (if x.toInt64 = y.toInt64 then 0 else 1) = 0)
    rw [hd_nen, decide_eq_decide, i64_eq]
theorem cm_cmp {o : Nat} {es ds : List (Nat × Nat)} {a f : EF} (h1 : 10 ≤ o) (h2 : o ≤ 15) (k : CmN es a) (l : CmN ds f) : CmB (es ++ ds ++ [(o, 0)]) (jf (o + 11) a f) := fun env vs bs q1 q2 => by
  rw [List.length_append, List.length_append, List.length_singleton] at q1 q2
  exact ((k env vs bs (by omega) (by omega)).tr (l env (vs ++ [a env]) bs (by rw [List.length_append, List.length_singleton]; omega) (by omega))).tr (Wn.one (Or.inr (Or.inr (Or.inr (Or.inr (Or.inl ⟨h1, h2, a env, f env, rfl, by rw [bc_hj h1 h2]; rfl, by omega⟩))))))
theorem cm_not {es : List (Nat × Nat)} {F : EF} (k : CmB es F) : CmB (es ++ [(20, 0)]) (fun env => if F env = 0 then 1 else 0) := fun env vs bs h1 h2 => by
  rw [List.length_append, List.length_singleton] at h1 h2
  refine (k env vs bs (by omega) (by omega)).tr (Wn.one (Or.inr (Or.inr (Or.inr (Or.inr (Or.inr (Or.inl ⟨rfl, bs, decide (¬ F env = 0), rfl, ?_, rfl⟩)))))))
  by_cases h : F env = 0
  · show bs ++ [decide (¬ (if F env = 0 then (1 : Int32) else 0) = 0)] = _
    rw [if_pos h, decide_eq_false (show ¬ ¬ F env = 0 from fun z => z h)]; rfl
  · show bs ++ [decide (¬ (if F env = 0 then (1 : Int32) else 0) = 0)] = _
    rw [if_neg h, decide_eq_true h]; rfl
theorem cm_and {es ds : List (Nat × Nat)} {a f : EF} (ha : blE a) (hf : blE f) (k : CmB es a) (l : CmB ds f) : CmB (es ++ ds ++ [(21, 0)]) (jf 17 a f) := fun env vs bs h1 h2 => by
  rw [List.length_append, List.length_append, List.length_singleton] at h1 h2
  refine ((k env vs bs (by omega) (by omega)).tr (l env vs (bs ++ [decide (¬ a env = 0)]) (by omega) (by rw [List.length_append, List.length_singleton]; omega))).tr (Wn.one (Or.inr (Or.inr (Or.inr (Or.inr (Or.inr (Or.inr (Or.inl ⟨rfl, bs, decide (¬ a env = 0), decide (¬ f env = 0), rfl, ?_, rfl⟩))))))))
  show bs ++ [decide (¬ hjF 17 (a env) (f env) = 0)] = _
  rcases ha env with x | x <;> rcases hf env with y | y <;> rw [x, y] <;> rfl
theorem cm_or {es ds : List (Nat × Nat)} {a f : EF} (ha : blE a) (hf : blE f) (k : CmB es a) (l : CmB ds f) : CmB (es ++ ds ++ [(22, 0)]) (jf 16 a f) := fun env vs bs h1 h2 => by
  rw [List.length_append, List.length_append, List.length_singleton] at h1 h2
  refine ((k env vs bs (by omega) (by omega)).tr (l env vs (bs ++ [decide (¬ a env = 0)]) (by omega) (by rw [List.length_append, List.length_singleton]; omega))).tr (Wn.one (Or.inr (Or.inr (Or.inr (Or.inr (Or.inr (Or.inr (Or.inr (Or.inl ⟨rfl, bs, decide (¬ a env = 0), decide (¬ f env = 0), rfl, ?_, rfl⟩)))))))))
  show bs ++ [decide (¬ hjF 16 (a env) (f env) = 0)] = _
  rcases ha env with x | x <;> rcases hf env with y | y <;> rw [x, y] <;> rfl
theorem cm_sel {es ds fs : List (Nat × Nat)} {c f e : EF} (k : CmB es c) (l : CmN ds f) (m : CmN fs e) : CmN (es ++ ds ++ fs ++ [(23, 0)]) (fun env => if c env = 0 then e env else f env) := fun env vs bs h1 h2 => by
  rw [List.length_append, List.length_append, List.length_append, List.length_singleton] at h1 h2
  refine (((k env vs bs (by omega) (by omega)).tr (l env vs (bs ++ [decide (¬ c env = 0)]) (by omega) (by rw [List.length_append, List.length_singleton]; omega))).tr (m env (vs ++ [f env]) (bs ++ [decide (¬ c env = 0)]) (by rw [List.length_append, List.length_singleton]; omega) (by rw [List.length_append, List.length_singleton]; omega))).tr (Wn.one (Or.inr (Or.inr (Or.inr (Or.inr (Or.inr (Or.inr (Or.inr (Or.inr ⟨rfl, vs, f env, e env, decide (¬ c env = 0), rfl, rfl, ?_⟩)))))))))
  by_cases h : c env = 0
  · show vs ++ [if c env = 0 then e env else f env] = _
    rw [if_pos h, decide_eq_false (show ¬ ¬ c env = 0 from fun z => z h)]; rfl
  · show vs ++ [if c env = 0 then e env else f env] = _
    rw [if_neg h, decide_eq_true h]; rfl
