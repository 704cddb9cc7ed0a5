/-! the model's text() -/
theorem wn_le {env : Nat → Int32} : ∀ {cs : List (Nat × Nat)} {vs ts vs' ts'}, Wn env cs vs ts vs' ts' → ∀ q ∈ cs, q.1 < 100
  | [], _, _, _, _, _, q, hq => by cases hq
  | c :: cs, vs, ts, vs', ts', h, q, hq => by
    obtain ⟨v1, t1, h1, h2⟩ := h
    rcases List.mem_cons.mp hq with rfl | hq
    · unfold W1 at h1; omega
    · exact wn_le h2 q hq
section MTEXT
variable {g : GE} {Z : Zs} {I : Nat → Nat → Int32} {L : Nat → Nat → Int64} {tp : List Nat} {ts : List (Nat × Nat × Nat)} {k : Nat}
/-- one clause of the text in the model's own form -/
theorem cm_of {i : Nat} {cs : List (Nat × Nat)} {cl : List (Nat × Nat × Nat)} {t : TE} (h : TSt I L k tp ts i cs cl t) {s : Nat} (hs : s < 3) {Q : List (Nat × Nat) → Prop} (hQ : ∀ f es, gtE t s = some f → (if s = 1 then CmB es f ∧ blE f else CmN es f) → es.length ≤ 302 → Q es ∧ ∀ q ∈ es, q.1 < 100) : CM Z I k s Q (gtE t s).isSome := by
  obtain ⟨hM, hk, hc, h20, hb, hi, ⟨tb0, tb1⟩, hcn, hmc, h23⟩ := h
  have k4 := hc.1
  have c3 := cnt_le t
  have ne : ∀ (j : Nat) q, cl[j]? = some q → ¬ q.1 = s → ¬ I 79 (620 * k + 1 + 3 * j) = nI s := fun j q hj hn z => by
    obtain ⟨a, b, -⟩ := tb1 j q hj
    rw [b, nI_eq (by omega) (by omega)] at z
    exact hn z
  have m := hmc s hs
  refine ⟨cl.length, by omega, tb0, fun hf j hj => ?_, fun ht => ?_⟩
  · cases hg : gtE t s with
    | some f => rw [hg] at hf; cases hf
    | none =>
      rw [hg] at m
      have m : ∀ (j : Nat) q, cl[j]? = some q → ¬ q.1 = s := m
      exact ne j _ (List.getElem?_eq_getElem hj) (m j _ (List.getElem?_eq_getElem hj))
  · cases hg : gtE t s with
    | none => rw [hg] at ht; cases ht
    | some f =>
      rw [hg] at m
      obtain ⟨j, pre, es, post, a, b, c, d⟩ := m
      obtain ⟨-, t1, t2, t3⟩ := tb1 j _ a
      have hl : pre.length + es.length ≤ cs.length := by rw [c]; simp only [List.length_append]; omega
      have h302 := hc.2.2.2.1
      obtain ⟨q1, q2⟩ := hQ f es hg d (by omega)
      have jl := (List.getElem?_eq_some_iff.mp a).1
      refine ⟨j, pre.length, es, jl, t1, fun j2 h2 => ne j2 _ (List.getElem?_eq_getElem (by omega)) (b j2 _ h2 (List.getElem?_eq_getElem (by omega))), t2, t3, by omega, fun m q hm => ?_, q1⟩
      have ml := (List.getElem?_eq_some_iff.mp hm).1
      have hcs : cs[pre.length + m]? = some q := by
        rw [c, List.getElem?_append_left (by rw [List.length_append]; omega), List.getElem?_append_right (by omega), Nat.add_sub_cancel_left]; exact hm
      obtain ⟨x1, x2⟩ := hc.2.2.2.2 _ q hcs
      exact ⟨by omega, q2 q (List.mem_of_getElem? hm), x1, x2⟩
theorem tm_of {i : Nat} {cs : List (Nat × Nat)} {cl : List (Nat × Nat × Nat)} {t : TE} (h : TSt I L k tp ts i cs cl t) : TM Z I k (txE t) := by
  have num : ∀ f es, CmN es f → es.length ≤ 302 → (∀ env : Nat → Int32, Wn env es [] [] [f env] []) ∧ ∀ q ∈ es, q.1 < 100 := fun f es hc hl => by
    have w := fun env => hc env [] [] (by show 0 + es.length ≤ 330; omega) (by show 0 + es.length ≤ 330; omega)
    exact ⟨w, wn_le (w (fun _ => 0))⟩
  refine ⟨?_, ?_, ?_⟩
  · refine cm_of (Z := Z) h (s := 0) (by decide) (fun f es hg hc hl => ?_)
    obtain ⟨a, b⟩ := num f es hc hl
    exact ⟨fun f2 e2 env _ => by
      have e : f = f2 := Option.some.inj (hg.symm.trans e2)
      rw [← e]; exact a env, b⟩
  · have e1 : (txE t).2.1.isSome = (gtE t 1).isSome := by
      show (t.2.1.map (fun f env => decide (¬ f env = 0))).isSome = t.2.1.isSome
      cases t.2.1 <;> rfl
    rw [e1]
    refine cm_of (Z := Z) h (s := 1) (by decide) (fun f es hg hc hl => ?_)
    have hc : CmB es f ∧ blE f := hc
    have w := fun env => hc.1 env [] [] (by show 0 + es.length ≤ 330; omega) (by show 0 + es.length ≤ 330; omega)
    refine ⟨fun f2 e2 env _ => ?_, wn_le (w (fun _ => 0))⟩
    have e2 : t.2.1.map (fun f env => decide (¬ f env = 0)) = some f2 := e2
    have hg : t.2.1 = some f := hg
    rw [hg] at e2
    have e := Option.some.inj e2
    rw [← e]; exact w env
  · refine cm_of (Z := Z) h (s := 2) (by decide) (fun f es hg hc hl => ?_)
    obtain ⟨a, b⟩ := num f es hc hl
    exact ⟨fun f2 e2 env _ => by
      have e : f = f2 := Option.some.inj (hg.symm.trans e2)
      rw [← e]; exact a env, b⟩
end MTEXT
