/-! the model's text(): what stands stays -/
section MTX2
variable {Z : Zs} {I I1 : Nat → Nat → Int32} {w h : Nat} {S : Nat → List Nat} {tx : List TX} {t : TX} {f p : Int32}
theorem mB_7 : ∀ f, f < 11 → 7 ≤ mB f := by decide
theorem MR.t77 {n n' : Nat} (r : MR I 77 w h S n) (e : ∀ x, ¬ x = 1 → I1 77 x = I 77 x) (e1 : I1 77 1 = nI n') : MR I1 77 w h S n' := by
  obtain ⟨a, b0, b1, b2, b3, b4, b5, b6⟩ := r
  refine ⟨fun f hf => ⟨(a f hf).1, fun k v hk => ?_⟩, by rw [e 0 (by decide)]; exact b0, e1, by rw [e 2 (by decide)]; exact b2, by rw [e 3 (by decide)]; exact b3, by rw [e 4 (by decide)]; exact b4, by rw [e 5 (by decide)]; exact b5, by rw [e 6 (by decide)]; exact b6⟩
  have := mB_7 f hf
  rw [e _ (by omega)]
  exact (a f hf).2 k v hk
theorem MtC.mbN (c : MtC I I1 tx.length f p) (e1 : I1 77 1 = I 77 1) (m : MB Z I w h S tx) (hn : tx.length < 4) : MB Z I1 w h S tx := by
  obtain ⟨c1, c2, c3, c4, c5, c6, c7⟩ := c
  obtain ⟨⟨hS, hw, k2, k3, kr, kl, kt⟩, hW, hr⟩ := m
  refine ⟨⟨hS, hw, by rw [c6 2 (by decide)]; exact k2, by rw [c6 3 (by decide)]; exact k3, kr.t77 c7 (by rw [e1]; exact kr.2.2.1), kl, fun k t hk => ?_⟩, hW, by rw [c4 82 (by decide) (by decide) (by decide) (by decide)]; exact hr⟩
  have kk := (List.getElem?_eq_some_iff.mp hk).1
  exact (kt k t hk).k79 (fun x h1 h2 => c5 x (by omega))
theorem MtC.mb (c : MtC I I1 tx.length f p) (e1 : I1 77 1 = nI (tx.length + 1)) (ht : TM Z I1 tx.length t) (m : MB Z I w h S tx) (hn : tx.length < 4) (ok : TXok t) : MB Z I1 w h S (tx ++ [t]) := by
  obtain ⟨c1, c2, c3, c4, c5, c6, c7⟩ := c
  obtain ⟨⟨hS, hw, k2, k3, kr, kl, kt⟩, hW, hr⟩ := m
  have len : (tx ++ [t]).length = tx.length + 1 := by rw [List.length_append]; rfl
  refine ⟨⟨hS, hw, by rw [c6 2 (by decide)]; exact k2, by rw [c6 3 (by decide)]; exact k3, kr.t77 c7 (by rw [e1, len]), by omega, fun k t' hk => ?_⟩, hW.text ok, by rw [c4 82 (by decide) (by decide) (by decide) (by decide)]; exact hr⟩
  by_cases kk : k < tx.length
  · rw [List.getElem?_append_left kk] at hk
    exact (kt k t' hk).k79 (fun x h1 h2 => c5 x (by omega))
  · rw [List.getElem?_append_right (by omega)] at hk
    have hm := List.mem_of_getElem? hk
    have hkl := (List.getElem?_eq_some_iff.mp hk).1
    rw [List.length_singleton] at hkl
    rw [List.mem_singleton] at hm
    have he : k = tx.length := by omega
    rw [hm, he]; exact ht
end MTX2
