/-! the class's text(): what stands stays -/
theorem ZG.km {Z Z1 : Zs} (z : ZG Z Z1) {a t : Nat} (k : KM Z a t) : KM Z1 a t := ⟨Nat.lt_of_lt_of_le k.1 z.1, by rw [(z.2.1 a k.1).1]; exact k.2⟩
theorem SE.grw {Z Z1 : Zs} {sa : Nat} (hE : SE Z sa) (z : ZG Z Z1) : SE Z1 sa := by
  obtain ⟨e0, e1, e2, ⟨a1, a2, a3, a4, a5⟩, ⟨b1, b2, b3⟩, ⟨c1, c2, c3⟩, ⟨d1, d2, d3⟩, ⟨f1, f2, f3⟩⟩ := hE
  have r : ∀ q, Z1.2.1 sa q = Z.2.1 sa q := fun q => z.2.2 sa q e1.1 (by omega) (by omega) (by omega)
  exact ⟨e0, z.km e1, by rw [r]; exact e2, ⟨by rw [r]; exact a1, z.km a2, by rw [z.2.2 (sa + 1) 0 a2.1 (by omega) (by omega) (by omega)]; exact a3, z.km a4, by rw [z.n a4]; exact a5⟩, ⟨by rw [r]; exact b1, z.km b2, by rw [z.n b2]; exact b3⟩, ⟨by rw [r]; exact c1, z.km c2, by rw [z.n c2]; exact c3⟩, ⟨by rw [r]; exact d1, z.km d2, by rw [z.n d2]; exact d3⟩, ⟨by rw [r]; exact f1, z.km f2, by rw [z.n f2]; exact f3⟩⟩
theorem PEz.grw {Z Z1 : Zs} {pa N : Nat} (hE : PEz Z pa N) (z : ZG Z Z1) : PEz Z1 pa N := by
  obtain ⟨e0, e1, e2, e3, ⟨a1, a2, a3⟩, ⟨b1, b2, b3⟩, ⟨c1, c2, c3⟩, ⟨d1, d2, d3⟩, ⟨f1, f2, f3⟩, ⟨g1, g2, g3⟩⟩ := hE
  have r : ∀ q, Z1.2.1 pa q = Z.2.1 pa q := fun q => z.2.2 pa q e1.1 (by omega) (by omega) (by omega)
  exact ⟨e0, z.km e1, by rw [r]; exact e2, by rw [r]; exact e3, ⟨by rw [r]; exact a1, z.km a2, by rw [z.n a2]; exact a3⟩, ⟨by rw [r]; exact b1, z.km b2, by rw [z.n b2]; exact b3⟩, ⟨by rw [r]; exact c1, z.km c2, by rw [z.n c2]; exact c3⟩, ⟨by rw [r]; exact d1, z.km d2, by rw [z.n d2]; exact d3⟩, ⟨by rw [r]; exact f1, z.km f2, by rw [z.n f2]; exact f3⟩, ⟨by rw [r]; exact g1, z.km g2, by rw [z.n g2]; exact g3⟩⟩
section CTY
variable {Z Z1 : Zs} {I I1 : Nat → Nat → Int32} {w h : Nat} {S K : Nat → List Nat} {tx tk : List TX} {t : TX} {n : Nat}
/-- a script of the new cells is an old one or the new one -/
theorem TxR.old (r : TxR Z I Z1 I1 t n) (hS : Sh Z) {sc ar : Nat} (k : KM Z1 sc 6) (hr : Z1.2.1 sc 0 = some ar) : (KM Z sc 6 ∧ Z.2.1 sc 0 = some ar) ∨ (sc = Z.2.2.2.1 ∧ ar = Z.2.2.2.1 + 1) := by
  obtain ⟨r1, r2, r3, r4, r5, r6, r7, r8, -⟩ := r
  by_cases h1 : sc < Z.2.2.2.1
  · refine Or.inl ⟨⟨h1, by rw [← (r1.2.1 sc h1).1]; exact k.2⟩, ?_⟩
    have h39 : sc ≠ 39 := fun e => hS.no6 39 (by decide) (by rw [← e, ← (r1.2.1 sc h1).1]; exact k.2)
    rw [← r4 sc 0 h1 (fun z => h39 z.1)]; exact hr
  · have k1 := k.1
    by_cases h2 : sc = Z.2.2.2.1
    · rw [h2, r8] at hr
      exact Or.inr ⟨h2, (Option.some.inj hr).symm⟩
    · have h3 : sc = Z.2.2.2.1 + 1 := by omega
      have k2 := k.2
      rw [h3, r7] at k2
      cases k2
theorem TxR.xf (r : TxR Z I Z1 I1 t n) (hS : Sh Z) {sa : Nat} (hl : sa + 6 < Z.2.2.2.1) (hX : XF Z sa) : XF Z1 sa := fun sc ar k hr => by
  rcases r.old hS k hr with ⟨a, b⟩ | ⟨a, b⟩
  · exact hX sc ar a b
  · omega
theorem TxR.si (r : TxR Z I Z1 I1 t n) (hS : Sh Z) (hX : SIz Z) : SIz Z1 := fun sc ar k hr => by
  rw [r.2.1]
  rcases r.old hS k hr with ⟨a, b⟩ | ⟨a, b⟩
  · have := hX sc ar a b; omega
  · omega
theorem TxR.rq (r : TxR Z I Z1 I1 t n) (hS : Sh Z) (hR : RQ Z) : RQ Z1 := fun a k b ha hk hb => by
  have h99 := hS.1
  by_cases he : a = 39 ∧ k = n
  · rw [he.1, he.2, r.2.2.2.2.1] at hb
    have hb := (Option.some.inj hb).symm
    rw [hb]
    exact ⟨h99, by rw [r.2.1]; omega, r.2.2.2.2.2.1⟩
  · rw [r.2.2.2.1 a k (by omega) he] at hb
    obtain ⟨x1, x2⟩ := hR a k b ha hk hb
    exact ⟨x1, r.1.km x2⟩
theorem TxR.sx (r : TxR Z I Z1 I1 t n) (hS : Sh Z) (hX : SXz Z I) : SXz Z1 I1 := fun sa h12 => by
  have h99 := hS.1
  rw [r.2.2.2.1 0 12 (by omega) (by omega)] at h12
  obtain ⟨e, x, m, m1, m2⟩ := hX sa h12
  have hl : sa + 6 < Z.2.2.2.1 := e.2.2.2.2.2.2.2.2.1.1
  have h9 := e.1
  exact ⟨e.grw r.1, r.xf hS hl x, m, m1, by rw [r.2.2.2.2.2.2.2.2.2.1 (sa + 1) (by omega) (by omega) (by omega)]; exact m2⟩
theorem TxR.px (r : TxR Z I Z1 I1 t n) (hS : Sh Z) (hX : PXz Z I w h) : PXz Z1 I1 w h := fun pa h13 => by
  have h99 := hS.1
  rw [r.2.2.2.1 0 13 (by omega) (by omega)] at h13
  obtain ⟨e, x, m1, m2⟩ := hX pa h13
  have hl : pa + 6 < Z.2.2.2.1 := e.2.2.2.2.2.2.2.2.2.2.1.1
  have h9 := e.1
  have q := r.2.2.2.2.2.2.2.2.2.1 pa (by omega) (by omega) (by omega)
  exact ⟨e.grw r.1, r.xf hS hl x, by rw [q]; exact m1, by rw [q]; exact m2⟩
theorem TxR.pot (r : TxR Z I Z1 I1 t n) (hS : Sh Z) : pxZ Z1 = pxZ Z + 2 ∧ psZ Z1 ≤ psZ Z + 604 := by
  have h99 := hS.1
  have a := r.2.2.2.1 0 12 (by omega) (by omega)
  have b := r.2.2.2.1 0 13 (by omega) (by omega)
  have r2 := r.2.1
  have r3 := r.2.2.1
  unfold pxZ psZ
  rw [a, b]
  exact ⟨by omega, by omega⟩
theorem TxR.ss (r : TxR Z I Z1 I1 t n) (hS : Sh Z) (b : SS Z I 24 w h K tk) : SS Z1 I1 24 w h K tk := by
  have h99 := hS.1
  have b1 : SS Z I1 24 w h K tk := b.kept (fun a ha => r.2.2.2.2.2.2.2.2.2.1 a (by
    rcases ha with ha | ha
    · unfold stS at ha; omega
    · omega) (by
    rcases ha with ha | ha
    · unfold stS at ha; omega
    · omega) (by
    rcases ha with ha | ha
    · unfold stS at ha; omega
    · omega))
  exact b1.g r.1 (Or.inr rfl) h99 (fun q _ => r.2.2.2.1 63 q (by omega) (by omega))
theorem WF.text (hW : WF w h S tx) (ht : TXok t) : WF w h S (tx ++ [t]) := by
  obtain ⟨h1, h2, h3, h4, h5, h6, h7, h8, h9, h10, h11, h12, h13, h14, h15, h16, h17⟩ := hW
  refine ⟨h1, h2, h3, h4, fun k v hk => ?_, h6, h7, h8, h9, h10, h11, h12, h13, h14, h15, h16, fun k t' hk => ?_⟩
  · have := h5 k v hk
    rw [List.length_append]; omega
  · by_cases hl : k < tx.length
    · rw [List.getElem?_append_left hl] at hk; exact h17 k t' hk
    · rw [List.getElem?_append_right (by omega)] at hk
      have hm := List.mem_of_getElem? hk
      rw [List.mem_singleton] at hm
      rw [hm]; exact ht
theorem TxR.cl (r : TxR Z I Z1 I1 t tx.length) (c : CL Z I w h S tx) (hn : tx.length < 4) (ht : TXok t) : CL Z1 I1 w h S (tx ++ [t]) := by
  obtain ⟨⟨hS, hw, k1, k2, k3, k4, k5, k6, k7⟩, hW, hm, hN, hK⟩ := c
  have h99 := hS.1
  obtain ⟨r1, r2, r3, r4, r5, r6, r7, r8, r9, r10, r11, r12⟩ := r
  have len : (tx ++ [t]).length = tx.length + 1 := by rw [List.length_append]; rfl
  have n67 := (r1.2.1 67 (by omega)).2
  refine ⟨⟨hS.g r1, hw, by rw [r11 0 (by decide)]; exact k1, by rw [r11 1 (by decide)]; exact k2, by rw [(r1.2.1 41 (by omega)).2]; exact k3, fun f hf => ?_, by rw [r12, len], by omega, fun k t' hk => ?_⟩, hW.text ht, ?_, by rw [n67]; exact hN, ?_⟩
  · have cs : (19 ≤ nA f ∧ nA f ≤ 37) ∨ nA f = 40 := by
      have : ∀ f, f < 11 → (19 ≤ nA f ∧ nA f ≤ 37) ∨ nA f = 40 := by decide
      exact this f hf
    exact ((k4 f hf).kept (I1 := I1) (by rw [r10 _ (by omega) (by omega) (by omega)]) (fun q _ => by rw [r10 _ (by omega) (by omega) (by omega)])).g r1 (by omega) (by omega) (by omega)
  · by_cases hl : k < tx.length
    · rw [List.getElem?_append_left hl] at hk
      obtain ⟨sc, s1, s2⟩ := k7 k t' hk
      exact ⟨sc, by rw [r4 39 k (by omega) (by omega)]; exact s1, (s2.kept (fun a h1 h2 => r10 a (by omega) (by omega) h2)).g r1⟩
    · rw [List.getElem?_append_right (by omega)] at hk
      have hm := List.mem_of_getElem? hk
      have hkl := (List.getElem?_eq_some_iff.mp hk).1
      rw [List.length_singleton] at hkl
      rw [List.mem_singleton] at hm
      have he : k = tx.length := by omega
      rw [hm, he]
      exact ⟨_, r5, r9⟩
  · have m1 : MQ0 Z I1 := hm.kept (by rw [r10 13 (by decide) (by decide) (by omega)]) (r10 15 (by decide) (by decide) (by omega))
    obtain ⟨q1, q2, q3, q4, q5, q6, q7, q8, q9⟩ := m1
    exact ⟨r1.km q1, by rw [r1.r q1 (by decide) (by decide) (by decide)]; exact q2, r1.km q3, by rw [r1.n q3]; exact q4, by rw [r1.r q1 (by decide) (by decide) (by decide)]; exact q5, r1.km q6, by rw [r1.n q6]; exact q7, q8, q9⟩
  · intro hb p tap h1 h2 h3
    rw [r10 67 (by decide) (by decide) (by omega)]
    rcases hK hb p tap h1 h2 h3 with z | ⟨t', z1, z2⟩
    · exact Or.inl z
    · exact Or.inr ⟨t', by rw [List.getElem?_append_left (List.getElem?_eq_some_iff.mp z1).1]; exact z1, z2⟩
end CTY
