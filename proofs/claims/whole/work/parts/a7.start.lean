/-! what holds between two calls; and behind the two constructors -/
def Jv (Z : Zs) (I : Nat → Nat → Int32) (w h : Nat) (S K : Nat → List Nat) (tx tk : List TX) (tp : List Nat) (ts : List (Nat × Nat × Nat)) : Prop := CL Z I w h S tx ∧ MB Z I w h S tx ∧ SS Z I 24 w h K tk ∧ WF w h K tk ∧ TP tk tx ∧ MR I 78 w h K tk.length ∧ RQ Z ∧ SIz Z ∧ SXz Z I ∧ PXz Z I w h ∧ TKz Z I ts ∧ IL Z I 1 2 300 tp ∧ T8 tp ∧ MT I tp ∧ I 0 10 = I 76 7 ∧ I 0 11 = I 76 8
def S0z (w h : Nat) : Nat → List Nat := fun f => if f = 0 then List.replicate (w * h) 0 else []
section START
variable {Z : Zs} {I : Nat → Nat → Int32} {w h : Nat}
theorem il0z (hS : Sh Z) {o b cap : Nat} (h1 : (o, 2) ∈ shT) (h2 : (o, 0, b) ∈ shR) (h3 : (b, 13) ∈ shT) (h4 : (b, cap) ∈ shN) (ho : o < 99) (hb : b < 99) (hc : cap ≤ 60000) (hI : I o 1 = 0) : IL Z I o b cap [] :=
  ⟨hS.k o 2 h1 ho, hS.r o 0 b h2, hS.k b 13 h3 hb, hS.n b cap h4, hc, Nat.zero_le _, hI, fun k v hv => by simp at hv⟩
theorem S0_0 : S0z w h 0 = List.replicate (w * h) 0 := if_pos rfl
theorem S0_n {f : Nat} (hf : f ≠ 0) : S0z w h f = [] := if_neg hf
theorem WF0z : WF w h (S0z w h) [] := by
  have e : ∀ f, f ≠ 0 → ∀ (k : Nat) (v : Nat), ¬ (S0z w h f)[k]? = some v := fun f hf k v hv => by
    rw [S0_n hf] at hv; simp at hv
  refine ⟨by rw [S0_0, List.length_replicate], fun k v hv => ?_, rfl, fun k v hv => absurd hv (e 1 (by decide) k v), fun k v hv => absurd hv (e 2 (by decide) k v), fun k v hv => absurd hv (e 3 (by decide) k v), rfl, fun k v hv => absurd hv (e 4 (by decide) k v), fun k v hv => absurd hv (e 5 (by decide) k v), rfl, rfl, fun k v hv => absurd hv (e 6 (by decide) k v), fun k v hv => absurd hv (e 7 (by decide) k v), fun k v hv => absurd hv (e 8 (by decide) k v), fun k v hv => absurd hv (e 9 (by decide) k v), fun k v hv => absurd hv (e 10 (by decide) k v), fun k t ht => by simp at ht⟩
  rw [S0_0, List.getElem?_replicate] at hv
  by_cases hk : k < w * h
  · rw [if_pos hk] at hv
    cases hv
    exact Nat.zero_le _
  · rw [if_neg hk] at hv
    cases hv
theorem MR0z {a : Nat} (hI : ∀ q, I a q = 0) : MR I a w h (S0z w h) 0 := by
  have l : ∀ f, f ≠ 0 → (S0z w h f).length = 0 := fun f hf => by rw [S0_n hf]; rfl
  refine ⟨fun f hf => ?_, hI 0, hI 1, hI 2, hI 3, hI 4, hI 5, hI 6⟩
  by_cases hf0 : f = 0
  · subst hf0
    rw [S0_0, List.length_replicate]
    refine ⟨Nat.le_refl _, fun k v hv => ?_⟩
    rw [hI]
    rw [List.getElem?_replicate] at hv
    by_cases hk : k < w * h
    · rw [if_pos hk] at hv
      cases hv
      rfl
    · rw [if_neg hk] at hv
      cases hv
  · rw [S0_n hf0]
    exact ⟨Nat.zero_le _, fun k v hv => by simp at hv⟩
theorem SS0z (hS : Sh Z) {s : Nat} (hs : s = 0 ∨ s = 24) (hw : wh w h) (e : I (18 + s) = upd (upd (fun _ => 0) 0 (nI w)) 1 (nI h)) (k0 : I (40 + s) 1 = nI (w * h)) (k1 : ∀ k, k < w * h → I (41 + s) k = 0) (kn : Z.2.2.1 (41 + s) = w * h) (z : ∀ a, 19 + s ≤ a → a < 40 + s → I a = fun _ => 0) : SS Z I s w h (S0z w h) [] := by
  have hm : w * h ≤ 25 := Nat.le_trans (Nat.mul_le_mul hw.2.1 hw.2.2.2) (by decide)
  refine ⟨by rw [e]; rfl, by rw [e]; rfl, kn, fun f hf => ?_, by rw [e]; rfl, Nat.zero_le _, fun k t ht => by simp at ht⟩
  by_cases hf0 : f = 0
  · subst hf0
    rw [S0_0]
    have r1 : KM Z (40 + s) 2 ∧ Z.2.1 (40 + s) 0 = some (41 + s) ∧ KM Z (41 + s) 13 := by
      rcases hs with rfl | rfl
      · exact ⟨hS.k 40 2 (by decide) (by decide), hS.r 40 0 41 (by decide), hS.k 41 13 (by decide) (by decide)⟩
      · exact ⟨hS.k 64 2 (by decide) (by decide), hS.r 64 0 65 (by decide), hS.k 65 13 (by decide) (by decide)⟩
    have e40 : nA 0 + s = 40 + s := rfl
    have e41 : nA 0 + s + 1 = 41 + s := by rw [e40]; omega
    rw [e41, e40]
    refine ⟨r1.1, r1.2.1, r1.2.2, kn, by show w * h ≤ 60000; omega, by rw [List.length_replicate]; exact Nat.le_refl _, by rw [List.length_replicate]; exact k0, fun k v hv => ?_⟩
    rw [List.getElem?_replicate] at hv
    by_cases hk : k < w * h
    · rw [if_pos hk] at hv
      cases hv
      exact k1 k hk
    · rw [if_neg hk] at hv
      cases hv
  · rw [S0_n hf0, show cpF w h f = [0, 6, 6, 16, 30, 30, 20, 20, 20, 6, 6].getD f 0 from if_neg hf0]
    have cs : f = 1 ∨ f = 2 ∨ f = 3 ∨ f = 4 ∨ f = 5 ∨ f = 6 ∨ f = 7 ∨ f = 8 ∨ f = 9 ∨ f = 10 := by omega
    have hz : I (nA f + s) 1 = 0 := by
      have : ∀ f, f < 11 → f ≠ 0 → 19 ≤ nA f ∧ nA f < 40 := by decide
      obtain ⟨g1, g2⟩ := this f hf hf0
      rw [z _ (by omega) (by omega)]
    rcases hs with rfl | rfl
    · rcases cs with rfl | rfl | rfl | rfl | rfl | rfl | rfl | rfl | rfl | rfl <;> exact il0z hS (by decide) (by decide) (by decide) (by decide) (by decide) (by decide) (by decide) hz
    · rcases cs with rfl | rfl | rfl | rfl | rfl | rfl | rfl | rfl | rfl | rfl <;> exact il0z hS (by decide) (by decide) (by decide) (by decide) (by decide) (by decide) (by decide) hz
end START
theorem tMz : ∀ q ∈ shT, lkq cMz q.1 = q.2 := by decide +kernel
theorem rMzz : ∀ q ∈ shR, lkp rMz q.1 q.2.1 = some q.2.2 := by decide +kernel
theorem nMzz : ∀ n, n < 26 → (∀ q ∈ shN, lkq (nMz n) q.1 = q.2) ∧ lkq (nMz n) 41 = n ∧ lkq (nMz n) 65 = n ∧ lkq (nMz n) 67 = 64 * n := by decide +kernel
theorem r39z : ∀ k, k < 4 → lkp rMz 39 k = none ∧ lkp rMz 63 k = none := by decide +kernel
theorem c6z : ∀ a, a < 99 → lkq cMz a ≠ 6 := by decide +kernel
set_option maxHeartbeats 1000000 in
theorem jv_start {g : GE} (x1 x2 : Int32) : ∃ w h Mx Z I L, Cl g 5 mu_X11_init [rf g 0, .int x1, .int x2] (nwD M0z 11 14) none Mx ∧ mx Mx = 76 ∧ Cl g 2 mu_X12_init [rf g 76, .int x1, .int x2] (nwD Mx 12 43) none (Z, I, L) ∧ Jv Z I w h (S0z w h) (S0z w h) [] [] [] [] ∧ pxZ Z ≤ 113 ∧ psZ Z ≤ 200000 := by
  obtain ⟨w, w1, w2, w3, w4⟩ := cw_of x1
  obtain ⟨h, h1, h2, h3, h4⟩ := cw_of x2
  have hw : wh w h := ⟨w1, w2, h1, h2⟩
  have hm : w * h ≤ 25 := Nat.le_trans (Nat.mul_le_mul w2 h2) (by decide)
  obtain ⟨Mx, Ix, s, hs, cx1, dx, f10, f11, f18, f40, f67, fo⟩ := sp_x11 (g := g) hw w3 h3
  obtain ⟨M, I, s1, hs1, cm, d, m76, m78, mo⟩ := sp_x12 (g := g) dx hs w4 h4
  have eI : M.2.1 = I := funext d.i
  obtain ⟨n1, n2, n3, n4⟩ := nMzz (w * h) (by omega)
  have hS : Sh M.1 := ⟨by show 99 ≤ cx M; rw [d.1]; exact Nat.le_refl _, fun q hq => (d.2.2.1 q.1).trans (tMz q hq), fun q hq => d.r (rMzz q hq), fun q hq => d.n (n1 q hq)⟩
  have z : ∀ a, a ≠ 0 → a ≠ 18 → a ≠ 42 → a ≠ 40 → a ≠ 41 → a ≠ 64 → a ≠ 65 → a ≠ 67 → a ≠ 76 → a ≠ 78 → I a = fun _ => 0 := fun a a1 a2 a3 a4 a5 a6 a7 a8 a9 a10 => by rw [mo a a9 a10]; exact fo a a1 a2 a3 a4 a5 a6 a7 a8
  have s0 : SS M.1 I 0 w h (S0z w h) [] := SS0z hS (Or.inl rfl) hw (by rw [mo _ (by decide) (by decide)]; exact f18 18 (Or.inl rfl)) (by rw [mo _ (by decide) (by decide)]; exact (f40 40 (Or.inl rfl)).1) (fun k hk => by rw [mo _ (by decide) (by decide)]; exact (f40 40 (Or.inl rfl)).2 k hk) (d.n n2) (fun a a1 a2 => z a (by omega) (by omega) (by omega) (by omega) (by omega) (by omega) (by omega) (by omega) (by omega) (by omega))
  have s24 : SS M.1 I 24 w h (S0z w h) [] := SS0z hS (Or.inr rfl) hw (by rw [mo _ (by decide) (by decide)]; exact f18 42 (Or.inr rfl)) (by rw [mo _ (by decide) (by decide)]; exact (f40 64 (Or.inr rfl)).1) (fun k hk => by rw [mo _ (by decide) (by decide)]; exact (f40 64 (Or.inr rfl)).2 k hk) (d.n n3) (fun a a1 a2 => z a (by omega) (by omega) (by omega) (by omega) (by omega) (by omega) (by omega) (by omega) (by omega) (by omega))
  have z1 : I 1 1 = 0 := by rw [z 1 (by decide) (by decide) (by decide) (by decide) (by decide) (by decide) (by decide) (by decide) (by decide) (by decide)]
  have z5 : I 5 1 = 0 := by rw [z 5 (by decide) (by decide) (by decide) (by decide) (by decide) (by decide) (by decide) (by decide) (by decide) (by decide)]
  have z7 : I 7 1 = 0 := by rw [z 7 (by decide) (by decide) (by decide) (by decide) (by decide) (by decide) (by decide) (by decide) (by decide) (by decide)]
  have z9 : I 9 1 = 0 := by rw [z 9 (by decide) (by decide) (by decide) (by decide) (by decide) (by decide) (by decide) (by decide) (by decide) (by decide)]
  have z13 : I 13 2 = 0 := by rw [z 13 (by decide) (by decide) (by decide) (by decide) (by decide) (by decide) (by decide) (by decide) (by decide) (by decide)]
  have z77 : ∀ q, I 77 q = 0 := fun q => by rw [z 77 (by decide) (by decide) (by decide) (by decide) (by decide) (by decide) (by decide) (by decide) (by decide) (by decide)]
  have z82 : ∀ q, I 82 q = 0 := fun q => by rw [z 82 (by decide) (by decide) (by decide) (by decide) (by decide) (by decide) (by decide) (by decide) (by decide) (by decide)]
  have r12 : M.1.2.1 0 12 = none := d.r (by decide +kernel)
  have r13 : M.1.2.1 0 13 = none := d.r (by decide +kernel)
  have cl : CL M.1 I w h (S0z w h) [] := by
    refine ⟨s0.cs hS hw, WF0z, ⟨hS.k 13 4 (by decide) (by decide), hS.r 13 0 14 (by decide), hS.k 14 13 (by decide) (by decide), hS.n 14 11 (by decide), hS.r 13 1 15 (by decide), hS.k 15 13 (by decide) (by decide), hS.n 15 64 (by decide), by decide, Nat.zero_le _, z13, fun k v hv => by simp at hv⟩, d.n n4, fun hb p tap b1 b2 b3 => Or.inl ?_⟩
    have b4 : hb * (4 * (w * h)) ≤ 3 * (4 * (w * h)) := Nat.mul_le_mul_right _ (by omega)
    rw [mo 67 (by decide) (by decide)]
    exact f67 _ (by omega)
  have mb : MB M.1 I w h (S0z w h) [] := ⟨⟨hS, hw, by rw [m76]; rfl, by rw [m76]; rfl, MR0z z77, Nat.zero_le _, fun k t ht => by simp at ht⟩, WF0z, fun j _ => by rw [z82 j]; exact ⟨by decide, by decide⟩⟩
  refine ⟨w, h, Mx, M.1, I, M.2.2, cx1, dx.1, ?_, ⟨cl, mb, s24, WF0z, fun k t ht => ht, MR0z m78, ?_, ?_, ?_, ?_, ⟨il0z hS (by decide) (by decide) (by decide) (by decide) (by decide) (by decide) (by decide) z5, il0z hS (by decide) (by decide) (by decide) (by decide) (by decide) (by decide) (by decide) z7, il0z hS (by decide) (by decide) (by decide) (by decide) (by decide) (by decide) (by decide) z9⟩, il0z hS (by decide) (by decide) (by decide) (by decide) (by decide) (by decide) (by decide) z1, fun k v hv => by simp at hv, ⟨by rw [m76]; rfl, Nat.zero_le _, fun k v hv => by simp at hv⟩, ?_, ?_⟩, ?_, ?_⟩
  · rw [← eI]; exact cm
  · intro a k b ha hk hb
    have hn : M.1.2.1 a k = none := by
      rcases ha with rfl | rfl
      · exact d.r (r39z k hk).1
      · exact d.r (r39z k hk).2
    rw [hn] at hb
    cases hb
  · intro sc ar hk _
    have h99 : sc < 99 := by have := hk.1; have e : M.1.2.2.2.1 = 99 := d.1; omega
    exact absurd ((d.2.2.1 sc).symm.trans hk.2) (c6z sc h99)
  · intro sa e
    rw [r12] at e
    cases e
  · intro sa e
    rw [r13] at e
    cases e
  · rw [mo 0 (by decide) (by decide), f10, m76]; rfl
  · rw [mo 0 (by decide) (by decide), f11, m76]; rfl
  · unfold pxZ
    rw [r12, r13, if_pos rfl]
    have e : M.1.2.2.2.1 = 99 := d.1
    omega
  · unfold psZ
    rw [r12, r13, if_pos rfl, if_pos rfl]
    have e : M.1.2.2.2.2 = s1 := d.2.1
    omega
