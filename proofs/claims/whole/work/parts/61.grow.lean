/-! the cells grow: what stays -/
def ZG (Z Z1 : Zs) : Prop := Z.2.2.2.1 ≤ Z1.2.2.2.1 ∧ (∀ a, a < Z.2.2.2.1 → Z1.1 a = Z.1 a ∧ Z1.2.2.1 a = Z.2.2.1 a) ∧ ∀ a k, a < Z.2.2.2.1 → a ≠ 39 → a ≠ 63 → ¬ (a = 0 ∧ 12 ≤ k) → Z1.2.1 a k = Z.2.1 a k
theorem ZG.refl (Z : Zs) : ZG Z Z := ⟨Nat.le_refl _, fun _ _ => ⟨rfl, rfl⟩, fun _ _ _ _ _ _ => rfl⟩
theorem ZG.trans {Z Z1 Z2 : Zs} (h : ZG Z Z1) (k : ZG Z1 Z2) : ZG Z Z2 := ⟨Nat.le_trans h.1 k.1, fun a ha => by
  obtain ⟨h1, h2⟩ := h.2.1 a ha
  obtain ⟨k1, k2⟩ := k.2.1 a (Nat.lt_of_lt_of_le ha h.1)
  exact ⟨k1.trans h1, k2.trans h2⟩, fun a q ha h1 h2 h3 => (k.2.2 a q (Nat.lt_of_lt_of_le ha h.1) h1 h2 h3).trans (h.2.2 a q ha h1 h2 h3)⟩
section GROW
variable {Z Z1 : Zs} {I : Nat → Nat → Int32} {w h : Nat} {S : Nat → List Nat} {tx : List TX}
theorem KM.g {a t : Nat} (k : KM Z a t) (z : ZG Z Z1) : KM Z1 a t := ⟨Nat.lt_of_lt_of_le k.1 z.1, ((z.2.1 a k.1).1).trans k.2⟩
theorem ZG.n (z : ZG Z Z1) {a t : Nat} (k : KM Z a t) : Z1.2.2.1 a = Z.2.2.1 a := (z.2.1 a k.1).2
theorem ZG.r (z : ZG Z Z1) {a t q : Nat} (k : KM Z a t) (h1 : a ≠ 39) (h2 : a ≠ 63) (h3 : a ≠ 0) : Z1.2.1 a q = Z.2.1 a q := z.2.2 a q k.1 h1 h2 (fun e => h3 e.1)
theorem IL.g {o b cap : Nat} {xs : List Nat} (k : IL Z I o b cap xs) (z : ZG Z Z1) (h1 : o ≠ 39) (h2 : o ≠ 63) (h3 : o ≠ 0) : IL Z1 I o b cap xs := by
  obtain ⟨k1, k2, k3, k4, k5, k6, k7, k8⟩ := k
  exact ⟨k1.g z, by rw [z.r k1 h1 h2 h3]; exact k2, k3.g z, by rw [z.n k3]; exact k4, k5, k6, k7, k8⟩
theorem OA.g {a : Nat} {xs : List Nat} (k : OA Z I a xs) (z : ZG Z Z1) : OA Z1 I a xs := ⟨k.1.g z, by rw [z.n k.1]; exact k.2.1, k.2.2.1, k.2.2.2⟩
theorem TC.g {sc : Nat} {t : TX} (k : TC Z I sc t) (z : ZG Z Z1) : TC Z1 I sc t := by
  obtain ⟨h1, h2, ar, ords, h3, h4, h5, h6, h7, h8⟩ := k
  exact ⟨h1, h2.g z, ar, ords, h3, by rw [z.r h2 (by omega) (by omega) (by omega)]; exact h4, h5.g z, h6, h7, h8⟩
theorem Sh.g (k : Sh Z) (z : ZG Z Z1) : Sh Z1 := by
  have k1 := k.1
  refine ⟨Nat.le_trans k.1 z.1, fun q hq => ?_, fun q hq => ?_, fun q hq => ?_⟩
  · have hl : ∀ q ∈ shT, q.1 < 99 := by decide
    rw [(z.2.1 q.1 (by have := hl q hq; omega)).1]; exact k.2.1 q hq
  · have hl : ∀ q ∈ shR, q.1 < 99 ∧ q.1 ≠ 39 ∧ q.1 ≠ 63 ∧ ¬ (q.1 = 0 ∧ 12 ≤ q.2.1) := by decide
    obtain ⟨a1, a2, a3, a4⟩ := hl q hq
    rw [z.2.2 q.1 q.2.1 (by omega) a2 a3 a4]; exact k.2.2.1 q hq
  · have hl : ∀ q ∈ shN, q.1 < 99 := by decide
    rw [(z.2.1 q.1 (by have := hl q hq; omega)).2]; exact k.2.2.2 q hq
theorem MS.g {s : List Int32} (k : MS Z I 13 14 15 s) (z : ZG Z Z1) : MS Z1 I 13 14 15 s := by
  obtain ⟨a1, a2, a3, a4, a5, a6, a7, a8, a9, a10, a11⟩ := k
  exact ⟨a1.g z, by rw [z.r a1 (by decide) (by decide) (by decide)]; exact a2, a3.g z, by rw [z.n a3]; exact a4, by rw [z.r a1 (by decide) (by decide) (by decide)]; exact a5, a6.g z, by rw [z.n a6]; exact a7, a8, a9, a10, a11⟩
/-- the state at now (s = 0) or at kept (s = 24) -/
def SS (Z : Zs) (I : Nat → Nat → Int32) (s w h : Nat) (S : Nat → List Nat) (tx : List TX) : Prop := I (18 + s) 0 = nI w ∧ I (18 + s) 1 = nI h ∧ Z.2.2.1 (41 + s) = w * h ∧ (∀ f, f < 11 → IL Z I (nA f + s) (nA f + s + 1) (cpF w h f) (S f)) ∧ I (18 + s) 14 = nI tx.length ∧ tx.length ≤ 4 ∧ ∀ (k : Nat) t, tx[k]? = some t → ∃ sc, Z.2.1 (39 + s) k = some sc ∧ TC Z I sc t
theorem CS.ss (k : CS Z I w h S tx) : SS Z I 0 w h S tx := k.2.2
theorem SS.cs (k : SS Z I 0 w h S tx) (hS : Sh Z) (hw : wh w h) : CS Z I w h S tx := ⟨hS, hw, k⟩
theorem SS.g {s : Nat} (k : SS Z I s w h S tx) (z : ZG Z Z1) (hs : s = 0 ∨ s = 24) (hZ : 99 ≤ Z.2.2.2.1) (hr : ∀ q, q < 4 → Z1.2.1 (39 + s) q = Z.2.1 (39 + s) q) : SS Z1 I s w h S tx := by
  obtain ⟨k1, k2, k3, k4, k5, k6, k7⟩ := k
  refine ⟨k1, k2, ?_, fun f hf => ?_, k5, k6, fun q t hq => ?_⟩
  · rw [(z.2.1 (41 + s) (by omega)).2]; exact k3
  · obtain ⟨b1, b2, b3⟩ := nA_in f hf
    exact (k4 f hf).g z (by omega) (by
      intro e
      rcases hs with rfl | rfl
      · omega
      · omega) (by omega)
  · obtain ⟨sc, h1, h2⟩ := k7 q t hq
    have hl := (List.getElem?_eq_some_iff.mp hq).1
    exact ⟨sc, by rw [hr q (by omega)]; exact h1, h2.g z⟩
theorem CS.g (k : CS Z I w h S tx) (z : ZG Z Z1) (hr : ∀ q, q < 4 → Z1.2.1 39 q = Z.2.1 39 q) : CS Z1 I w h S tx := SS.cs (k.ss.g z (Or.inl rfl) k.1.1 hr) (k.1.g z) k.2.1
theorem CL.g (c : CL Z I w h S tx) (z : ZG Z Z1) (hr : ∀ q, q < 4 → Z1.2.1 39 q = Z.2.1 39 q) : CL Z1 I w h S tx := by
  obtain ⟨k, hW, hm, hN, hK⟩ := c
  exact ⟨k.g z hr, hW, MS.g hm z, by rw [(z.2.1 67 (by have := k.1.1; omega)).2]; exact hN, hK⟩
theorem MM.g (k : MM Z I w h S tx) (z : ZG Z Z1) : MM Z1 I w h S tx := ⟨k.1.g z, k.2.1, k.2.2.1, k.2.2.2.1, k.2.2.2.2.1, k.2.2.2.2.2.1, k.2.2.2.2.2.2⟩
theorem MB.g (m : MB Z I w h S tx) (z : ZG Z Z1) : MB Z1 I w h S tx := ⟨m.1.g z, m.2.1, m.2.2⟩
/-- the cells of a state -/
def stS (s a : Nat) : Prop := (18 + s ≤ a ∧ a ≤ 38 + s) ∨ a = 40 + s ∨ a = 41 + s
theorem SS.kept {s : Nat} {I1 : Nat → Nat → Int32} (k : SS Z I s w h S tx) (hf : ∀ a, stS s a ∨ (99 ≤ a ∧ a < Z.2.2.2.1) → I1 a = I a) : SS Z I1 s w h S tx := by
  obtain ⟨k1, k2, k3, k4, k5, k6, k7⟩ := k
  have e18 : I1 (18 + s) = I (18 + s) := hf _ (Or.inl (Or.inl ⟨Nat.le_refl _, by omega⟩))
  refine ⟨by rw [e18]; exact k1, by rw [e18]; exact k2, k3, fun f hf2 => ?_, by rw [e18]; exact k5, k6, fun q t hq => ?_⟩
  · have cs : (19 ≤ nA f ∧ nA f ≤ 37) ∨ nA f = 40 := by
      have : ∀ f, f < 11 → (19 ≤ nA f ∧ nA f ≤ 37) ∨ nA f = 40 := by decide
      exact this f hf2
    exact (k4 f hf2).kept (by rw [hf _ (Or.inl (by unfold stS; omega))]) (fun j _ => by rw [hf _ (Or.inl (by unfold stS; omega))])
  · obtain ⟨sc, h1, h2⟩ := k7 q t hq
    exact ⟨sc, h1, h2.kept (fun a h3 h4 => hf a (Or.inr ⟨h3, h4⟩))⟩
/-- what the rows of scripts hold are scripts -/
def RQ (Z : Zs) : Prop := ∀ a k b, (a = 39 ∨ a = 63) → k < 4 → Z.2.1 a k = some b → 99 ≤ b ∧ KM Z b 6
end GROW
/-! State.copyFrom -/
section SCOPY
variable {g : GE} {Z : Zs} {I : Nat → Nat → Int32} {L : Nat → Nat → Int64} {w h : Nat} {S K : Nat → List Nat} {tx tk : List TX}
theorem st_r (hS : Sh Z) {s : Nat} (hs : s = 0 ∨ s = 24) : ∀ f, f < 11 → Z.2.1 (18 + s) (f + 2) = some (nA f + s) := by
  intro f hf
  have cs : f = 0 ∨ f = 1 ∨ f = 2 ∨ f = 3 ∨ f = 4 ∨ f = 5 ∨ f = 6 ∨ f = 7 ∨ f = 8 ∨ f = 9 ∨ f = 10 := by omega
  rcases hs with rfl | rfl
  · rcases cs with rfl | rfl | rfl | rfl | rfl | rfl | rfl | rfl | rfl | rfl | rfl <;> exact hS.r 18 _ _ (by decide)
  · rcases cs with rfl | rfl | rfl | rfl | rfl | rfl | rfl | rfl | rfl | rfl | rfl <;> exact hS.r 42 _ _ (by decide)
theorem st_k (hS : Sh Z) {s : Nat} (hs : s = 0 ∨ s = 24) : KM Z (18 + s) 8 ∧ KM Z (39 + s) 16 ∧ Z.2.1 (18 + s) 13 = some (39 + s) ∧ Z.2.2.1 (39 + s) = 4 := by
  rcases hs with rfl | rfl
  · exact ⟨hS.k 18 8 (by decide) (by decide), hS.k 39 16 (by decide) (by decide), hS.r 18 13 39 (by decide), hS.n 39 4 (by decide)⟩
  · exact ⟨hS.k 42 8 (by decide) (by decide), hS.k 63 16 (by decide) (by decide), hS.r 42 13 63 (by decide), hS.n 63 4 (by decide)⟩
/-- the first f lists are copied -/
def CH (Z : Zs) (I0 I : Nat → Nat → Int32) (s1 s2 w h : Nat) (S K : Nat → List Nat) (f : Nat) : Prop := (∀ j, j < 11 → IL Z I (nA j + s1) (nA j + s1 + 1) (cpF w h j) (if j < f then K j else S j)) ∧ (∀ j, j < 11 → IL Z I (nA j + s2) (nA j + s2 + 1) (cpF w h j) (K j)) ∧ ∀ a, ¬ (19 + s1 ≤ a ∧ a ≤ 41 + s1 ∧ a ≠ 39 + s1) → I a = I0 a
theorem ch_step {I0 : Nat → Nat → Int32} {s1 s2 f : Nat} (hs : (s1 = 0 ∧ s2 = 24) ∨ (s1 = 24 ∧ s2 = 0)) (hf : f < 11) (c : CH Z I0 I s1 s2 w h S K f) : ∃ I1, Cl g 2 mu_X2_copyFrom [rf g (nA f + s1), rf g (nA f + s2)] (Z, I, L) none (Z, I1, L) ∧ CH Z I0 I1 s1 s2 w h S K (f + 1) := by
  obtain ⟨c1, c2, c3⟩ := c
  obtain ⟨I1, d1, d2, d3⟩ := sp_copyFrom (g := g) (L := L) (c1 f hf) (c2 f hf) (c2 f hf).2.2.2.2.2.1
  obtain ⟨b1, b2, b3⟩ := nA_in f hf
  refine ⟨I1, d1, fun j hj => ?_, fun j hj => ?_, fun a ha => by rw [d3 a (by omega) (by omega)]; exact c3 a ha⟩
  · by_cases hjf : j = f
    · subst hjf
      rw [if_pos (by omega)]; exact d2
    · have e : (if j < f + 1 then K j else S j) = (if j < f then K j else S j) := by
        by_cases h1 : j < f
        · rw [if_pos h1, if_pos (by omega)]
        · rw [if_neg h1, if_neg (by omega)]
      rw [e]
      obtain ⟨a1, a2, a3, a4⟩ := nA_apart j hj f hf hjf
      exact (c1 j hj).kept (by rw [d3 _ (by omega) (by omega)]) (fun q _ => by rw [d3 _ (by omega) (by omega)])
  · obtain ⟨e1, e2, e3⟩ := nA_in j hj
    exact (c2 j hj).kept (by rw [d3 _ (by omega) (by omega)]) (fun q _ => by rw [d3 _ (by omega) (by omega)])
/-- the same cells but for the references of c -/
def ZB (Z Z1 : Zs) (c : Nat) : Prop := Z1.1 = Z.1 ∧ Z1.2.2 = Z.2.2 ∧ ∀ a, a ≠ c → Z1.2.1 a = Z.2.1 a
theorem ZB.km {Z1 : Zs} {c a t : Nat} (z : ZB Z Z1 c) (k : KM Z a t) : KM Z1 a t := by
  unfold KM at k ⊢
  rw [z.1, z.2.1]; exact k
theorem ZB.zg {Z1 : Zs} {c : Nat} (z : ZB Z Z1 c) (hc : c = 39 ∨ c = 63) : ZG Z Z1 := by
  refine ⟨by rw [z.2.1]; exact Nat.le_refl _, fun a _ => ⟨by rw [z.1], by rw [z.2.1]⟩, fun a k _ h1 h2 _ => by rw [z.2.2 a (by omega)]⟩
theorem cy_run {Z0 : Zs} {s1 s2 : Nat} (hs : (s1 = 0 ∧ s2 = 24) ∨ (s1 = 24 ∧ s2 = 0)) (hS : Sh Z0) (hq : RQ Z0) : ∀ (d j : Nat) (Z : Zs), j + d = 4 → ZB Z0 Z (39 + s1) → (∀ k, k < j → Z.2.1 (39 + s1) k = Z0.2.1 (39 + s2) k) →
    ∃ Z1, Lp_X8_copyFrom_123 g 3 (18 + s1) (18 + s2) (nI j) (Z, I, L) none (Z1, rw1 I (18 + s1) (upd (I (18 + s1)) 14 (I (18 + s2) 14)), L) ∧ ZB Z0 Z1 (39 + s1) ∧ ∀ k, k < 4 → Z1.2.1 (39 + s1) k = Z0.2.1 (39 + s2) k := by
  obtain ⟨a1, a2, a3, a4⟩ := st_k hS (s := s1) (by omega)
  obtain ⟨e1, e2, e3, e4⟩ := st_k hS (s := s2) (by omega)
  intro d
  induction d with
  | zero =>
    intro j Z hj z hk
    have hj : j = 4 := hj
    subst hj
    refine ⟨Z, wp_X8_copyFrom_123 (M := (Z, I, L)) (z.km a1) (z.km e1) ⟨fun _ M1 h1 => ⟨rfl, ?_⟩, fun e => absurd (nI_le (Nat.le_refl 4) (by decide)) e⟩, z, hk⟩
    rw [h1]
  | succ d ih =>
    intro j Z hj z hk
    have n1 : Z.2.2.1 (39 + s1) = 4 := by rw [z.2.1]; exact a4
    have n2 : Z.2.2.1 (39 + s2) = 4 := by rw [z.2.1]; exact e4
    have r2 : Z.2.1 (39 + s2) = Z0.2.1 (39 + s2) := z.2.2 _ (by omega)
    obtain ⟨Z2, hZ2⟩ : ∃ Z2 : Zs, Z2 = (Z.1, rw1 Z.2.1 (39 + s1) (va_up (Z.2.1 (39 + s1)) j (Z0.2.1 (39 + s2) j)), Z.2.2.1, Z.2.2.2.1, Z.2.2.2.2) := ⟨_, rfl⟩
    obtain ⟨Z1, b1, b2, b3⟩ := ih (j + 1) Z2 (by omega) (by
      rw [hZ2]
      exact ⟨z.1, z.2.1, fun a ha => by show rw1 Z.2.1 (39 + s1) _ a = _; rw [rw1_n _ _ ha]; exact z.2.2 a ha⟩) (fun k hk' => by
      rw [hZ2]
      show rw1 Z.2.1 (39 + s1) _ (39 + s1) k = _
      rw [rw1_s]
      unfold va_up
      by_cases he : k = j
      · rw [if_pos he, he]
      · rw [if_neg he]; exact hk k (by omega))
    refine ⟨Z1, wp_X8_copyFrom_123 (M := (Z, I, L)) (z.km a1) (z.km e1) ⟨fun e => absurd ((nI_leI (a := 4) (by decide) (by omega)).mp e) (by omega), fun _ => ⟨39 + s1, ?_, z.km a2, 39 + s2, ?_, z.km e2, ?_⟩⟩, b2, b3⟩
    · show Z.2.1 (18 + s1) 13 = _
      rw [z.2.2 _ (by omega)]; exact a3
    · show Z.2.1 (18 + s2) 13 = _
      rw [z.2.2 _ (by omega)]; exact e3
    · show vp_in (nI j) (Z.2.2.1 (39 + s2)) ∧ ((Z.2.1 (39 + s2) (nI j).toNatClampNeg = none → vp_in (nI j) (Z.2.2.1 (39 + s1)) ∧ _) ∧ ∀ b7, Z.2.1 (39 + s2) (nI j).toNatClampNeg = some b7 → KM Z b7 6 ∧ vp_in (nI j) (Z.2.2.1 (39 + s1)) ∧ _)
      rw [n1, n2, nI_clamp (by omega), r2]
      refine ⟨vp_in_nI (by omega) (by decide), fun hn => ⟨vp_in_nI (by omega) (by decide), fun M9 h9 y hy => ?_⟩, fun b7 hb => ⟨z.km (hq (39 + s2) j b7 (by omega) (by omega) hb).2, vp_in_nI (by omega) (by decide), fun M9 h9 y hy => ?_⟩⟩
      · rw [h9, hy, nI_1]
        rw [hZ2, hn] at b1
        exact b1
      · rw [h9, hy, nI_1]
        rw [hZ2, hb] at b1
        exact b1
theorem sp_scopy {s1 s2 : Nat} (hs : (s1 = 0 ∧ s2 = 24) ∨ (s1 = 24 ∧ s2 = 0)) (hS : Sh Z) (hq : RQ Z) (a : SS Z I s1 w h S tx) (b : SS Z I s2 w h K tk) : ∃ Z1 I1, Cl g 3 mu_X8_copyFrom [rf g (18 + s1), rf g (18 + s2)] (Z, I, L) none (Z1, I1, L) ∧ ZB Z Z1 (39 + s1) ∧ RQ Z1 ∧ SS Z1 I1 s1 w h K tk ∧ SS Z1 I1 s2 w h K tk ∧ ∀ a, ¬ stS s1 a → I1 a = I a := by
  have r1 := st_r hS (s := s1) (by omega)
  have r2 := st_r hS (s := s2) (by omega)
  obtain ⟨a1, a2, a3, a4⟩ := st_k hS (s := s1) (by omega)
  obtain ⟨e1, e2, e3, e4⟩ := st_k hS (s := s2) (by omega)
  have c0 : CH Z I I s1 s2 w h S K 0 := ⟨fun j hj => by rw [if_neg (by omega)]; exact a.2.2.2.1 j hj, b.2.2.2.1, fun _ _ => rfl⟩
  obtain ⟨I1, d1, c1⟩ := ch_step (g := g) (L := L) (f := 0) hs (by decide) c0
  obtain ⟨I2, d2, c2⟩ := ch_step (g := g) (L := L) (f := 1) hs (by decide) c1
  obtain ⟨I3, d3, c3⟩ := ch_step (g := g) (L := L) (f := 2) hs (by decide) c2
  obtain ⟨I4, d4, c4⟩ := ch_step (g := g) (L := L) (f := 3) hs (by decide) c3
  obtain ⟨I5, d5, c5⟩ := ch_step (g := g) (L := L) (f := 4) hs (by decide) c4
  obtain ⟨I6, d6, c6⟩ := ch_step (g := g) (L := L) (f := 5) hs (by decide) c5
  obtain ⟨I7, d7, c7⟩ := ch_step (g := g) (L := L) (f := 6) hs (by decide) c6
  obtain ⟨I8, d8, c8⟩ := ch_step (g := g) (L := L) (f := 7) hs (by decide) c7
  obtain ⟨I9, d9, c9⟩ := ch_step (g := g) (L := L) (f := 8) hs (by decide) c8
  obtain ⟨I10, d10, c10⟩ := ch_step (g := g) (L := L) (f := 9) hs (by decide) c9
  obtain ⟨I11, d11, c11⟩ := ch_step (g := g) (L := L) (f := 10) hs (by decide) c10
  obtain ⟨Z1, b1, b2, b3⟩ := cy_run (g := g) (I := I11) (L := L) hs hS hq 4 0 Z (Nat.zero_add _) ⟨rfl, rfl, fun _ _ => rfl⟩ (fun k hk => absurd hk (by omega))
  obtain ⟨cA, cB, cC⟩ := c11
  have e18 : ∀ q, q ≠ 14 → (rw1 I11 (18 + s1) (upd (I11 (18 + s1)) 14 (I11 (18 + s2) 14))) (18 + s1) q = I (18 + s1) q := fun q hq' => by
    rw [rw1_s]
    unfold upd
    rw [if_neg hq', cC (18 + s1) (by omega)]
  have z1 : ZG Z Z1 := b2.zg (by omega)
  have fr : ∀ a, ¬ stS s1 a → (rw1 I11 (18 + s1) (upd (I11 (18 + s1)) 14 (I11 (18 + s2) 14))) a = I a := fun a ha => by
    unfold stS at ha
    rw [rw1_n _ _ (by omega)]
    exact cC a (by omega)
  have t14 : I11 (18 + s2) 14 = nI tk.length := by rw [cC (18 + s2) (by omega)]; exact b.2.2.2.2.1
  have tcK : ∀ sc t, TC Z I sc t → TC Z1 (rw1 I11 (18 + s1) (upd (I11 (18 + s1)) 14 (I11 (18 + s2) 14))) sc t := fun sc t hT => (hT.g z1).kept (fun a h1 _ => fr a (by unfold stS; omega))
  have mx1 : Z1.2.2.2.1 = Z.2.2.2.1 := by rw [b2.2.1]
  refine ⟨Z1, _, cp_X8_copyFrom (M := (Z, I, L)) a1 e1 ⟨_, r1 0 (by decide), (c0.1 0 (by decide)).1, _, r2 0 (by decide), (c0.2.1 0 (by decide)).1, (Z, I1, L), d1, _, r1 1 (by decide), (c0.1 1 (by decide)).1, _, r2 1 (by decide), (c0.2.1 1 (by decide)).1, (Z, I2, L), d2, _, r1 2 (by decide), (c0.1 2 (by decide)).1, _, r2 2 (by decide), (c0.2.1 2 (by decide)).1, (Z, I3, L), d3, _, r1 3 (by decide), (c0.1 3 (by decide)).1, _, r2 3 (by decide), (c0.2.1 3 (by decide)).1, (Z, I4, L), d4, _, r1 4 (by decide), (c0.1 4 (by decide)).1, _, r2 4 (by decide), (c0.2.1 4 (by decide)).1, (Z, I5, L), d5, _, r1 5 (by decide), (c0.1 5 (by decide)).1, _, r2 5 (by decide), (c0.2.1 5 (by decide)).1, (Z, I6, L), d6, _, r1 6 (by decide), (c0.1 6 (by decide)).1, _, r2 6 (by decide), (c0.2.1 6 (by decide)).1, (Z, I7, L), d7, _, r1 7 (by decide), (c0.1 7 (by decide)).1, _, r2 7 (by decide), (c0.2.1 7 (by decide)).1, (Z, I8, L), d8, _, r1 8 (by decide), (c0.1 8 (by decide)).1, _, r2 8 (by decide), (c0.2.1 8 (by decide)).1, (Z, I9, L), d9, _, r1 9 (by decide), (c0.1 9 (by decide)).1, _, r2 9 (by decide), (c0.2.1 9 (by decide)).1, (Z, I10, L), d10, _, r1 10 (by decide), (c0.1 10 (by decide)).1, _, r2 10 (by decide), (c0.2.1 10 (by decide)).1, (Z, I11, L), d11, b1⟩, b2, ?_, ⟨?_, ?_, ?_, fun f hf => ?_, ?_, b.2.2.2.2.2.1, fun k t hk => ?_⟩, ⟨?_, ?_, ?_, fun f hf => ?_, ?_, b.2.2.2.2.2.1, fun k t hk => ?_⟩, fr⟩
  · intro a k q ha hk hr
    by_cases h1 : a = 39 + s1
    · rw [h1, b3 k hk] at hr
      obtain ⟨x1, x2⟩ := hq (39 + s2) k q (by omega) hk hr
      exact ⟨x1, b2.km x2⟩
    · rw [b2.2.2 a h1] at hr
      obtain ⟨x1, x2⟩ := hq a k q ha hk hr
      exact ⟨x1, b2.km x2⟩
  · rw [e18 0 (by decide)]; exact a.1
  · rw [e18 1 (by decide)]; exact a.2.1
  · rw [b2.2.1]; exact a.2.2.1
  · obtain ⟨x1, x2, x3⟩ := nA_in f hf
    have := cA f hf
    rw [if_pos hf] at this
    exact (this.g z1 (by omega) (by omega) (by omega)).kept (by rw [rw1_n _ _ (by omega)]) (fun j _ => by rw [rw1_n _ _ (by omega)])
  · rw [rw1_s]
    unfold upd
    rw [if_pos rfl]; exact t14
  · have hl := (List.getElem?_eq_some_iff.mp hk).1
    obtain ⟨sc, x1, x2⟩ := b.2.2.2.2.2.2 k t hk
    exact ⟨sc, by rw [b3 k (by have := b.2.2.2.2.2.1; omega)]; exact x1, tcK sc t x2⟩
  · rw [rw1_n _ _ (by omega), cC _ (by omega)]; exact b.1
  · rw [rw1_n _ _ (by omega), cC _ (by omega)]; exact b.2.1
  · rw [b2.2.1]; exact b.2.2.1
  · obtain ⟨x1, x2, x3⟩ := nA_in f hf
    exact ((cB f hf).g z1 (by omega) (by omega) (by omega)).kept (by rw [rw1_n _ _ (by omega)]) (fun j _ => by rw [rw1_n _ _ (by omega)])
  · rw [rw1_n _ _ (by omega)]; exact t14
  · obtain ⟨sc, x1, x2⟩ := b.2.2.2.2.2.2 k t hk
    exact ⟨sc, by rw [b2.2.2 _ (by omega)]; exact x1, tcK sc t x2⟩
end SCOPY
