/-! the model's chase(), hunt() -/
theorem MB.o98 {Z : Zs} {I : Nat → Nat → Int32} {w h : Nat} {S : Nat → List Nat} {tx : List TX} (m : MB Z I w h S tx) (f : Nat → Int32) : MB Z (rw1 I 98 f) w h S tx := ⟨m.1.kept (fun a ha => rw1_n _ _ (by omega)), m.2.1, fun j hj => by rw [rw1_n _ _ (show (82 : Nat) ≠ 98 by decide)]; exact m.2.2 j hj⟩
section MCHASE
variable {g : GE} {Z : Zs} {I : Nat → Nat → Int32} {L : Nat → Nat → Int64} {w h : Nat} {S : Nat → List Nat} {tx : List TX} {a b : Nat}
/-- all that a layer goes by -/
def LCz (Z : Zs) (I : Nat → Nat → Int32) (w h : Nat) (S : Nat → List Nat) (tx : List TX) (a b : Nat) : Prop := MB Z I w h S tx ∧ LV I w h S (ttF tx [a] 0) a (16 * (w * h)) ∧ LV I w h S (ttF tx [b] 0) b (16 * (w * h))
theorem LCz.o98 (k : LCz Z I w h S tx a b) (f : Nat → Int32) : LCz Z (rw1 I 98 f) w h S tx a b := ⟨k.1.o98 f, fun i hi => by rw [rw1_n _ _ (show (85 : Nat) ≠ 98 by decide)]; exact k.2.1 i hi, fun i hi => by rw [rw1_n _ _ (show (85 : Nat) ≠ 98 by decide)]; exact k.2.2 i hi⟩
/-- a layer on its way: what is counted, and that nothing new was found so far -/
def LYz (w h : Nat) (S : Nat → List Nat) (f e : Nat → Nat → Nat) (I : Nat → Nat → Int32) (u C0 : Nat) (D : TR → Prop) (m : Bool) : Prop := TVz (isP w h S) f e I u D ∧ CNz I + (if m then 1 else 0) ≤ C0 ∧ (m = false → ∀ k c p, k < 2 → isP w h S c → isP w h S p → D (k, c, p) → wnF f e (u + 1) k c p → wnF f e u k c p)
theorem LYz.cg {f e : Nat → Nat → Nat} {u C0 : Nat} {D D' : TR → Prop} {m : Bool} (h1 : LYz w h S f e I u C0 D m) (hd : ∀ k c p, k < 2 → isP w h S c → isP w h S p → (D (k, c, p) ↔ D' (k, c, p))) : LYz w h S f e I u C0 D' m := ⟨h1.1.cg hd, h1.2.1, fun hm k c p a1 a2 a3 a4 => h1.2.2 hm k c p a1 a2 a3 ((hd k c p a1 a2 a3).mpr a4)⟩
theorem ly_128 (ha : a < tx.length) (hb : b < tx.length) {u C0 c0 p0 : Nat} (hu : u < 2 ^ 29) (hc0 : isP w h S c0) (hp0 : isP w h S p0) {x3 : Int32} : ∀ (d k0 : Nat) (I : Nat → Nat → Int32) (m : Bool), k0 + d = 2 → LCz Z I w h S tx a b → LYz w h S (mvF w h S tx a) (mvF w h S tx b) I u C0 (DNz c0 p0 k0) m →
    ∃ I1 m1, (∀ r M', Lp_X12_settle__98 g 7 76 (nI a) (nI b) x3 (b2i m1) (nI (u + 1)) (nI c0) (nI (p0 + 1)) (Z, I1, L) r M' → Lp_X12_settle__128 g 7 76 (nI a) (nI b) x3 (b2i m) (nI (u + 1)) (nI c0) (nI p0) (nI k0) (Z, I, L) r M') ∧ LCz Z I1 w h S tx a b ∧ LYz w h S (mvF w h S tx a) (mvF w h S tx b) I1 u C0 (DNz c0 (p0 + 1) 0) m1 ∧ ∀ q, q ≠ 98 → I1 q = I q := by
  intro d
  induction d with
  | zero =>
    intro k0 I m hk lc ly
    have hk : k0 = 2 := hk
    subst hk
    have hS := lc.1.1.1
    refine ⟨I, m, fun r M' hc => wp_X12_settle__128 (hS.k 76 12 (by decide) (by decide)) (hS.r 76 42 98 (by decide)) (hS.k 98 13 (by decide) (by decide)) ⟨fun _ y hy => by rw [hy, nI_1]; exact hc, fun z => absurd (nI_le (Nat.le_refl 2) (by decide)) z⟩, lc, ly.cg (fun k c p h1 _ _ => ?_), fun _ _ => rfl⟩
    unfold DNz
    show (c < c0 ∨ (c = c0 ∧ (p < p0 ∨ (p = p0 ∧ k < 2)))) ↔ (c < c0 ∨ (c = c0 ∧ (p < p0 + 1 ∨ (p = p0 + 1 ∧ k < 0))))
    omega
  | succ d ih =>
    intro k0 I m hk lc ly
    obtain ⟨mb, hVa, hVb⟩ := id lc
    obtain ⟨mm, hW, -⟩ := id mb
    have hS := mm.1
    have hm := mm.2.1.mul
    have c1 := hc0.1
    have p1 := hp0.1
    have hk2 : k0 < 2 := by omega
    have hl := tIx_lt hk2 (show c0 < 100 by omega) (show p0 < 100 by omega)
    have cl : (nI (tIx k0 c0 p0)).toNatClampNeg = tIx k0 c0 p0 := nI_clamp (by omega)
    have vi : vp_in (nI (tIx k0 c0 p0)) (Z.2.2.1 98) := by rw [hS.n 98 20000 (by decide)]; exact vp_in_nI hl (by decide)
    have g2 : ¬ (2 : Int32) ≤ nI k0 := fun z => absurd ((nI_leI (a := 2) (by decide) (by omega)).mp z) (by omega)
    have wp := fun (R : Option Value) (M' : Mem) => @wp_X12_settle__128 g Z I L R M' 76 (nI a) (nI b) x3 (b2i m) (nI (u + 1)) (nI c0) (nI p0) (nI k0) 98 (hS.k 76 12 (by decide) (by decide)) (hS.r 76 42 98 (by decide)) (hS.k 98 13 (by decide) (by decide))
    have dn : ∀ k c p, DNz c0 p0 (k0 + 1) (k, c, p) ↔ (DNz c0 p0 k0 (k, c, p) ∨ (k, c, p) = (k0, c0, p0)) := fun k c p => by
      unfold DNz
      show (c < c0 ∨ (c = c0 ∧ (p < p0 ∨ (p = p0 ∧ k < k0 + 1)))) ↔ ((c < c0 ∨ (c = c0 ∧ (p < p0 ∨ (p = p0 ∧ k < k0)))) ∨ (k, c, p) = (k0, c0, p0))
      constructor
      · intro z
        by_cases y : c = c0 ∧ p = p0 ∧ k = k0
        · right; rw [y.1, y.2.1, y.2.2]
        · left; omega
      · rintro (z | z)
        · omega
        · obtain ⟨z1, z2⟩ := Prod.mk.inj z
          obtain ⟨z2, z3⟩ := Prod.mk.inj z2
          omega
    have nd : ¬ DNz c0 p0 k0 (k0, c0, p0) := by
      unfold DNz
      show ¬ (c0 < c0 ∨ (c0 = c0 ∧ (p0 < p0 ∨ (p0 = p0 ∧ k0 < k0))))
      omega
    obtain ⟨tv, cn, mf⟩ := ly
    have at0 := tv k0 c0 p0 hk2 hc0 hp0
    have keep : ∀ (m' : Bool), (¬ (¬ wnF (mvF w h S tx a) (mvF w h S tx b) u k0 c0 p0 ∧ wnF (mvF w h S tx a) (mvF w h S tx b) (u + 1) k0 c0 p0)) → LYz w h S (mvF w h S tx a) (mvF w h S tx b) I u C0 (DNz c0 p0 (k0 + 1)) m := fun _ hno => by
      refine ⟨fun k c p h1 h2 h3 => ?_, cn, fun hmf k c p h1 h2 h3 h4 h5 => ?_⟩
      · by_cases he : (k, c, p) = (k0, c0, p0)
        · obtain ⟨z1, z2⟩ := Prod.mk.inj he
          obtain ⟨z2, z3⟩ := Prod.mk.inj z2
          subst z1 z2 z3
          rcases at0 with y | ⟨y1, y2, y3, y4⟩ | ⟨y1, y2, y3⟩
          · exact Or.inl y
          · exact absurd y2 nd
          · exact Or.inr (Or.inr ⟨y1, fun z => hno ⟨y1, z.2⟩, y3⟩)
        · have := tv k c p h1 h2 h3
          rw [show DNz c0 p0 (k0 + 1) (k, c, p) ↔ DNz c0 p0 k0 (k, c, p) from ⟨fun z => ((dn k c p).mp z).resolve_right he, fun z => (dn k c p).mpr (Or.inl z)⟩]
          exact this
      · rcases (dn k c p).mp h4 with h4 | h4
        · exact mf hmf k c p h1 h2 h3 h4 h5
        · obtain ⟨z1, z2⟩ := Prod.mk.inj h4
          obtain ⟨z2, z3⟩ := Prod.mk.inj z2
          subst z1 z2 z3
          exact Classical.byContradiction (fun z => hno ⟨z, h5⟩)
    by_cases hpos : (0 : Int32) ≤ I 98 (tIx k0 c0 p0)
    · have hno : ¬ (¬ wnF (mvF w h S tx a) (mvF w h S tx b) u k0 c0 p0 ∧ wnF (mvF w h S tx a) (mvF w h S tx b) (u + 1) k0 c0 p0) := fun z => by
        rcases at0 with ⟨v, y1, y2, y3⟩ | ⟨y1, y2, y3, y4⟩ | ⟨y1, y2, y3⟩
        · exact z.1 (wn_up y2.1 u y1)
        · exact nd y2
        · rw [y3] at hpos; exact absurd hpos (by decide)
      obtain ⟨I1, m1, r1, r2, r3, r4⟩ := ih (k0 + 1) I m (by omega) lc (keep m hno)
      refine ⟨I1, m1, fun r M' hc => wp r M' ⟨fun z => absurd z g2, fun _ => ⟨_, ms_stateAt, vi, fun _ y hy => ?_, fun z => absurd (by rw [cl]; exact hpos) z⟩⟩, r2, r3, r4⟩
      rw [hy, nI_1]; exact r1 r M' hc
    · have hneg : ¬ (0 : Int32) ≤ I 98 (nI (tIx k0 c0 p0)).toNatClampNeg := by rw [cl]; exact hpos
      have hnw : ¬ wnF (mvF w h S tx a) (mvF w h S tx b) u k0 c0 p0 := by
        rcases at0 with ⟨v, y1, y2, y3⟩ | ⟨y1, y2, y3, y4⟩ | ⟨y1, y2, y3⟩
        · rw [y3] at hpos; exact absurd (nI_pos' (by omega)) hpos
        · exact y1
        · exact y1
      obtain ⟨q, cq, hq⟩ := ms_isSettled (g := g) (L := L) mm hW ha hb hVa hVb (show u < 2 ^ 30 by omega) tv hk2 hc0 hp0 hnw
      by_cases hqt : q = true
      · have hw1 := hq.mp hqt
        obtain ⟨J, hJ⟩ : ∃ J, J = rw1 I 98 (upd (I 98) (tIx k0 c0 p0) (nI (u + 1))) := ⟨_, rfl⟩
        have j98 : J 98 = upd (I 98) (tIx k0 c0 p0) (nI (u + 1)) := by rw [hJ, rw1_s]
        have lcJ : LCz Z J w h S tx a b := by rw [hJ]; exact lc.o98 _
        have cnJ := CN_set (I := I) (J := J) hl (show u + 1 < 2 ^ 31 by omega) (Int32.not_le.mp hpos) j98
        have lyJ : LYz w h S (mvF w h S tx a) (mvF w h S tx b) J u C0 (DNz c0 p0 (k0 + 1)) true := by
          refine ⟨fun k c p h1 h2 h3 => ?_, ?_, fun z => by cases z⟩
          · by_cases he : (k, c, p) = (k0, c0, p0)
            · obtain ⟨z1, z2⟩ := Prod.mk.inj he
              obtain ⟨z2, z3⟩ := Prod.mk.inj z2
              subst z1 z2 z3
              exact Or.inr (Or.inl ⟨hnw, (dn k c p).mpr (Or.inr rfl), hw1, by rw [j98, upd_s]⟩)
            · have := tv k c p h1 h2 h3
              rw [show DNz c0 p0 (k0 + 1) (k, c, p) ↔ DNz c0 p0 k0 (k, c, p) from ⟨fun z => ((dn k c p).mp z).resolve_right he, fun z => (dn k c p).mpr (Or.inl z)⟩, j98, upd_n _ _ (fun z => he (by
                have c2 := h2.1
                have p2 := h3.1
                obtain ⟨y1, y2, y3⟩ := tIx_inj (show c < 100 by omega) (show p < 100 by omega) (show c0 < 100 by omega) (show p0 < 100 by omega) z
                rw [y1, y2, y3]))]
              exact this
          · show CNz J + 1 ≤ C0
            have : CNz I + (if m then 1 else 0) ≤ C0 := cn
            omega
        obtain ⟨I1, m1, r1, r2, r3, r4⟩ := ih (k0 + 1) J true (by omega) lcJ lyJ
        have r1' : ∀ r M', Lp_X12_settle__98 g 7 76 (nI a) (nI b) x3 (b2i m1) (nI (u + 1)) (nI c0) (nI (p0 + 1)) (Z, I1, L) r M' → Lp_X12_settle__128 g 7 76 (nI a) (nI b) x3 1 (nI (u + 1)) (nI c0) (nI p0) (nI (k0 + 1)) (Z, J, L) r M' := r1
        refine ⟨I1, m1, fun r M' hc => wp r M' ⟨fun z => absurd z g2, fun _ => ⟨_, ms_stateAt, vi, fun z => absurd z hneg, fun _ => ⟨fun e => ?_, fun e => ?_⟩⟩⟩, r2, r3, fun q hq => by rw [r4 q hq, hJ, rw1_n _ _ hq]⟩
        · have h0 : ¬ k0 = 0 := fun z => e (by rw [z]; rfl)
          rw [if_neg h0] at cq
          refine ⟨_, cq, fun _ => ⟨vi, fun I9 h9 y hy => ?_⟩, fun z => absurd z (b2i_1 hqt)⟩
          rw [cl, ← hJ] at h9
          rw [h9, hy, nI_1]; exact r1' r M' hc
        · have h0 : k0 = 0 := (nI_eq (b := 0) (by omega) (by decide)).mp e
          rw [if_pos h0] at cq
          refine ⟨_, cq, fun _ => ⟨vi, fun I9 h9 y hy => ?_⟩, fun z => absurd z (b2i_1 hqt)⟩
          rw [cl, ← hJ] at h9
          rw [h9, hy, nI_1]; exact r1' r M' hc
      · have hno : ¬ (¬ wnF (mvF w h S tx a) (mvF w h S tx b) u k0 c0 p0 ∧ wnF (mvF w h S tx a) (mvF w h S tx b) (u + 1) k0 c0 p0) := fun z => hqt (hq.mpr z.2)
        obtain ⟨I1, m1, r1, r2, r3, r4⟩ := ih (k0 + 1) I m (by omega) lc (keep m hno)
        refine ⟨I1, m1, fun r M' hc => wp r M' ⟨fun z => absurd z g2, fun _ => ⟨_, ms_stateAt, vi, fun z => absurd z hneg, fun _ => ⟨fun e => ?_, fun e => ?_⟩⟩⟩, r2, r3, r4⟩
        · have h0 : ¬ k0 = 0 := fun z => e (by rw [z]; rfl)
          rw [if_neg h0] at cq
          exact ⟨_, cq, fun z => absurd (b2i_f hqt) z, fun _ y hy => by rw [hy, nI_1]; exact r1 r M' hc⟩
        · have h0 : k0 = 0 := (nI_eq (b := 0) (by omega) (by decide)).mp e
          rw [if_pos h0] at cq
          exact ⟨_, cq, fun z => absurd (b2i_f hqt) z, fun _ y hy => by rw [hy, nI_1]; exact r1 r M' hc⟩
theorem ly_98 (ha : a < tx.length) (hb : b < tx.length) {u C0 c0 : Nat} (hu : u < 2 ^ 29) (hc0 : c0 < 4 * (w * h)) : ∀ (d p0 : Nat) (I : Nat → Nat → Int32) (m : Bool), p0 + d = 4 * (w * h) → LCz Z I w h S tx a b → LYz w h S (mvF w h S tx a) (mvF w h S tx b) I u C0 (DNz c0 p0 0) m →
    ∃ I1 m1, (∀ r M', Lp_X12_settle__89 g 7 76 (nI a) (nI b) (nI (4 * (w * h))) (b2i m1) (nI (u + 1)) (nI (c0 + 1)) (Z, I1, L) r M' → Lp_X12_settle__98 g 7 76 (nI a) (nI b) (nI (4 * (w * h))) (b2i m) (nI (u + 1)) (nI c0) (nI p0) (Z, I, L) r M') ∧ LCz Z I1 w h S tx a b ∧ LYz w h S (mvF w h S tx a) (mvF w h S tx b) I1 u C0 (DNz (c0 + 1) 0 0) m1 ∧ ∀ q, q ≠ 98 → I1 q = I q := by
  intro d
  induction d with
  | zero =>
    intro p0 I m hp lc ly
    have hp : p0 = 4 * (w * h) := hp
    subst hp
    have hS := lc.1.1.1
    have hm := lc.1.1.2.1.mul
    refine ⟨I, m, fun r M' hc => wp_X12_settle__98 (hS.k 76 12 (by decide) (by decide)) ⟨fun _ y hy => by rw [hy, nI_1]; exact hc, fun z => absurd (nI_le (Nat.le_refl _) (by omega)) z⟩, lc, ly.cg (fun k c p h1 h2 h3 => ?_), fun _ _ => rfl⟩
    have p1 := h3.1
    unfold DNz
    show (c < c0 ∨ (c = c0 ∧ (p < 4 * (w * h) ∨ (p = 4 * (w * h) ∧ k < 0)))) ↔ (c < c0 + 1 ∨ (c = c0 + 1 ∧ (p < 0 ∨ (p = 0 ∧ k < 0))))
    omega
  | succ d ih =>
    intro p0 I m hp lc ly
    obtain ⟨mm, hW, -⟩ := id lc.1
    have hS := mm.1
    have hm := mm.2.1.mul
    have ge : ¬ nI (4 * (w * h)) ≤ nI p0 := nI_ge (by omega) (by omega)
    have pc := m_isPose (g := g) (L := L) mm hW (p := c0) (by omega)
    have pp := m_isPose (g := g) (L := L) mm hW (p := p0) (by omega)
    have skip : ¬ (isP w h S c0 ∧ isP w h S p0) → LYz w h S (mvF w h S tx a) (mvF w h S tx b) I u C0 (DNz c0 (p0 + 1) 0) m := fun hn => ly.cg (fun k c p h1 h2 h3 => by
      have : ¬ (c = c0 ∧ p = p0) := fun z => hn ⟨by rw [← z.1]; exact h2, by rw [← z.2]; exact h3⟩
      unfold DNz
      show (c < c0 ∨ (c = c0 ∧ (p < p0 ∨ (p = p0 ∧ k < 0)))) ↔ (c < c0 ∨ (c = c0 ∧ (p < p0 + 1 ∨ (p = p0 + 1 ∧ k < 0))))
      omega)
    by_cases hPc : isP w h S c0
    · by_cases hPp : isP w h S p0
      · obtain ⟨I2, m2, q1, q2, q3, q4⟩ := ly_128 (g := g) (L := L) (x3 := nI (4 * (w * h))) ha hb hu hPc hPp 2 0 I m (Nat.zero_add _) lc ly
        obtain ⟨I1, m1, r1, r2, r3, r4⟩ := ih (p0 + 1) I2 m2 (by omega) q2 q3
        exact ⟨I1, m1, fun r M' hc => wp_X12_settle__98 (hS.k 76 12 (by decide) (by decide)) ⟨fun z => absurd z ge, fun _ => ⟨_, pc, fun z => absurd z (b2i_1 (pB_t hPc)), fun _ => ⟨_, pp, fun _ => q1 _ _ (r1 r M' hc), fun z => absurd z (b2i_1 (pB_t hPp))⟩⟩⟩, r2, r3, fun q hq => by rw [r4 q hq, q4 q hq]⟩
      · obtain ⟨I1, m1, r1, r2, r3, r4⟩ := ih (p0 + 1) I m (by omega) lc (skip (fun z => hPp z.2))
        exact ⟨I1, m1, fun r M' hc => wp_X12_settle__98 (hS.k 76 12 (by decide) (by decide)) ⟨fun z => absurd z ge, fun _ => ⟨_, pc, fun z => absurd z (b2i_1 (pB_t hPc)), fun _ => ⟨_, pp, fun z => absurd (by rw [pB_f hPp]; rfl) z, fun _ y hy => by rw [hy, nI_1]; exact r1 r M' hc⟩⟩⟩, r2, r3, r4⟩
    · obtain ⟨I1, m1, r1, r2, r3, r4⟩ := ih (p0 + 1) I m (by omega) lc (skip (fun z => hPc z.1))
      exact ⟨I1, m1, fun r M' hc => wp_X12_settle__98 (hS.k 76 12 (by decide) (by decide)) ⟨fun z => absurd z ge, fun _ => ⟨_, pc, fun _ y hy => by rw [hy, nI_1]; exact r1 r M' hc, fun z => absurd (by rw [pB_f hPc]; rfl) z⟩⟩, r2, r3, r4⟩
theorem ly_89 (ha : a < tx.length) (hb : b < tx.length) {u C0 : Nat} (hu : u < 2 ^ 29) : ∀ (d c0 : Nat) (I : Nat → Nat → Int32) (m : Bool), c0 + d = 4 * (w * h) → LCz Z I w h S tx a b → LYz w h S (mvF w h S tx a) (mvF w h S tx b) I u C0 (DNz c0 0 0) m →
    ∃ I1 m1, (∀ r M', Lp_X12_settle__78 g 7 76 (nI a) (nI b) (nI (4 * (w * h))) (b2i m1) (nI (u + 2)) (Z, I1, L) r M' → Lp_X12_settle__89 g 7 76 (nI a) (nI b) (nI (4 * (w * h))) (b2i m) (nI (u + 1)) (nI c0) (Z, I, L) r M') ∧ LCz Z I1 w h S tx a b ∧ LYz w h S (mvF w h S tx a) (mvF w h S tx b) I1 u C0 (fun _ => True) m1 ∧ ∀ q, q ≠ 98 → I1 q = I q := by
  intro d
  induction d with
  | zero =>
    intro c0 I m hc lc ly
    have hc : c0 = 4 * (w * h) := hc
    subst hc
    have hS := lc.1.1.1
    have hm := lc.1.1.2.1.mul
    refine ⟨I, m, fun r M' hc => wp_X12_settle__89 (hS.k 76 12 (by decide) (by decide)) ⟨fun _ y hy => by rw [hy, nI_1]; exact hc, fun z => absurd (nI_le (Nat.le_refl _) (by omega)) z⟩, lc, ly.cg (fun k c p h1 h2 h3 => ?_), fun _ _ => rfl⟩
    exact ⟨fun _ => trivial, fun _ => Or.inl h2.1⟩
  | succ d ih =>
    intro c0 I m hc lc ly
    have hS := lc.1.1.1
    have hm := lc.1.1.2.1.mul
    obtain ⟨I2, m2, q1, q2, q3, q4⟩ := ly_98 (g := g) (L := L) ha hb hu (show c0 < 4 * (w * h) by omega) (4 * (w * h)) 0 I m (Nat.zero_add _) lc ly
    obtain ⟨I1, m1, r1, r2, r3, r4⟩ := ih (c0 + 1) I2 m2 (by omega) q2 q3
    exact ⟨I1, m1, fun r M' hc' => wp_X12_settle__89 (hS.k 76 12 (by decide) (by decide)) ⟨fun z => absurd z (nI_ge (by omega) (by omega)), fun _ => q1 _ _ (r1 r M' hc')⟩, r2, r3, fun q hq => by rw [r4 q hq, q4 q hq]⟩
/-- all is settled -/
def FVz (P : Nat → Prop) (f e : Nat → Nat → Nat) (I : Nat → Nat → Int32) : Prop := ∀ k c p, k < 2 → P c → P p → (∃ v, v < 2 ^ 30 ∧ isV f e (k, c, p) v ∧ I 98 (tIx k c p) = nI v) ∨ ((∀ n, ¬ wnF f e n k c p) ∧ I 98 (tIx k c p) = -1)
theorem wn_stop {P : Nat → Prop} {f e : Nat → Nat → Nat} (hf : ∀ c tap, P c → P (f c tap)) (he : ∀ c tap, P c → P (e c tap)) {u : Nat} (hs : ∀ k c p, k < 2 → P c → P p → wnF f e (u + 1) k c p → wnF f e u k c p) : ∀ (n k c p : Nat), k < 2 → P c → P p → wnF f e n k c p → wnF f e u k c p := by
  intro n
  induction n with
  | zero => intro k c p _ _ _ hw; exact wn_up hw u (Nat.zero_le _)
  | succ n ih =>
    intro k c p h1 h2 h3 hw
    rcases hw with hw | ⟨h0, tap, ht, hw⟩ | ⟨h0, hw⟩
    · exact ih k c p h1 h2 h3 hw
    · exact hs k c p h1 h2 h3 (Or.inr (Or.inl ⟨h0, tap, ht, ih 1 _ _ Nat.one_lt_two (hf c tap h2) h3 hw⟩))
    · exact hs k c p h1 h2 h3 (Or.inr (Or.inr ⟨h0, fun tap ht => ih 0 _ _ Nat.zero_lt_two h2 (he p tap h3) (hw tap ht)⟩))
theorem ly_78 (ha : a < tx.length) (hb : b < tx.length) : ∀ (F u : Nat) (I : Nat → Nat → Int32), CNz I < F → u + CNz I ≤ 20000 → LCz Z I w h S tx a b → TVz (isP w h S) (mvF w h S tx a) (mvF w h S tx b) I u (fun _ => False) →
    ∃ I1, Lp_X12_settle__78 g 7 76 (nI a) (nI b) (nI (4 * (w * h))) 1 (nI (u + 1)) (Z, I, L) none (Z, I1, L) ∧ LCz Z I1 w h S tx a b ∧ FVz (isP w h S) (mvF w h S tx a) (mvF w h S tx b) I1 ∧ ∀ q, q ≠ 98 → I1 q = I q := by
  intro F
  induction F with
  | zero => intro u I h0; omega
  | succ F ih =>
    intro u I hF hu lc tv
    have hS := lc.1.1.1
    have hwh := lc.1.1.2.1
    have hW := lc.1.2.1
    have ly0 : LYz w h S (mvF w h S tx a) (mvF w h S tx b) I u (CNz I) (DNz 0 0 0) false := by
      refine ⟨tv.cg (fun k c p _ _ _ => ⟨fun z => z.elim, fun z => ?_⟩), ?_, fun _ k c p _ _ _ h4 => ?_⟩
      · unfold DNz at z; omega
      · generalize CNz I = x
        rw [if_neg (by decide)]
        exact Nat.le_refl x
      · unfold DNz at h4; omega
    obtain ⟨I2, m2, q1, q2, q3, q4⟩ := ly_89 (g := g) (L := L) (C0 := CNz I) ha hb (show u < 2 ^ 29 by omega) (4 * (w * h)) 0 I false (Nat.zero_add _) lc ly0
    obtain ⟨tv2, cn2, mf2⟩ := q3
    have go : ∀ (I1 : Nat → Nat → Int32), Lp_X12_settle__78 g 7 76 (nI a) (nI b) (nI (4 * (w * h))) (b2i m2) (nI (u + 2)) (Z, I2, L) none (Z, I1, L) → Lp_X12_settle__78 g 7 76 (nI a) (nI b) (nI (4 * (w * h))) 1 (nI (u + 1)) (Z, I, L) none (Z, I1, L) := fun I1 hc => wp_X12_settle__78 (hS.k 76 12 (by decide) (by decide)) ⟨fun z => absurd z (by decide), fun _ => q1 _ _ hc⟩
    have nxt : TVz (isP w h S) (mvF w h S tx a) (mvF w h S tx b) I2 (u + 1) (fun _ => False) := fun k c p h1 h2 h3 => by
      rcases tv2 k c p h1 h2 h3 with ⟨v, y1, y2, y3⟩ | ⟨y1, y2, y3, y4⟩ | ⟨y1, y2, y3⟩
      · exact Or.inl ⟨v, by omega, y2, y3⟩
      · exact Or.inl ⟨u + 1, Nat.le_refl _, ⟨y3, fun n hn hwn => y1 (wn_up hwn u (by omega))⟩, y4⟩
      · exact Or.inr (Or.inr ⟨fun z => y2 ⟨trivial, z⟩, fun z => z.1, y3⟩)
    cases m2 with
    | true =>
      have cn2 : CNz I2 + 1 ≤ CNz I := cn2
      obtain ⟨I1, r1, r2, r3, r4⟩ := ih (u + 1) I2 (by omega) (by omega) q2 nxt
      exact ⟨I1, go I1 r1, r2, r3, fun q hq => by rw [r4 q hq, q4 q hq]⟩
    | false =>
      refine ⟨I2, go I2 (wp_X12_settle__78 (hS.k 76 12 (by decide) (by decide)) ⟨fun _ => ⟨rfl, rfl⟩, fun z => absurd rfl z⟩), q2, fun k c p h1 h2 h3 => ?_, q4⟩
      have stop := wn_stop (mv_P hwh hW a) (mv_P hwh hW b) (fun k c p h1 h2 h3 => mf2 rfl k c p h1 h2 h3 trivial)
      rcases tv2 k c p h1 h2 h3 with ⟨v, y1, y2, y3⟩ | ⟨y1, y2, y3, y4⟩ | ⟨y1, y2, y3⟩
      · exact Or.inl ⟨v, by omega, y2, y3⟩
      · exact absurd (mf2 rfl k c p h1 h2 h3 trivial y3) y1
      · exact Or.inr ⟨fun n hn => y1 (stop n k c p h1 h2 h3 hn), y3⟩
end MCHASE
