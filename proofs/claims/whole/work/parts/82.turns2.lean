/-! the class's chase: turns(), firstTap() -/
theorem TT_same {e : Nat → Nat → Nat} {Q : List TR} {h c q : Nat} (hh : h < Q.length) (h1 : (Q.getD h (0, 0, 0)).1 = 1) : TTz e Q (h + 1) c q = TTz e Q h c q := by
  unfold TTz
  refine c4_same (fun tap _ => decide_eq_decide.mpr ⟨fun z => ?_, fun z => (take_1 hh).mpr (Or.inl z)⟩)
  rcases (take_1 hh).mp z with z | z
  · exact z
  · rw [← z] at h1; cases h1
theorem TT_next {P : Nat → Prop} {f e : Nat → Nat → Nat} {Q : List TR} {V : TR → Nat} {tg : Nat → Option Nat} {h N c p c' q : Nat} (G : GIz P f e Q h V) (hh : h < Q.length) (hQh : Q.getD h (0, 0, 0) = (0, c, p)) (hT : TGz P e tg) (hq : P q) (hqN : q < N) : TTz e Q h c' q + (if c' = c then ctL q (sgF tg (4 * N) p) else 0) = TTz e Q (h + 1) c' q := by
  have fr := G.fresh hh
  rw [hQh] at fr
  have a := c4_add (b := fun tap => decide ((0, c', e q tap) ∈ Q.take (h + 1))) (d := fun tap => decide ((0, c', e q tap) ∈ Q.take h)) (x := fun tap => decide ((0, c', e q tap) = ((0 : Nat), c, p))) (fun tap _ => by
    refine ⟨?_, fun ⟨z1, z2⟩ => ?_⟩
    · rw [← Bool.decide_or]
      refine decide_eq_decide.mpr ?_
      rw [take_1 hh, hQh]
    · have z1 := of_decide_eq_true z1
      have z2 := of_decide_eq_true z2
      rw [z2] at z1
      exact fr z1)
  unfold TTz
  rw [a]
  congr 1
  by_cases hcc : c' = c
  · rw [if_pos hcc, sg_ct, if_pos hqN]
    refine c4_same (fun tap ht => decide_eq_decide.mpr ?_)
    rw [hT.2 q tap hq ht, hcc]
    exact ⟨fun z => by rw [Option.some.inj z], fun z => by rw [(Prod.mk.inj (Prod.mk.inj z).2).2]⟩
  · rw [if_neg hcc]
    have : ∀ tap, tap < 4 → (fun tap => decide ((0, c', e q tap) = ((0 : Nat), c, p))) tap = (fun _ => false) tap := fun tap _ => decide_eq_false (fun z => hcc (Prod.mk.inj (Prod.mk.inj z).2).1)
    rw [c4_same this]; rfl
section TURNS2
variable {g : GE} {Z : Zs} {I : Nat → Nat → Int32} {L : Nat → Nat → Int64} {pa N : Nat} {P : Nat → Prop} {f e : Nat → Nat → Nat} {tc te : Nat → Option Nat}
theorem tn_run (hE : PEz Z pa N) (hN : N ≤ 100) (hPN : ∀ c, P c → c < N) (hf : ∀ c tap, P c → P (f c tap)) (he : ∀ c tap, P c → P (e c tap)) (hTc : TGz P f tc) (hTe : TGz P e te) (hsc : sm N (fun q => (sgF tc (4 * N) q).length) ≤ 4 * N) (hse : sm N (fun q => (sgF te (4 * N) q).length) ≤ 4 * N) {p0 q0 : Nat} (hp0 : P p0) (hq0 : P q0) : ∀ (d h : Nat) (I : Nat → Nat → Int32) (Q : List TR) (V K : TR → Nat), h + d = 2 * (N * N) → LKz I (pa + 3) (pa + 4) N tc → LKz I (pa + 5) (pa + 6) N te → I pa 2 = nI N → I pa 3 = nI (N * N) → GIz P f e Q h V → QMz I pa N Q V K none → (∀ c q, P c → P q → (1, c, q) ∉ Q → K (1, c, q) = TTz e Q h c q) →
    ∃ r I1 Q1 V1 K1 h1, Lp_X0_turns_60 g 7 pa (nI (ixT N (0, p0, q0))) (nI h) (Z, I, L) (some (.int r)) (Z, I1, L) ∧ CAz f e p0 q0 r ∧ GIz P f e Q1 h1 V1 ∧ QMz I1 pa N Q1 V1 K1 none ∧ (∀ a, a ≠ pa → a ≠ pa + 1 → a ≠ pa + 2 → I1 a = I a) ∧ (∀ k, k ≠ 6 → I1 pa k = I pa k) ∧ (∀ t, r = nI t → t < 2 ^ 30 → (0, p0, q0) ∈ Q1 ∧ V1 (0, p0, q0) = t) := by
  obtain ⟨e0, e1, e2, e3, ⟨a1, a2, a3⟩, ⟨b1, b2, b3⟩, ⟨c1, c2, c3⟩, ⟨d1, d2, d3⟩, ⟨f1, f2, f3⟩, ⟨g1, g2, g3⟩⟩ := id hE
  have hNN : N * N ≤ 100 * 100 := Nat.mul_le_mul hN hN
  have hp0N := hPN p0 hp0
  have hq0N := hPN q0 hq0
  have ok0 : okT N (0, p0, q0) := ⟨Nat.zero_lt_two, hp0N, hq0N⟩
  have ix0 := ix_lt ok0
  have v0 : vp_in (nI (ixT N (0, p0, q0))) (Z.2.2.1 (pa + 1)) := by rw [a3]; exact vp_in_nI ix0 (by omega)
  have cl0 : (nI (ixT N (0, p0, q0))).toNatClampNeg = ixT N (0, p0, q0) := nI_clamp (by omega)
  have wp := fun (I : Nat → Nat → Int32) (R : Option Value) (M' : Mem) (u6 : Int32) => @wp_X0_turns_60 g Z I L R M' pa (nI (ixT N (0, p0, q0))) u6 (pa + 1) (pa + 2) e1 a1 a2 b1 b2
  have inV : ∀ {h : Nat} {I : Nat → Nat → Int32} {Q : List TR} {V K : TR → Nat}, GIz P f e Q h V → QMz I pa N Q V K none → ∀ s ∈ Q, V s < 2 ^ 30 := fun hG hQ s hs => by
    obtain ⟨i', hi1, hi2⟩ := mem_idx hs
    have := hG.2.2.2.2.2.2.2.2 i' hi1
    rw [hi2] at this
    have := hQ.len
    omega
  have neg4 : ∀ k, k ≤ 3 → ¬ (0 : Int32) ≤ nI k - 4 := fun k hk => by
    have cs : k = 0 ∨ k = 1 ∨ k = 2 ∨ k = 3 := by omega
    rcases cs with z | z | z | z <;> rw [z] <;> decide
  intro d
  induction d with
  | zero =>
    intro h I Q V K hd hLc hLe hI2 hI3 hG hQ hK
    have hlen := hQ.len
    have hle : I pa 6 ≤ nI h := by rw [hQ.1]; exact nI_le (by omega) (by omega)
    by_cases hs : (0, p0, q0) ∈ Q
    · have hv := inV hG hQ _ hs
      have hL1 := (hQ.2.2.1 _ ok0 (fun z => by cases z)).1 hs
      refine ⟨nI (V (0, p0, q0)), I, Q, V, K, h, wp I _ _ _ ⟨fun _ => ⟨v0, fun _ => ⟨v0, ?_, rfl⟩, fun z => absurd ?_ z⟩, fun z => absurd hle z⟩, Or.inl ⟨_, hv, (hG.2.1 _ hs).2.2.2, rfl⟩, hG, hQ, fun _ _ _ _ => rfl, fun _ _ => rfl, fun t ht htl => ⟨hs, (nI_eq (by omega) (by omega)).mp ht⟩⟩
      · rw [cl0, hL1]
      · rw [cl0, hL1]; exact nI_pos' (by omega)
    · obtain ⟨hk3, hL1⟩ := (hQ.2.2.1 _ ok0 (fun z => by cases z)).2 hs
      refine ⟨-1, I, Q, V, K, h, wp I _ _ _ ⟨fun _ => ⟨v0, fun z => ?_, fun _ => ⟨rfl, rfl⟩⟩, fun z => absurd hle z⟩, Or.inr ⟨rfl, fun n => hG.done hf he (by omega) Nat.zero_lt_two hp0 hq0 hs n⟩, hG, hQ, fun _ _ _ _ => rfl, fun _ _ => rfl, fun t ht htl => absurd ht.symm (nI_ne_m1 (by omega))⟩
      rw [cl0, hL1] at z
      exact absurd z (neg4 _ hk3)
  | succ d ih =>
    intro h I Q V K hd hLc hLe hI2 hI3 hG hQ hK
    have hlen := hQ.len
    by_cases hle : Q.length ≤ h
    · have hle' : I pa 6 ≤ nI h := by rw [hQ.1]; exact nI_le (by omega) (by omega)
      by_cases hs : (0, p0, q0) ∈ Q
      · have hv := inV hG hQ _ hs
        have hL1 := (hQ.2.2.1 _ ok0 (fun z => by cases z)).1 hs
        refine ⟨nI (V (0, p0, q0)), I, Q, V, K, h, wp I _ _ _ ⟨fun _ => ⟨v0, fun _ => ⟨v0, ?_, rfl⟩, fun z => absurd ?_ z⟩, fun z => absurd hle' z⟩, Or.inl ⟨_, hv, (hG.2.1 _ hs).2.2.2, rfl⟩, hG, hQ, fun _ _ _ _ => rfl, fun _ _ => rfl, fun t ht htl => ⟨hs, (nI_eq (by omega) (by omega)).mp ht⟩⟩
        · rw [cl0, hL1]
        · rw [cl0, hL1]; exact nI_pos' (by omega)
      · obtain ⟨hk3, hL1⟩ := (hQ.2.2.1 _ ok0 (fun z => by cases z)).2 hs
        refine ⟨-1, I, Q, V, K, h, wp I _ _ _ ⟨fun _ => ⟨v0, fun z => ?_, fun _ => ⟨rfl, rfl⟩⟩, fun z => absurd hle' z⟩, Or.inr ⟨rfl, fun n => hG.done hf he (by omega) Nat.zero_lt_two hp0 hq0 hs n⟩, hG, hQ, fun _ _ _ _ => rfl, fun _ _ => rfl, fun t ht htl => absurd ht.symm (nI_ne_m1 (by omega))⟩
        rw [cl0, hL1] at z
        exact absurd z (neg4 _ hk3)
    · have hh : h < Q.length := by omega
      have n6 : ¬ I pa 6 ≤ nI h := by rw [hQ.1]; exact nI_ge hh (by omega)
      have nq : ¬ nI (Z.2.2.1 (pa + 2)) ≤ nI h := by rw [b3]; exact nI_ge (by omega) (by omega)
      by_cases hs : (0, p0, q0) ∈ Q
      · have hv := inV hG hQ _ hs
        have hL1 := (hQ.2.2.1 _ ok0 (fun z => by cases z)).1 hs
        have hpos : (0 : Int32) ≤ I (pa + 1) (nI (ixT N (0, p0, q0))).toNatClampNeg := by rw [cl0, hL1]; exact nI_pos' (by omega)
        refine ⟨nI (V (0, p0, q0)), I, Q, V, K, h, wp I _ _ _ ⟨fun z => absurd z n6, fun _ => ⟨fun z => absurd z nq, fun _ => ⟨v0, fun _ => ⟨v0, fun _ => ⟨v0, ?_, rfl⟩, fun z => absurd hpos z⟩, fun z => absurd hpos z⟩⟩⟩, Or.inl ⟨_, hv, (hG.2.1 _ hs).2.2.2, rfl⟩, hG, hQ, fun _ _ _ _ => rfl, fun _ _ => rfl, fun t ht htl => ⟨hs, (nI_eq (by omega) (by omega)).mp ht⟩⟩
        rw [cl0, hL1]
      · obtain ⟨hk3, hL1⟩ := (hQ.2.2.1 _ ok0 (fun z => by cases z)).2 hs
        have hneg : ¬ (0 : Int32) ≤ I (pa + 1) (nI (ixT N (0, p0, q0))).toNatClampNeg := by rw [cl0, hL1]; exact neg4 _ hk3
        have vq : vp_in (nI h) (Z.2.2.1 (pa + 2)) := by rw [b3]; exact vp_in_nI (by omega) (by omega)
        obtain ⟨k1, c, p⟩ : ∃ k c p, Q.getD h (0, 0, 0) = (k, c, p) := ⟨_, _, _, rfl⟩
        obtain ⟨p, hQh⟩ := p
        have hm : (k1, c, p) ∈ Q := by rw [← hQh]; exact getD_mem hh
        obtain ⟨hk1, hc, hp, hvv⟩ := hG.2.1 _ hm
        have hk1 : k1 < 2 := hk1
        have hc : P c := hc
        have hp : P p := hp
        have hcN := hPN c hc
        have hpN := hPN p hp
        have okh := hQ.2.2.2.1 _ hm
        have ixh := ix_lt okh
        have eq : I (pa + 2) (nI h).toNatClampNeg = nI (ixT N (k1, c, p)) := by rw [nI_clamp (by omega), hQ.2.1 h hh, hQh]
        have hN0 : ¬ nI N = 0 := nI_ne0 (by omega) (by omega)
        have l1 := ix_lt1 hcN hpN
        have cs : k1 = 0 ∨ k1 = 1 := by omega
        rcases cs with rfl | rfl
        · have ei : ixT N (0, c, p) = c * N + p := by show 0 * (N * N) + (c * N + p) = _; omega
          obtain ⟨J, Q2, V2, K2, r1, r2, r3, r4, r5, r6, r7, r8⟩ := th_run (g := g) (L := L) (f := f) hE hN hPN hf he hTe hse hc hp (sgF te (4 * N) p).length 0 I Q V K (Nat.zero_add _) hLe hI2 hI3 hG hh hQh hQ (fun c' q h1 h2 h3 => by
            rw [hK c' q h1 h2 h3, List.drop_zero]
            exact TT_next hG hh hQh hTe h2 (hPN q h2))
          have G2 : GIz P f e Q2 (h + 1) V2 := r2.next r3 (fun c' p' _ _ _ tap _ z => by rw [r4] at z; cases z) (fun c' q h1 h2 h3 => by
            have hz := r6 c' q h1 h2 h3
            have h3k := ((r5.2.2.1 (1, c', q) ⟨Nat.one_lt_two, hPN c' h1, hPN q h2⟩ (fun z => by cases z)).2 h3).1
            rw [hz] at h3k
            obtain ⟨tap, ht, hd'⟩ := c4_some h3k
            exact ⟨tap, ht, of_decide_eq_false hd'⟩)
          obtain ⟨r, I1, Q1, V1, K1, h1', u1, u2, u3, u4, u5, u6, u7⟩ := ih (h + 1) J Q2 V2 K2 (by omega) (hLc.kept (r7 _ (by omega) (by omega) (by omega)) (r7 _ (by omega) (by omega) (by omega))) (hLe.kept (r7 _ (by omega) (by omega) (by omega)) (r7 _ (by omega) (by omega) (by omega))) (by rw [r8 2 (by decide)]; exact hI2) (by rw [r8 3 (by decide)]; exact hI3) G2 r5 r6
          refine ⟨r, I1, Q1, V1, K1, h1', wp I _ _ _ ⟨fun z => absurd z n6, fun _ => ⟨fun z => absurd z nq, fun _ => ⟨v0, fun z => absurd z hneg, fun _ => ⟨vq, ?_⟩⟩⟩⟩, u2, u3, u4, fun a h1 h2 h3 => by rw [u5 a h1 h2 h3, r7 a h1 h2 h3], fun k hk => by rw [u6 k hk, r8 k hk], u7⟩
          rw [eq, hI3]
          refine ⟨fun z => ?_, fun _ => ⟨vq, J, L, cp_X0_settleThiefs e1 f1 f2 ?_, fun y hy => by rw [hy, nI_1]; exact u1⟩⟩
          · have := (nI_leI (by omega) (by omega)).mp z
            omega
          · have ed : nI (ixT N (0, c, p)) / nI N = nI c := by
              rw [pk_div (by omega) (by omega) (by omega), ei, Nat.mul_comm, Nat.mul_add_div (by omega), Nat.div_eq_of_lt hpN, Nat.add_zero]
            have em : nI (ixT N (0, c, p)) - nI c * nI N = nI p := by
              have := pk_rem (a := ixT N (0, c, p)) (d := N) (by omega) (by omega) (by omega)
              rw [ed] at this
              rw [this, ei, Nat.mul_comm, Nat.mul_add_mod, Nat.mod_eq_of_lt hpN]
            rw [hI2]
            refine ⟨hN0, fun y2 hy2 => ⟨hN0, fun y4 hy4 => ?_⟩⟩
            rw [ed] at hy2 hy4
            rw [em] at hy4
            rw [hy2, hy4, nI_clamp (by omega), hLe.1 p (by omega), f3]
            exact ⟨vp_in_nI (by omega) (by omega), fun y6 hy6 => by rw [hy6]; exact r1⟩
        · have ei : ixT N (1, c, p) = N * N + (c * N + p) := by show 1 * (N * N) + (c * N + p) = _; omega
          obtain ⟨J, Q2, V2, r1, r2, r3, r4, r5, r6, r7, r8, r9⟩ := ca_run (g := g) (L := L) (e := e) hE hN hPN hf he hTc hsc hc hp (sgF tc (4 * N) c).length 0 I Q V K (Nat.zero_add _) hLc hI2 hI3 hG hh hQh hQ (fun c' q h1 h2 h3 => by
            rw [hK c' q h1 h2 h3, TT_same hh (by rw [hQh])]) (fun i hi => absurd hi (by omega))
          have G2 : GIz P f e Q2 (h + 1) V2 := r2.next r3 (fun c' p' h1 h2 h3 tap ht z => by
            rw [r4] at z
            have z1 := (Prod.mk.inj (Prod.mk.inj z).2).1
            have z2 := (Prod.mk.inj (Prod.mk.inj z).2).2
            have tq := hTc.2 c' tap h1 ht
            rw [z1] at tq
            have := sg_in tq (e := 4 * N) (by have := hPN c' h1; omega)
            rw [show (4 * c' + tap) / 4 = c' by omega] at this
            have := r7 c' this
            rw [← z2] at this
            exact h3 this) (fun c' q h1 h2 h3 => by
            have hz := r6 c' q h1 h2 h3
            have h3k := ((r5.2.2.1 (1, c', q) ⟨Nat.one_lt_two, hPN c' h1, hPN q h2⟩ (fun z => by cases z)).2 h3).1
            rw [hz] at h3k
            obtain ⟨tap, ht, hd'⟩ := c4_some h3k
            exact ⟨tap, ht, of_decide_eq_false hd'⟩)
          obtain ⟨r, I1, Q1, V1, K1, h1', u1, u2, u3, u4, u5, u6, u7⟩ := ih (h + 1) J Q2 V2 K (by omega) (hLc.kept (r8 _ (by omega) (by omega) (by omega)) (r8 _ (by omega) (by omega) (by omega))) (hLe.kept (r8 _ (by omega) (by omega) (by omega)) (r8 _ (by omega) (by omega) (by omega))) (by rw [r9 2 (by decide)]; exact hI2) (by rw [r9 3 (by decide)]; exact hI3) G2 r5 r6
          refine ⟨r, I1, Q1, V1, K1, h1', wp I _ _ _ ⟨fun z => absurd z n6, fun _ => ⟨fun z => absurd z nq, fun _ => ⟨v0, fun z => absurd z hneg, fun _ => ⟨vq, ?_⟩⟩⟩⟩, u2, u3, u4, fun a h1 h2 h3 => by rw [u5 a h1 h2 h3, r8 a h1 h2 h3], fun k hk => by rw [u6 k hk, r9 k hk], u7⟩
          rw [eq, hI3]
          refine ⟨fun _ => ⟨vq, J, L, cp_X0_settleCatchers e1 c1 c2 ?_, fun y hy => by rw [hy, nI_1]; exact u1⟩, fun z => absurd (nI_le (by omega) (by omega)) z⟩
          have ed : (nI (ixT N (1, c, p)) - nI (N * N)) / nI N = nI c := by
            rw [pk_sub (by omega), show ixT N (1, c, p) - N * N = c * N + p by omega, pk_div (by omega) (by omega) (by omega), Nat.mul_comm, Nat.mul_add_div (by omega), Nat.div_eq_of_lt hpN, Nat.add_zero]
          have em : nI (ixT N (1, c, p)) - nI (ixT N (1, c, p)) / nI N * nI N = nI p := by
            rw [pk_rem (by omega) (by omega) (by omega), ei, show N * N + (c * N + p) = N * (N + c) + p by rw [Nat.mul_add, Nat.mul_comm c N]; omega, Nat.mul_add_mod, Nat.mod_eq_of_lt hpN]
          rw [hI2, hI3]
          refine ⟨hN0, fun y2 hy2 => ⟨hN0, fun y4 hy4 => ?_⟩⟩
          rw [ed] at hy2
          rw [em] at hy4
          rw [hy2, hy4, nI_clamp (by omega), hLc.1 c (by omega), c3]
          exact ⟨vp_in_nI (by omega) (by omega), fun y6 hy6 => by rw [hy6]; exact r1⟩
end TURNS2
