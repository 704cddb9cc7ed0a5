/-! the class's chase: settleThiefs(), settleCatchers() -/
def TGz (P : Nat → Prop) (e : Nat → Nat → Nat) (tg : Nat → Option Nat) : Prop := (∀ i q, tg i = some q → P (i / 4) ∧ q = e (i / 4) (i % 4)) ∧ ∀ c tap, P c → tap < 4 → tg (4 * c + tap) = some (e c tap)
def TTz (e : Nat → Nat → Nat) (Q : List TR) (m c q : Nat) : Nat := c4F (fun tap => decide ((0, c, e q tap) ∈ Q.take m))
theorem TT_app {e : Nat → Nat → Nat} {Q : List TR} {s : TR} {m c q : Nat} (h : m ≤ Q.length) : TTz e (Q ++ [s]) m c q = TTz e Q m c q := by
  unfold TTz
  rw [List.take_append_of_le_length h]
theorem ct_drop {l : List Nat} {j q : Nat} (hj : j < l.length) : ctL q (l.drop j) = (if l.getD j 0 = q then 1 else 0) + ctL q (l.drop (j + 1)) := by
  rw [List.drop_eq_getElem_cons hj]
  show (if l[j] = q then 1 else 0) + _ = _
  rw [List.getD_eq_getElem?_getD, List.getElem?_eq_getElem hj]; rfl
section SETTLE2
variable {g : GE} {Z : Zs} {L : Nat → Nat → Int64} {pa N h : Nat} {P : Nat → Prop} {f e : Nat → Nat → Nat} {tg : Nat → Option Nat}
theorem seg_at {tg : Nat → Option Nat} {m p j : Nat} (hj : j < (sgF tg m p).length) : ∃ i, i < m ∧ i / 4 = (sgF tg m p).getD j 0 ∧ tg i = some p := by
  refine sg_mem ?_
  rw [List.getD_eq_getElem?_getD, List.getElem?_eq_getElem hj]
  exact List.getElem_mem hj
theorem th_run (hE : PEz Z pa N) (hN : N ≤ 100) (hPN : ∀ c, P c → c < N) (hf : ∀ c tap, P c → P (f c tap)) (he : ∀ c tap, P c → P (e c tap)) (hT : TGz P e tg) (hsum : sm N (fun q => (sgF tg (4 * N) q).length) ≤ 4 * N) {c p : Nat} (hc : P c) (hp : P p) : ∀ (d j : Nat) (I : Nat → Nat → Int32) (Q : List TR) (V K : TR → Nat), j + d = (sgF tg (4 * N) p).length → LKz I (pa + 5) (pa + 6) N tg → I pa 2 = nI N → I pa 3 = nI (N * N) → GIz P f e Q h V → h < Q.length → Q.getD h (0, 0, 0) = (0, c, p) → QMz I pa N Q V K none → (∀ c' q, P c' → P q → (1, c', q) ∉ Q → K (1, c', q) + (if c' = c then ctL q ((sgF tg (4 * N) p).drop j) else 0) = TTz e Q (h + 1) c' q) →
    ∃ I1 Q1 V1 K1, Lp_X0_settleThiefs_22 g 2 pa (nI (ixT N (0, c, p))) (nI c) (nI p) (nI (sm p (fun q => (sgF tg (4 * N) q).length) + j)) (Z, I, L) none (Z, I1, L) ∧ GIz P f e Q1 h V1 ∧ h < Q1.length ∧ Q1.getD h (0, 0, 0) = (0, c, p) ∧ QMz I1 pa N Q1 V1 K1 none ∧ (∀ c' q, P c' → P q → (1, c', q) ∉ Q1 → K1 (1, c', q) = TTz e Q1 (h + 1) c' q) ∧ (∀ a, a ≠ pa → a ≠ pa + 1 → a ≠ pa + 2 → I1 a = I a) ∧ ∀ k, k ≠ 6 → I1 pa k = I pa k := by
  obtain ⟨e0, e1, e2, e3, ⟨a1, a2, a3⟩, ⟨b1, b2, b3⟩, ⟨c1, c2, c3⟩, ⟨d1, d2, d3⟩, ⟨f1, f2, f3⟩, ⟨g1, g2, g3⟩⟩ := id hE
  have hNN : N * N ≤ 100 * 100 := Nat.mul_le_mul hN hN
  have hcN := hPN c hc
  have hpN := hPN p hp
  have sS : sm (p + 1) (fun q => (sgF tg (4 * N) q).length) = sm p (fun q => (sgF tg (4 * N) q).length) + (sgF tg (4 * N) p).length := rfl
  have sN : sm (p + 1) (fun q => (sgF tg (4 * N) q).length) ≤ sm N (fun q => (sgF tg (4 * N) q).length) := sm_mono hpN
  have ok0 : okT N (0, c, p) := ⟨Nat.zero_lt_two, hcN, hpN⟩
  have ix0 := ix_lt ok0
  intro d
  induction d with
  | zero =>
    intro j I Q V K hj hL hI2 hI3 hG hh hQh hQ hK
    have hj : j = (sgF tg (4 * N) p).length := hj
    refine ⟨I, Q, V, K, wp_X0_settleThiefs_22 e1 f1 f2 g1 g2 a1 a2 ?_, hG, hh, hQh, hQ, fun c' q h1 h2 h3 => ?_, fun _ _ _ _ => rfl, fun _ _ => rfl⟩
    · rw [nI_1, nI_clamp (by omega), hL.1 (p + 1) (by omega), f3]
      exact ⟨vp_in_nI (by omega) (by omega), fun _ => ⟨rfl, rfl⟩, fun z => absurd (nI_le (by omega) (by omega)) z⟩
    · have := hK c' q h1 h2 h3
      rw [hj, List.drop_eq_nil_of_le (Nat.le_refl _)] at this
      have z : (if c' = c then ctL q [] else 0) = 0 := by split <;> rfl
      rw [z] at this
      exact this
  | succ d ih =>
    intro j I Q V K hj hL hI2 hI3 hG hh hQh hQ hK
    have hjl : j < (sgF tg (4 * N) p).length := by omega
    obtain ⟨q, hq⟩ : ∃ q, q = (sgF tg (4 * N) p).getD j 0 := ⟨_, rfl⟩
    obtain ⟨i, i1, i2, i3⟩ := seg_at hjl
    rw [← hq] at i2
    obtain ⟨hPq, hpe⟩ := hT.1 i p i3
    rw [i2] at hPq hpe
    have hqN := hPN q hPq
    have oks : okT N (1, c, q) := ⟨Nat.one_lt_two, hcN, hqN⟩
    have ixs := ix_lt oks
    have ct : ∀ q', ctL q' ((sgF tg (4 * N) p).drop j) = (if q = q' then 1 else 0) + ctL q' ((sgF tg (4 * N) p).drop (j + 1)) := fun q' => by rw [ct_drop hjl, ← hq]
    have eIx : nI (N * N) + nI c * nI N + nI q = nI (ixT N (1, c, q)) := by
      rw [pk_mul, nI_add, nI_add]
      congr 1
      show _ = 1 * (N * N) + (c * N + q)
      omega
    have pre : ∀ {I1 : Nat → Nat → Int32}, (vp_in (nI (ixT N (1, c, q))) (Z.2.2.1 (pa + 1)) ∧ ((0 ≤ I (pa + 1) (ixT N (1, c, q)) → ∀ y5 : Int32, y5 = nI (sm p (fun q => (sgF tg (4 * N) q).length) + j) + 1 → Lp_X0_settleThiefs_22 g 2 pa (nI (ixT N (0, c, p))) (nI c) (nI p) y5 (Z, I, L) none (Z, I1, L)) ∧ (¬ 0 ≤ I (pa + 1) (ixT N (1, c, q)) → vp_in (nI (ixT N (1, c, q))) (Z.2.2.1 (pa + 1)) ∧ vp_in (nI (ixT N (1, c, q))) (Z.2.2.1 (pa + 1)) ∧ ∀ I8 : Nat → Nat → Int32, I8 = rw1 I (pa + 1) (upd (I (pa + 1)) (ixT N (1, c, q)) (I (pa + 1) (ixT N (1, c, q)) + 1)) → vp_in (nI (ixT N (1, c, q))) (Z.2.2.1 (pa + 1)) ∧ ((¬ I8 (pa + 1) (ixT N (1, c, q)) = 0 → ∀ y10 : Int32, y10 = nI (sm p (fun q => (sgF tg (4 * N) q).length) + j) + 1 → Lp_X0_settleThiefs_22 g 2 pa (nI (ixT N (0, c, p))) (nI c) (nI p) y10 (Z, I8, L) none (Z, I1, L)) ∧ (I8 (pa + 1) (ixT N (1, c, q)) = 0 → vp_in (nI (ixT N (0, c, p))) (Z.2.2.1 (pa + 1)) ∧ ∃ (I12 : Nat → Nat → Int32) (L13 : Nat → Nat → Int64), Cl g 1 mu_X0_settle [rf g pa, .int (nI (ixT N (1, c, q))), .int (I8 (pa + 1) (nI (ixT N (0, c, p))).toNatClampNeg + 1)] (Z, I8, L) none (Z, I12, L13) ∧ ∀ y15 : Int32, y15 = nI (sm p (fun q => (sgF tg (4 * N) q).length) + j) + 1 → Lp_X0_settleThiefs_22 g 2 pa (nI (ixT N (0, c, p))) (nI c) (nI p) y15 (Z, I12, L13) none (Z, I1, L)))))) → Lp_X0_settleThiefs_22 g 2 pa (nI (ixT N (0, c, p))) (nI c) (nI p) (nI (sm p (fun q => (sgF tg (4 * N) q).length) + j)) (Z, I, L) none (Z, I1, L) := fun hc2 => by
      refine wp_X0_settleThiefs_22 e1 f1 f2 g1 g2 a1 a2 ?_
      rw [nI_1, nI_clamp (by omega), nI_clamp (by omega), hL.1 (p + 1) (by omega), hL.2 p j hpN hjl, f3, g3, hI2, hI3, ← hq, eIx]
      refine ⟨vp_in_nI (by omega) (by omega), fun z => absurd z (nI_ge (by omega) (by omega)), fun _ => ⟨vp_in_nI (by omega) (by omega), fun y3 hy3 => ?_⟩⟩
      rw [hy3, nI_clamp (by omega)]
      exact hc2
    have v1 : vp_in (nI (ixT N (1, c, q))) (Z.2.2.1 (pa + 1)) := by rw [a3]; exact vp_in_nI ixs (by omega)
    have v0 : vp_in (nI (ixT N (0, c, p))) (Z.2.2.1 (pa + 1)) := by rw [a3]; exact vp_in_nI ix0 (by omega)
    obtain ⟨q3a, q3b⟩ := hQ.2.2.1 (1, c, q) oks (fun z => by cases z)
    by_cases hs : (1, c, q) ∈ Q
    · have hL1 := q3a hs
      have hV31 : V (1, c, q) < 2 ^ 31 := by
        obtain ⟨i', hi1, hi2⟩ := mem_idx hs
        have := hG.2.2.2.2.2.2.2.2 i' hi1
        rw [hi2] at this
        have := hQ.len
        omega
      obtain ⟨I1, Q1, V1, K1, r1, r2⟩ := ih (j + 1) I Q V K (by omega) hL hI2 hI3 hG hh hQh hQ (fun c' q' h1 h2 h3 => by
        rw [← hK c' q' h1 h2 h3]
        by_cases hcc : c' = c
        · rw [if_pos hcc, if_pos hcc, ct q', if_neg (fun z => h3 (by rw [hcc, ← z]; exact hs))]; omega
        · rw [if_neg hcc, if_neg hcc])
      refine ⟨I1, Q1, V1, K1, pre ⟨v1, fun _ y hy => by rw [hy, nI_1]; exact r1, fun z => absurd ?_ z⟩, r2⟩
      rw [hL1]; exact nI_pos' hV31
    · obtain ⟨hK3, hL1⟩ := q3b hs
      have hneg : ¬ (0 : Int32) ≤ I (pa + 1) (ixT N (1, c, q)) := by
        rw [hL1]
        have cs : K (1, c, q) = 0 ∨ K (1, c, q) = 1 ∨ K (1, c, q) = 2 ∨ K (1, c, q) = 3 := by omega
        rcases cs with z | z | z | z <;> rw [z] <;> decide
      have hup : I (pa + 1) (ixT N (1, c, q)) + 1 = nI (K (1, c, q) + 1) - 4 := by
        rw [hL1]
        have cs : K (1, c, q) = 0 ∨ K (1, c, q) = 1 ∨ K (1, c, q) = 2 ∨ K (1, c, q) = 3 := by omega
        rcases cs with z | z | z | z <;> rw [z] <;> decide
      obtain ⟨I8, h8⟩ : ∃ J, J = rw1 I (pa + 1) (upd (I (pa + 1)) (ixT N (1, c, q)) (nI (K (1, c, q) + 1) - 4)) := ⟨_, rfl⟩
      obtain ⟨K8, hK8⟩ : ∃ K8 : TR → Nat, ∀ u, K8 u = if u = (1, c, q) then K (1, c, q) + 1 else K u := ⟨_, fun _ => rfl⟩
      obtain ⟨hQ8, o8⟩ := hQ.count oks hs h8 hK8
      have e8 : I8 (pa + 1) (ixT N (1, c, q)) = nI (K (1, c, q) + 1) - 4 := by rw [h8, rw1_s, upd_s]
      have hL8 : LKz I8 (pa + 5) (pa + 6) N tg := hL.kept (o8 _ (by omega)) (o8 _ (by omega))
      by_cases h3 : K (1, c, q) = 3
      · have hTT := hK c q hc hPq hs
        rw [if_pos rfl, ct q, if_pos rfl, h3] at hTT
        have hT4 : TTz e Q (h + 1) c q = 4 := by
          have : TTz e Q (h + 1) c q ≤ 4 := c4_le _
          omega
        have alln := c4_all hT4
        have hw : wnF f e (V (Q.getD h (0, 0, 0)) + 1) 1 c q := Or.inr (Or.inr ⟨by decide, fun tap ht => by
          have := of_decide_eq_true (alln tap ht)
          obtain ⟨i', hi1, hi2, hi3⟩ := mem_take.mp this
          have hv := hG.2.2.1 i' h (by omega) hh
          rw [hi3] at hv
          have hm : (0, c, e q tap) ∈ Q := by rw [← hi3]; exact getD_mem hi2
          exact wn_up (hG.2.1 _ hm).2.2.2.1 _ hv⟩)
        obtain ⟨V1, hV1⟩ : ∃ V1 : TR → Nat, ∀ u, V1 u = if u = (1, c, q) then V (Q.getD h (0, 0, 0)) + 1 else V u := ⟨_, fun _ => rfl⟩
        have hG1 := hG.put hf he hh (show (1 : Nat) < 2 by decide) hc hPq hs hw hV1
        rw [if_pos h3] at hQ8
        obtain ⟨I12, s1, s2, s3, s4⟩ := sp_settle (g := g) (L := L) (v := V (Q.getD h (0, 0, 0)) + 1) hE hN oks hs (Or.inr rfl) hQ8 hV1
        have len : (Q ++ [((1 : Nat), c, q)]).length = Q.length + 1 := by rw [List.length_append, List.length_singleton]
        obtain ⟨I1, Q1, V2, K2, r1, r2, r3, r4, r5, r6, r7, r8⟩ := ih (j + 1) I12 (Q ++ [(1, c, q)]) V1 K8 (by omega) (hL8.kept (s3 _ (by omega) (by omega) (by omega)) (s3 _ (by omega) (by omega) (by omega))) (by rw [s4 2 (by decide), o8 pa (by omega)]; exact hI2) (by rw [s4 3 (by decide), o8 pa (by omega)]; exact hI3) hG1 (by omega) (by rw [getD_app, if_pos hh]; exact hQh) s2 (fun c' q' h1 h2 h3' => by
          have hne : (1, c', q') ≠ ((1 : Nat), c, q) := fun z => h3' (List.mem_append_right _ (List.mem_singleton.mpr z))
          have hnq : (1, c', q') ∉ Q := fun z => h3' (List.mem_append_left _ z)
          rw [hK8, if_neg hne, TT_app (by omega), ← hK c' q' h1 h2 hnq]
          by_cases hcc : c' = c
          · rw [if_pos hcc, if_pos hcc, ct q', if_neg (fun z => hne (by rw [hcc, z]))]; omega
          · rw [if_neg hcc, if_neg hcc])
        refine ⟨I1, Q1, V2, K2, pre ⟨v1, fun z => absurd z hneg, fun _ => ⟨v1, v1, fun J hJ => ⟨v1, fun z => ?_, fun _ => ⟨v0, I12, L, ?_, fun y hy => by rw [hy, nI_1]; exact r1⟩⟩⟩⟩, r2, r3, r4, r5, r6, fun a h1 h2 h3 => by rw [r7 a h1 h2 h3, s3 a h1 h2 h3, o8 a h2], fun k hk => by rw [r8 k hk, s4 k hk, o8 pa (by omega)]⟩
        · rw [hup, ← h8] at hJ
          rw [hJ, e8, h3] at z
          exact absurd (by decide) z
        · rw [hup, ← h8] at hJ
          have es : I8 (pa + 1) (ixT N (0, c, p)) = nI (V (Q.getD h (0, 0, 0))) := by
            have hm : (0, c, p) ∈ Q := by rw [← hQh]; exact getD_mem hh
            have := (hQ8.2.2.1 (0, c, p) ok0 (fun z => by cases z)).1 hm
            rw [this, hQh]
          rw [hJ, nI_clamp (by omega), es, nI_1]
          exact s1
      · rw [if_neg h3] at hQ8
        obtain ⟨I1, Q1, V2, K2, r1, r2, r3, r4, r5, r6, r7, r8⟩ := ih (j + 1) I8 Q V K8 (by omega) hL8 (by rw [o8 pa (by omega)]; exact hI2) (by rw [o8 pa (by omega)]; exact hI3) hG hh hQh hQ8 (fun c' q' h1 h2 h3' => by
          rw [← hK c' q' h1 h2 h3', hK8]
          by_cases hcc : c' = c
          · rw [if_pos hcc, if_pos hcc, ct q']
            by_cases hqq : q = q'
            · rw [if_pos hqq, if_pos (by rw [hcc, hqq]), hcc, hqq]; omega
            · rw [if_neg hqq, if_neg (fun z => hqq (Prod.mk.inj (Prod.mk.inj z).2).2.symm)]; omega
          · rw [if_neg hcc, if_neg hcc, if_neg (fun z => hcc (Prod.mk.inj (Prod.mk.inj z).2).1)])
        refine ⟨I1, Q1, V2, K2, pre ⟨v1, fun z => absurd z hneg, fun _ => ⟨v1, v1, fun J hJ => ⟨v1, fun _ y hy => ?_, fun z => ?_⟩⟩⟩, r2, r3, r4, r5, r6, fun a h1 h2 h3 => by rw [r7 a h1 h2 h3, o8 a h2], fun k hk => by rw [r8 k hk, o8 pa (by omega)]⟩
        · rw [hup, ← h8] at hJ
          rw [hJ, hy, nI_1]; exact r1
        · rw [hup, ← h8] at hJ
          rw [hJ, e8] at z
          have cs : K (1, c, q) = 0 ∨ K (1, c, q) = 1 ∨ K (1, c, q) = 2 := by omega
          rcases cs with y | y | y <;> rw [y] at z <;> exact absurd z (by decide)
theorem ca_run (hE : PEz Z pa N) (hN : N ≤ 100) (hPN : ∀ c, P c → c < N) (hf : ∀ c tap, P c → P (f c tap)) (he : ∀ c tap, P c → P (e c tap)) (hT : TGz P f tg) (hsum : sm N (fun q => (sgF tg (4 * N) q).length) ≤ 4 * N) {c p : Nat} (hc : P c) (hp : P p) : ∀ (d j : Nat) (I : Nat → Nat → Int32) (Q : List TR) (V K : TR → Nat), j + d = (sgF tg (4 * N) c).length → LKz I (pa + 3) (pa + 4) N tg → I pa 2 = nI N → I pa 3 = nI (N * N) → GIz P f e Q h V → h < Q.length → Q.getD h (0, 0, 0) = (1, c, p) → QMz I pa N Q V K none → (∀ c' q, P c' → P q → (1, c', q) ∉ Q → K (1, c', q) = TTz e Q (h + 1) c' q) → (∀ i, i < j → (0, (sgF tg (4 * N) c).getD i 0, p) ∈ Q) →
    ∃ I1 Q1 V1, Lp_X0_settleCatchers_27 g 2 pa (nI (ixT N (1, c, p))) (nI c) (nI p) (nI (sm c (fun q => (sgF tg (4 * N) q).length) + j)) (Z, I, L) none (Z, I1, L) ∧ GIz P f e Q1 h V1 ∧ h < Q1.length ∧ Q1.getD h (0, 0, 0) = (1, c, p) ∧ QMz I1 pa N Q1 V1 K none ∧ (∀ c' q, P c' → P q → (1, c', q) ∉ Q1 → K (1, c', q) = TTz e Q1 (h + 1) c' q) ∧ (∀ q, q ∈ sgF tg (4 * N) c → (0, q, p) ∈ Q1) ∧ (∀ a, a ≠ pa → a ≠ pa + 1 → a ≠ pa + 2 → I1 a = I a) ∧ ∀ k, k ≠ 6 → I1 pa k = I pa k := by
  obtain ⟨e0, e1, e2, e3, ⟨a1, a2, a3⟩, ⟨b1, b2, b3⟩, ⟨c1, c2, c3⟩, ⟨d1, d2, d3⟩, ⟨f1, f2, f3⟩, ⟨g1, g2, g3⟩⟩ := id hE
  have hNN : N * N ≤ 100 * 100 := Nat.mul_le_mul hN hN
  have hcN := hPN c hc
  have hpN := hPN p hp
  have sS : sm (c + 1) (fun q => (sgF tg (4 * N) q).length) = sm c (fun q => (sgF tg (4 * N) q).length) + (sgF tg (4 * N) c).length := rfl
  have sN : sm (c + 1) (fun q => (sgF tg (4 * N) q).length) ≤ sm N (fun q => (sgF tg (4 * N) q).length) := sm_mono hcN
  have ok0 : okT N (1, c, p) := ⟨Nat.one_lt_two, hcN, hpN⟩
  have ix0 := ix_lt ok0
  intro d
  induction d with
  | zero =>
    intro j I Q V K hj hL hI2 hI3 hG hh hQh hQ hK hS
    have hj : j = (sgF tg (4 * N) c).length := hj
    refine ⟨I, Q, V, wp_X0_settleCatchers_27 e1 c1 c2 d1 d2 a1 a2 ?_, hG, hh, hQh, hQ, hK, fun q hq => ?_, fun _ _ _ _ => rfl, fun _ _ => rfl⟩
    · rw [nI_1, nI_clamp (by omega), hL.1 (c + 1) (by omega), c3]
      exact ⟨vp_in_nI (by omega) (by omega), fun _ => ⟨rfl, rfl⟩, fun z => absurd (nI_le (by omega) (by omega)) z⟩
    · obtain ⟨i, hi, hi2⟩ := List.mem_iff_getElem.mp hq
      have := hS i (by omega)
      rw [List.getD_eq_getElem?_getD, List.getElem?_eq_getElem hi] at this
      rw [← hi2]; exact this
  | succ d ih =>
    intro j I Q V K hj hL hI2 hI3 hG hh hQh hQ hK hS
    have hjl : j < (sgF tg (4 * N) c).length := by omega
    obtain ⟨q, hq⟩ : ∃ q, q = (sgF tg (4 * N) c).getD j 0 := ⟨_, rfl⟩
    obtain ⟨i, i1, i2, i3⟩ := seg_at hjl
    rw [← hq] at i2
    obtain ⟨hPq, hpe⟩ := hT.1 i c i3
    rw [i2] at hPq hpe
    have hqN := hPN q hPq
    have oks : okT N (0, q, p) := ⟨Nat.zero_lt_two, hqN, hpN⟩
    have ixs := ix_lt oks
    have eIx : nI q * nI N + nI p = nI (ixT N (0, q, p)) := by
      rw [pk_mul, nI_add]
      congr 1
      show _ = 0 * (N * N) + (q * N + p)
      omega
    have pre : ∀ {I1 : Nat → Nat → Int32}, (vp_in (nI (ixT N (0, q, p))) (Z.2.2.1 (pa + 1)) ∧ ((0 ≤ I (pa + 1) (ixT N (0, q, p)) → ∀ y5 : Int32, y5 = nI (sm c (fun q => (sgF tg (4 * N) q).length) + j) + 1 → Lp_X0_settleCatchers_27 g 2 pa (nI (ixT N (1, c, p))) (nI c) (nI p) y5 (Z, I, L) none (Z, I1, L)) ∧ (¬ 0 ≤ I (pa + 1) (ixT N (0, q, p)) → vp_in (nI (ixT N (1, c, p))) (Z.2.2.1 (pa + 1)) ∧ ∃ (I7 : Nat → Nat → Int32) (L8 : Nat → Nat → Int64), Cl g 1 mu_X0_settle [rf g pa, .int (nI (ixT N (0, q, p))), .int (I (pa + 1) (nI (ixT N (1, c, p))).toNatClampNeg + 1)] (Z, I, L) none (Z, I7, L8) ∧ ∀ y10 : Int32, y10 = nI (sm c (fun q => (sgF tg (4 * N) q).length) + j) + 1 → Lp_X0_settleCatchers_27 g 2 pa (nI (ixT N (1, c, p))) (nI c) (nI p) y10 (Z, I7, L8) none (Z, I1, L)))) → Lp_X0_settleCatchers_27 g 2 pa (nI (ixT N (1, c, p))) (nI c) (nI p) (nI (sm c (fun q => (sgF tg (4 * N) q).length) + j)) (Z, I, L) none (Z, I1, L) := fun hc2 => by
      refine wp_X0_settleCatchers_27 e1 c1 c2 d1 d2 a1 a2 ?_
      rw [nI_1, nI_clamp (by omega), nI_clamp (by omega), hL.1 (c + 1) (by omega), hL.2 c j hcN hjl, c3, d3, hI2, ← hq, eIx]
      refine ⟨vp_in_nI (by omega) (by omega), fun z => absurd z (nI_ge (by omega) (by omega)), fun _ => ⟨vp_in_nI (by omega) (by omega), fun y3 hy3 => ?_⟩⟩
      rw [hy3, nI_clamp (by omega)]
      exact hc2
    have v1 : vp_in (nI (ixT N (0, q, p))) (Z.2.2.1 (pa + 1)) := by rw [a3]; exact vp_in_nI ixs (by omega)
    have v0 : vp_in (nI (ixT N (1, c, p))) (Z.2.2.1 (pa + 1)) := by rw [a3]; exact vp_in_nI ix0 (by omega)
    obtain ⟨q3a, q3b⟩ := hQ.2.2.1 (0, q, p) oks (fun z => by cases z)
    by_cases hs : (0, q, p) ∈ Q
    · have hL1 := q3a hs
      have hV31 : V (0, q, p) < 2 ^ 31 := by
        obtain ⟨i', hi1, hi2⟩ := mem_idx hs
        have := hG.2.2.2.2.2.2.2.2 i' hi1
        rw [hi2] at this
        have := hQ.len
        omega
      obtain ⟨I1, Q1, V1, r1, r2⟩ := ih (j + 1) I Q V K (by omega) hL hI2 hI3 hG hh hQh hQ hK (fun i' hi' => by
        by_cases hij : i' = j
        · rw [hij, ← hq]; exact hs
        · exact hS i' (by omega))
      refine ⟨I1, Q1, V1, pre ⟨v1, fun _ y hy => by rw [hy, nI_1]; exact r1, fun z => absurd ?_ z⟩, r2⟩
      rw [hL1]; exact nI_pos' hV31
    · obtain ⟨hK3, hL1⟩ := q3b hs
      have hneg : ¬ (0 : Int32) ≤ I (pa + 1) (ixT N (0, q, p)) := by
        rw [hL1]
        have cs : K (0, q, p) = 0 ∨ K (0, q, p) = 1 ∨ K (0, q, p) = 2 ∨ K (0, q, p) = 3 := by omega
        rcases cs with z | z | z | z <;> rw [z] <;> decide
      have hm : (1, c, p) ∈ Q := by rw [← hQh]; exact getD_mem hh
      have hw : wnF f e (V (Q.getD h (0, 0, 0)) + 1) 0 q p := Or.inr (Or.inl ⟨rfl, i % 4, by omega, by
        rw [← hpe, hQh]
        exact (hG.2.1 _ hm).2.2.2.1⟩)
      obtain ⟨V1, hV1⟩ : ∃ V1 : TR → Nat, ∀ u, V1 u = if u = (0, q, p) then V (Q.getD h (0, 0, 0)) + 1 else V u := ⟨_, fun _ => rfl⟩
      have hG1 := hG.put hf he hh Nat.zero_lt_two hPq hp hs hw hV1
      obtain ⟨I12, s1, s2, s3, s4⟩ := sp_settle (g := g) (L := L) (v := V (Q.getD h (0, 0, 0)) + 1) hE hN oks hs (Or.inl rfl) hQ hV1
      have len : (Q ++ [((0 : Nat), q, p)]).length = Q.length + 1 := by rw [List.length_append, List.length_singleton]
      obtain ⟨I1, Q1, V2, r1, r2, r3, r4, r5, r6, r7, r8, r9⟩ := ih (j + 1) I12 (Q ++ [(0, q, p)]) V1 K (by omega) (hL.kept (s3 _ (by omega) (by omega) (by omega)) (s3 _ (by omega) (by omega) (by omega))) (by rw [s4 2 (by decide)]; exact hI2) (by rw [s4 3 (by decide)]; exact hI3) hG1 (by omega) (by rw [getD_app, if_pos hh]; exact hQh) s2 (fun c' q' h1 h2 h3' => by
        rw [TT_app (by omega)]
        exact hK c' q' h1 h2 (fun z => h3' (List.mem_append_left _ z))) (fun i' hi' => by
        by_cases hij : i' = j
        · rw [hij, ← hq]; exact List.mem_append_right _ (List.mem_singleton.mpr rfl)
        · exact List.mem_append_left _ (hS i' (by omega)))
      refine ⟨I1, Q1, V2, pre ⟨v1, fun z => absurd z hneg, fun _ => ⟨v0, I12, L, ?_, fun y hy => by rw [hy, nI_1]; exact r1⟩⟩, r2, r3, r4, r5, r6, r7, fun a h1 h2 h3 => by rw [r8 a h1 h2 h3, s3 a h1 h2 h3], fun k hk => by rw [r9 k hk, s4 k hk]⟩
      have es : I (pa + 1) (ixT N (1, c, p)) = nI (V (Q.getD h (0, 0, 0))) := by
        have := (hQ.2.2.1 (1, c, p) ok0 (fun z => by cases z)).1 hm
        rw [this, hQh]
      rw [nI_clamp (by omega), es, nI_1]
      exact s1
end SETTLE2
