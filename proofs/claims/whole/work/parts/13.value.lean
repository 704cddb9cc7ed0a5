/-! Mind.value: the orders from a start on leave one value at STOP -/
section VALUE
variable {g : GE} {Z : Zs} {L : Nat → Nat → Int64} {o nb wb a1 : Nat} {ords : List Nat} {env : Nat → Int32}
theorem mv_head {I : Nat → Nat → Int32} {s : List Int32} {p k c : Nat} {r : Option Value} {M' : Mem} (hA : OA Z I a1 ords) (hm : MS Z I o nb wb s) (hp : ords[p]? = some c) (hc : c ≠ 33) (hcl : c < 2 ^ 31) (hk : k < ords.length) (h : Lp_X4_value_52 g 3 o a1 (nI p) (nI k) (nI (ords.getD (p + 1) 0)) (Z, I, L) r M') : Lp_X4_value_10 g 3 o a1 (nI p) (nI k) (Z, I, L) r M' := by
  have hl := (List.getElem?_eq_some_iff.mp hp).1
  have hN := hA.2.1
  have hb := hA.2.2.1
  refine wp_X4_value_10 hm.1 hA.1 ?_
  rw [hN, hA.at hp]
  refine ⟨fun h => absurd h (nI_ge hk (by omega)), fun _ => ⟨fun h => absurd h (nI_pos (by omega)), fun _ => ⟨fun h => absurd h (nI_ge hl (by omega)), fun _ => ⟨vp_in_nI hl (by omega), fun h => absurd ((nI_eq (b := 33) hcl (by decide)).mp h) hc, fun _ => ?_⟩⟩⟩⟩
  rw [nI_1]
  by_cases h1 : p + 1 < ords.length
  · refine ⟨fun h => absurd h (nI_ge h1 (by omega)), fun _ => ⟨vp_in_nI h1 (by omega), ?_⟩⟩
    rw [hA.at (List.getElem?_eq_getElem h1)]
    rw [show ords.getD (p + 1) 0 = ords[p + 1] by simp [List.getD, List.getElem?_eq_getElem h1]] at h
    exact h
  · refine ⟨fun _ => ?_, fun h => absurd (nI_le (by omega) (by omega)) h⟩
    rw [show ords.getD (p + 1) 0 = 0 by simp [List.getD, List.getElem?_eq_none (Nat.le_of_not_lt h1)], nI_0] at h
    exact h
theorem mv_run (hnb : a1 ≠ wb) : ∀ (n : Nat) (I : Nat → Nat → Int32) (p k : Nat) (s : List Int32) (e : Nat) (v : Int32), Stn ords env n p s e [v] → ords[e]? = some 33 → k + n ≤ ords.length → OA Z I a1 ords → MS Z I o nb wb s → (∀ j, j < 11 → I nb j = env j) →
    ∃ I1, Lp_X4_value_10 g 3 o a1 (nI p) (nI k) (Z, I, L) (some (.int v)) (Z, I1, L) ∧ MS Z I1 o nb wb [] ∧ ∀ a, a ≠ o → a ≠ wb → I1 a = I a := by
  intro n
  induction n with
  | zero =>
    intro I p k s e v hs he hk hA hm henv
    obtain ⟨rfl, rfl⟩ := hs
    obtain ⟨I1, c1, c2, c3⟩ := sp_pop (g := g) (L := L) (s := []) hm
    refine ⟨I1, ?_, c2, fun a ha _ => c3 a ha⟩
    have hl := (List.getElem?_eq_some_iff.mp he).1
    have hb := hA.2.2.1
    refine wp_X4_value_10 hm.1 hA.1 ?_
    rw [hA.at he]
    exact ⟨fun _ => ⟨v, I1, L, c1, rfl, rfl⟩, fun _ => ⟨fun _ => ⟨v, I1, L, c1, rfl, rfl⟩, fun _ => ⟨fun _ => ⟨v, I1, L, c1, rfl, rfl⟩, fun _ => ⟨by rw [hA.2.1]; exact vp_in_nI hl (by omega), fun _ => ⟨v, I1, L, c1, rfl, rfl⟩, fun hc => absurd rfl hc⟩⟩⟩⟩
  | succ n ih =>
    intro I p k s e v hs he hk hA hm henv
    obtain ⟨p1, s1, h1, h2⟩ := hs
    have hoa : a1 ≠ o := Ne.symm (hm.1.ne hA.1 (by decide))
    have hno : nb ≠ o := Ne.symm (hm.1.ne hm.2.2.1 (by decide))
    have hnw : nb ≠ wb := hm.2.2.2.2.2.2.2.1
    have hb := hA.2.2.1
    have hkl : k < ords.length := by omega
    -- from any memory that keeps orders and names
    have next : ∀ I1 : Nat → Nat → Int32, MS Z I1 o nb wb s1 → (∀ a, a ≠ o → a ≠ wb → I1 a = I a) → ∃ I2, Lp_X4_value_10 g 3 o a1 (nI p1) (nI (k + 1)) (Z, I1, L) (some (.int v)) (Z, I2, L) ∧ MS Z I2 o nb wb [] ∧ ∀ a, a ≠ o → a ≠ wb → I2 a = I a := by
      intro I1 hm1 hf
      have hA1 : OA Z I1 a1 ords := ⟨hA.1, hA.2.1, hA.2.2.1, fun k v hk => by rw [hf a1 hoa hnb]; exact hA.2.2.2 k v hk⟩
      obtain ⟨I2, c1, c2, c3⟩ := ih I1 p1 (k + 1) s1 e v h2 he (by omega) hA1 hm1 (fun j hj => by rw [hf nb hno hnw]; exact henv j hj)
      exact ⟨I2, c1, c2, fun a h1 h2 => (c3 a h1 h2).trans (hf a h1 h2)⟩
    rcases h1 with ⟨hp, z, hz, rfl, rfl, hl⟩ | ⟨hp, z, hz, hz2, rfl, rfl, hl⟩ | ⟨hp, z, w, hz, hz2, rfl, rfl⟩ | ⟨hp, z, hz, hz2, rfl, rfl⟩ | ⟨hp, t, w, rfl, rfl, rfl⟩ | ⟨hp, t, w, rfl, rfl, rfl⟩ | ⟨c, hp, hj, t, x, y, rfl, rfl, rfl⟩
    · -- a number
      obtain ⟨I1, c1, c2, c3⟩ := sp_push (g := g) (L := L) hm hl (nI z)
      obtain ⟨I2, d1, d2, d3⟩ := next I1 c2 c3
      refine ⟨I2, mv_head hA hm hp (by decide) (by decide) hkl (wp_X4_value_52 hm.1 hA.1 hm.2.1 hm.2.2.1 ?_), d2, d3⟩
      have hpl := (List.getElem?_eq_some_iff.mp hp).1
      rw [hA.at hp, show ords.getD (p + 1) 0 = z by simp [List.getD, hz]]
      refine ⟨by rw [hA.2.1]; exact vp_in_nI hpl (by omega), fun h => absurd h (by decide), fun _ => ⟨I1, L, c1, fun y1 hy1 y2 hy2 => ?_⟩, fun h => absurd h (by decide), fun h => absurd h (by decide), fun h => absurd h (by decide), fun h => absurd h (by decide), fun h => absurd rfl h.2.1⟩
      rw [hy1, hy2, nI_1, show (nI p : Int32) + 2 = nI (p + 2) from nI_add p 2]; exact d1
    · -- a name
      obtain ⟨I1, c1, c2, c3⟩ := sp_push (g := g) (L := L) hm hl (env z)
      obtain ⟨I2, d1, d2, d3⟩ := next I1 c2 c3
      refine ⟨I2, mv_head hA hm hp (by decide) (by decide) hkl (wp_X4_value_52 hm.1 hA.1 hm.2.1 hm.2.2.1 ?_), d2, d3⟩
      have hpl := (List.getElem?_eq_some_iff.mp hp).1
      rw [hA.at hp, show ords.getD (p + 1) 0 = z by simp [List.getD, hz]]
      refine ⟨by rw [hA.2.1]; exact vp_in_nI hpl (by omega), fun h => absurd h (by decide), fun h => absurd h (by decide), fun _ => ⟨fun h => absurd h (nI_pos (by omega)), fun _ => ⟨fun h => absurd h (nI_ge (b := 11) hz2 (by decide)), fun _ => ⟨by rw [hm.2.2.2.1]; exact vp_in_nI hz2 (by decide), I1, L, ?_, fun y1 hy1 y2 hy2 => ?_⟩⟩⟩, fun h => absurd h (by decide), fun h => absurd h (by decide), fun h => absurd h (by decide), fun h => absurd rfl h.2.2.1⟩
      · rw [nI_clamp (by omega), henv z hz2]; exact c1
      · rw [hy1, hy2, nI_1, show (nI p : Int32) + 2 = nI (p + 2) from nI_add p 2]; exact d1
    · -- then
      obtain ⟨I1, c1, c2, c3⟩ := sp_pop (g := g) (L := L) hm
      obtain ⟨I2, d1, d2, d3⟩ := next I1 c2 (fun a h1 _ => c3 a h1)
      refine ⟨I2, mv_head hA hm hp (by decide) (by decide) hkl (wp_X4_value_52 hm.1 hA.1 hm.2.1 hm.2.2.1 ?_), d2, d3⟩
      have hpl := (List.getElem?_eq_some_iff.mp hp).1
      rw [hA.at hp, show ords.getD (p + 1) 0 = z by simp [List.getD, hz]]
      refine ⟨by rw [hA.2.1]; exact vp_in_nI hpl (by omega), fun h => absurd h (by decide), fun h => absurd h (by decide), fun h => absurd h (by decide), fun _ => ⟨w, I1, L, c1, fun hw y1 hy1 y2 hy2 => ?_, fun hw y1 hy1 => ?_⟩, fun h => absurd h (by decide), fun h => absurd h (by decide), fun h => absurd rfl h.2.2.2.1⟩
      · rw [if_neg hw] at d1
        rw [hy1, hy2, nI_1, show (nI p : Int32) + 2 = nI (p + 2) from nI_add p 2]; exact d1
      · rw [if_pos hw] at d1
        rw [hy1, nI_1]; exact d1
    · -- else
      obtain ⟨I2, d1, d2, d3⟩ := next I hm (fun a h1 _ => rfl)
      refine ⟨I2, mv_head hA hm hp (by decide) (by decide) hkl (wp_X4_value_52 hm.1 hA.1 hm.2.1 hm.2.2.1 ?_), d2, d3⟩
      have hpl := (List.getElem?_eq_some_iff.mp hp).1
      rw [hA.at hp, show ords.getD (p + 1) 0 = p1 by simp [List.getD, hz]]
      refine ⟨by rw [hA.2.1]; exact vp_in_nI hpl (by omega), fun h => absurd h (by decide), fun h => absurd h (by decide), fun h => absurd h (by decide), fun h => absurd h (by decide), fun _ y1 hy1 => ?_, fun h => absurd h (by decide), fun h => absurd rfl h.2.2.2.2.1⟩
      rw [hy1, nI_1]; exact d1
    · -- not
      obtain ⟨I1, c1, c2, c3⟩ := sp_pop (g := g) (L := L) hm
      have htl : t.length < 64 := by have := hm.2.2.2.2.2.2.2.2.1; rw [List.length_append, List.length_singleton] at this; omega
      obtain ⟨I3, e1, e2, e3⟩ := sp_push (g := g) (L := L) c2 htl (if w = 0 then 1 else 0)
      obtain ⟨I2, d1, d2, d3⟩ := next I3 e2 (fun a h1 h2 => (e3 a h1 h2).trans (c3 a h1))
      refine ⟨I2, mv_head hA hm hp (by decide) (by decide) hkl (wp_X4_value_52 hm.1 hA.1 hm.2.1 hm.2.2.1 ?_), d2, d3⟩
      have hpl := (List.getElem?_eq_some_iff.mp hp).1
      rw [hA.at hp]
      refine ⟨by rw [hA.2.1]; exact vp_in_nI hpl (by omega), fun _ => ⟨w, I1, L, c1, fun hw => ⟨I3, L, ?_, fun y1 hy1 y2 hy2 => ?_⟩, fun hw => ⟨I3, L, ?_, fun y1 hy1 y2 hy2 => ?_⟩⟩, fun h => absurd h (by decide), fun h => absurd h (by decide), fun h => absurd h (by decide), fun h => absurd h (by decide), fun h => absurd h (by decide), fun h => absurd rfl h.1⟩
      · rw [if_neg hw] at e1; exact e1
      · rw [hy1, hy2, nI_1, nI_1]; exact d1
      · rw [if_pos hw] at e1; exact e1
      · rw [hy1, hy2, nI_1, nI_1]; exact d1
    · -- minus
      obtain ⟨I1, c1, c2, c3⟩ := sp_pop (g := g) (L := L) hm
      have htl : t.length < 64 := by have := hm.2.2.2.2.2.2.2.2.1; rw [List.length_append, List.length_singleton] at this; omega
      obtain ⟨I3, e1, e2, e3⟩ := sp_push (g := g) (L := L) c2 htl (-w)
      obtain ⟨I2, d1, d2, d3⟩ := next I3 e2 (fun a h1 h2 => (e3 a h1 h2).trans (c3 a h1))
      refine ⟨I2, mv_head hA hm hp (by decide) (by decide) hkl (wp_X4_value_52 hm.1 hA.1 hm.2.1 hm.2.2.1 ?_), d2, d3⟩
      have hpl := (List.getElem?_eq_some_iff.mp hp).1
      rw [hA.at hp]
      refine ⟨by rw [hA.2.1]; exact vp_in_nI hpl (by omega), fun h => absurd h (by decide), fun h => absurd h (by decide), fun h => absurd h (by decide), fun h => absurd h (by decide), fun h => absurd h (by decide), fun _ => ⟨w, I1, L, c1, I3, L, e1, fun y1 hy1 y2 hy2 => ?_⟩, fun h => absurd rfl h.2.2.2.2.2⟩
      rw [hy1, hy2, nI_1, nI_1]; exact d1
    · -- a joining order
      have hc : 16 ≤ c ∧ c ≤ 30 ∧ c ≠ 18 ∧ c ≠ 19 ∧ c ≠ 20 := by unfold isJ at hj; omega
      have ne : ∀ k : Nat, k < 100 → c ≠ k → ¬ nI c = nI k := fun k hk h e => h ((nI_eq (by omega) (by omega)).mp e)
      obtain ⟨I1, c1, c2, c3⟩ := sp_pop (g := g) (L := L) hm
      obtain ⟨I3, e1, e2, e3⟩ := sp_pop (g := g) (L := L) c2
      have htl : t.length < 64 := by have := c2.2.2.2.2.2.2.2.2.1; rw [List.length_append, List.length_singleton] at this; omega
      obtain ⟨I4, f1, f2, f3⟩ := sp_push (g := g) (L := L) e2 htl (hjF c x y)
      obtain ⟨I2, d1, d2, d3⟩ := next I4 f2 (fun a h1 h2 => (f3 a h1 h2).trans ((e3 a h1).trans (c3 a h1)))
      refine ⟨I2, mv_head hA hm hp (by omega) (by omega) hkl (wp_X4_value_52 hm.1 hA.1 hm.2.1 hm.2.2.1 ?_), d2, d3⟩
      have hpl := (List.getElem?_eq_some_iff.mp hp).1
      have hin : vp_in (nI p) (Z.2.2.1 a1) := by rw [hA.2.1]; exact vp_in_nI hpl (by omega)
      rw [hA.at hp]
      refine ⟨hin, fun h => absurd h (ne 18 (by omega) (by omega)), fun h => absurd h (ne 19 (by omega) (by omega)), fun h => absurd h (ne 20 (by omega) (by omega)), fun h => absurd h (ne 34 (by omega) (by omega)), fun h => absurd h (ne 35 (by omega) (by omega)), fun h => absurd h (ne 38 (by omega) (by omega)), fun _ => ⟨y, I1, L, c1, hin, x, I3, L, e1, _, ?_, _, sp_held _, I4, L, f1, fun y1 hy1 y2 hy2 => ?_⟩⟩
      · rw [c3 a1 hoa, hA.at hp]; exact sp_join hj _ _
      · rw [hy1, hy2, nI_1, nI_1]; exact d1
/-- the value of the orders from a start on -/
theorem sp_value {I : Nat → Nat → Int32} {s : List Int32} {n p e : Nat} {v : Int32} (hnb : a1 ≠ wb) (hs : Stn ords env n p [] e [v]) (he : ords[e]? = some 33) (hn : n ≤ ords.length) (hA : OA Z I a1 ords) (hm : MS Z I o nb wb s) (henv : ∀ j, j < 11 → I nb j = env j) :
    ∃ I1, Cl g 3 mu_X4_value [rf g o, rf g a1, .int (nI p)] (Z, I, L) (some (.int v)) (Z, I1, L) ∧ MS Z I1 o nb wb [] ∧ ∀ a, a ≠ o → a ≠ wb → I1 a = I a := by
  have hoa : a1 ≠ o := Ne.symm (hm.1.ne hA.1 (by decide))
  have hno : nb ≠ o := Ne.symm (hm.1.ne hm.2.2.1 (by decide))
  have how : wb ≠ o := Ne.symm (hm.1.ne hm.2.2.2.2.2.1 (by decide))
  obtain ⟨a1', a2, a3, a4, a5, a6, a7, a8, a9, a10, a11⟩ := id hm
  have hm1 : MS Z (rw1 I o (upd (I o) 2 0)) o nb wb [] := ⟨a1', a2, a3, a4, a5, a6, a7, a8, by decide, by rw [rw1_s]; rfl, fun k v hk => by simp at hk⟩
  have hA1 : OA Z (rw1 I o (upd (I o) 2 0)) a1 ords := ⟨hA.1, hA.2.1, hA.2.2.1, fun k v hk => by rw [rw1_n _ _ hoa]; exact hA.2.2.2 k v hk⟩
  obtain ⟨I1, c1, c2, c3⟩ := mv_run (g := g) (L := L) hnb n (rw1 I o (upd (I o) 2 0)) p 0 [] e v hs he (by omega) hA1 hm1 (fun j hj => by rw [rw1_n _ _ hno]; exact henv j hj)
  refine ⟨I1, cp_X4_value hm.1 hA.1 (fun I2 hI2 => ?_), c2, fun a h1 h2 => (c3 a h1 h2).trans (rw1_n _ _ h1)⟩
  rw [hI2]
  exact c1
end VALUE
