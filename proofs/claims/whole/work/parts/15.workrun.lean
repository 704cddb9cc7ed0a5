/-! the model's work: its loop -/
theorem nI_m2 (n : Nat) : nI (n + 2) + (-2) = nI n := by
  rw [show n + 2 = n + 1 + 1 from rfl, nI_succ, nI_succ, Int32.add_assoc, Int32.add_assoc, show (1 : Int32) + (1 + -2) = 0 by decide, Int32.add_zero]
theorem nar_b (b : Bool) : vp_nar .boolean (b2i b) = b2i b := by cases b <;> decide
theorem b2i_0 (b : Bool) : b2i b = 0 ↔ b = false := by cases b <;> decide
/-- the codes of a text: from the place i on, at x0 = 620 t + 15 -/
def CA (Z : Zs) (I : Nat → Nat → Int32) (tx x0 i : Nat) (cs : List (Nat × Nat)) : Prop := ∀ j q, cs[j]? = some q → x0 + 2 * (i + j) + 1 < 2480 ∧ q.1 < 100 ∧ I tx (x0 + 2 * (i + j)) = nI q.1 ∧ I tx (x0 + 2 * (i + j) + 1) = nI q.2
theorem CA.tail {Z : Zs} {I : Nat → Nat → Int32} {tx x0 i : Nat} {q : Nat × Nat} {cs : List (Nat × Nat)} (h : CA Z I tx x0 i (q :: cs)) : CA Z I tx x0 (i + 1) cs := by
  intro j p hp
  have := h (j + 1) p (by rw [List.getElem?_cons_succ]; exact hp)
  rw [show i + (j + 1) = i + 1 + j by omega] at this
  exact this
section WRUN
variable {g : GE} {Z : Zs} {o tx nb vb tb x0 xc : Nat} {env : Nat → Int32}
set_option maxHeartbeats 1000000 in
theorem wk_run (hW : MW Z o tx nb vb tb) (hxc : xc + 2 < 2480) (hx0 : x0 < 2480) : ∀ (cs : List (Nat × Nat)) (I : Nat → Nat → Int32) (L : Nat → Nat → Int64) (i : Nat) (vs : List Int32) (ts : List Bool) (vs' : List Int32) (ts' : List Bool), Wn env cs vs ts vs' ts' → CA Z I tx x0 i cs → i + cs.length < 2480 → I tx (xc + 2) = nI (i + cs.length) → (∀ j, j < 11 → I nb j = env j) → (∀ j, j < 11 → rg (env j)) → WS Z I L vb tb vs ts →
    ∃ I1 L1, Lp_X12_work_38 g 3 o (nI xc) (nI x0) (nI vs.length) (nI ts.length) (nI i) (Z, I, L) none (Z, I1, L1) ∧ WS Z I1 L1 vb tb vs' ts' ∧ (∀ a, a ≠ tb → I1 a = I a) ∧ ∀ a, a ≠ vb → L1 a = L a := by
  obtain ⟨w1, w2, w3, w4, w5, w6, w7, w8, w9, w10, w11, w12, w13⟩ := id hW
  have htx : tx ≠ tb := w3.ne w12 (by decide)
  have hnb : nb ≠ tb := w6.ne w12 (by decide)
  intro cs
  induction cs with
  | nil =>
    intro I L i vs ts vs' ts' hw hc hi he henv hrg hs
    obtain ⟨rfl, rfl⟩ := hw
    refine ⟨I, L, wp_X12_work_38 w1 w2 w3 ?_, hs, fun _ _ => rfl, fun _ _ => rfl⟩
    have e1 : nI xc + 2 = nI (xc + 2) := nI_add xc 2
    rw [e1, nI_clamp (by omega), he, w4]
    refine ⟨vp_in_nI (by omega) (by decide), fun _ => ⟨rfl, rfl⟩, fun h => absurd ?_ h⟩
    exact nI_le (by simp) (by simp at hi; omega)
  | cons q cs ih =>
    intro I L i vs ts vs' ts' hw hc hi he henv hrg hs
    obtain ⟨v1, t1, h1, h2⟩ := hw
    obtain ⟨c1, c2, c3, c4⟩ := hc 0 q rfl
    simp only [Nat.add_zero] at c1 c3 c4
    have hlen : i + (q :: cs).length = i + 1 + cs.length := by simp; omega
    rw [hlen] at hi he
    have hv := hs.1
    have ht := hs.2.1
    have hv3 := hs.2.2.1
    have ht4 := hs.2.2.2
    have next : ∀ (I1 : Nat → Nat → Int32) (L1 : Nat → Nat → Int64), WS Z I1 L1 vb tb v1 t1 → (∀ a, a ≠ tb → I1 a = I a) → (∀ a, a ≠ vb → L1 a = L a) → ∃ I2 L2, Lp_X12_work_38 g 3 o (nI xc) (nI x0) (nI v1.length) (nI t1.length) (nI (i + 1)) (Z, I1, L1) none (Z, I2, L2) ∧ WS Z I2 L2 vb tb vs' ts' ∧ (∀ a, a ≠ tb → I2 a = I a) ∧ ∀ a, a ≠ vb → L2 a = L a := by
      intro I1 L1 hs1 hf hg
      obtain ⟨I2, L2, d1, d2, d3, d4⟩ := ih I1 L1 (i + 1) v1 t1 vs' ts' h2 (fun j p hp => by rw [hf tx htx]; exact hc.tail j p hp) hi (by rw [hf tx htx]; exact he) (fun j hj => by rw [hf nb hnb]; exact henv j hj) hrg hs1
      exact ⟨I2, L2, d1, d2, fun a ha => (d3 a ha).trans (hf a ha), fun a ha => (d4 a ha).trans (hg a ha)⟩
    have e1 : nI xc + 2 = nI (xc + 2) := nI_add xc 2
    have e2 : nI x0 + 2 * nI i = nI (x0 + 2 * i) := by rw [show (2 : Int32) * nI i = nI (2 * i) from pk_mul 2 i, nI_add]
    have go : ∀ {r : Option Value} {M' : Mem}, Lp_X12_work_81 g 3 o (nI xc) (nI x0) (nI vs.length) (nI ts.length) (nI i) (nI q.1) (nI q.2) (Z, I, L) r M' → Lp_X12_work_38 g 3 o (nI xc) (nI x0) (nI vs.length) (nI ts.length) (nI i) (Z, I, L) r M' := fun {r M'} hh => by
      refine wp_X12_work_38 w1 w2 w3 ?_
      rw [e1, nI_clamp (by omega), he, w4, e2, nI_1, nI_clamp (by omega), nI_clamp (by omega), c3, c4]
      refine ⟨vp_in_nI (by omega) (by decide), fun h => absurd h (nI_ge (by omega) (by omega)), fun _ => ⟨vp_in_nI (by omega) (by decide), fun y3 hy3 => ⟨vp_in_nI (by omega) (by decide), fun y5 hy5 => ?_⟩⟩⟩
      rw [hy3, hy5]
      exact hh
    have ne : ∀ k : Nat, k < 100 → q.1 ≠ k → ¬ nI q.1 = nI k := fun k hk h e => h ((nI_eq (by omega) (by omega)).mp e)
    have lt : ∀ k : Nat, k < 100 → (nI k < nI q.1 ↔ k < q.1) := fun k hk => nI_ltI (by omega) (by omega)
    have le : ∀ k : Nat, k < 100 → (nI k ≤ nI q.1 ↔ k ≤ q.1) := fun k hk => nI_leI (by omega) (by omega)
    have lt1 : (1 < nI q.1) ↔ 1 < q.1 := lt 1 (by omega)
    have le10 : (10 ≤ nI q.1) ↔ 10 ≤ q.1 := le 10 (by omega)
    have le20 : (20 ≤ nI q.1) ↔ 20 ≤ q.1 := le 20 (by omega)
    have n0 : q.1 ≠ 0 → ¬ nI q.1 = 0 := ne 0 (by omega)
    have n2 : q.1 ≠ 2 → ¬ nI q.1 = 2 := ne 2 (by omega)
    have n20 : q.1 ≠ 20 → ¬ nI q.1 = 20 := ne 20 (by omega)
    have n21 : q.1 ≠ 21 → ¬ nI q.1 = 21 := ne 21 (by omega)
    have n23 : q.1 ≠ 23 → ¬ nI q.1 = 23 := ne 23 (by omega)
    rcases h1 with ⟨ho, hv9, rfl, rfl, hl⟩ | ⟨ho, hv9, rfl, rfl, hl⟩ | ⟨ho, t, x, rfl, rfl, rfl⟩ | ⟨ho1, ho2, t, x, y, rfl, rfl, rfl⟩ | ⟨ho1, ho2, x, y, rfl, rfl, hl⟩ | ⟨ho, t, b, rfl, rfl, rfl⟩ | ⟨ho, t, a, b, rfl, rfl, rfl⟩ | ⟨ho, t, a, b, rfl, rfl, rfl⟩ | ⟨ho, t, x, y, b, rfl, rfl, rfl⟩
    · -- a number
      obtain ⟨I2, L2, d1, d2, d3, d4⟩ := next I (rw1 L vb (vp_updL (L vb) vs.length (nI q.2).toInt64)) (hs.pushV hl (rg_n hv9) rfl) (fun _ _ => rfl) (fun a ha => rw1_n _ _ ha)
      refine ⟨I2, L2, go (wp_X12_work_81 w1 w11 w12 w8 w9 w5 w6 ⟨fun h => absurd (lt1.mp h) (by omega), fun _ => ⟨fun h => absurd (by rw [ho]; rfl) h, fun _ => ⟨by rw [w10]; exact vp_in_nI hl (by decide), fun L3 hL3 y1 hy1 y2 hy2 => ?_⟩⟩⟩), d2, d3, d4⟩
      rw [hL3, hy1, hy2, nI_clamp (by omega), nI_1, nI_1]
      rw [List.length_append, List.length_singleton] at d1
      exact d1
    · -- a name
      obtain ⟨I2, L2, d1, d2, d3, d4⟩ := next I (rw1 L vb (vp_updL (L vb) vs.length (env q.2).toInt64)) (hs.pushV hl (hrg _ hv9) rfl) (fun _ _ => rfl) (fun a ha => rw1_n _ _ ha)
      refine ⟨I2, L2, go (wp_X12_work_81 w1 w11 w12 w8 w9 w5 w6 ⟨fun h => absurd (lt1.mp h) (by omega), fun _ => ⟨fun _ => ⟨by rw [w7]; exact vp_in_nI hv9 (by decide), by rw [w10]; exact vp_in_nI hl (by decide), fun L3 hL3 y1 hy1 y2 hy2 => ?_⟩, fun h => absurd h (n0 (by omega))⟩⟩), d2, d3, d4⟩
      rw [hL3, hy1, hy2, nI_clamp (by omega), nI_clamp (by omega), nI_1, nI_1, henv _ hv9]
      rw [List.length_append, List.length_singleton] at d1
      exact d1
    · -- minus
      rw [List.length_append, List.length_singleton] at hv
      have hx := hv3 t.length x (by simp)
      have e3 : nI (t ++ [x]).length - 1 = nI t.length := by rw [List.length_append, List.length_singleton, nI_pred]
      obtain ⟨I2, L2, d1, d2, d3, d4⟩ := next I (rw1 L vb (vp_updL (L vb) t.length (-(L vb t.length)))) ((WS.less (va := [x]) (ta := []) (by rw [List.append_nil]; exact hs)).pushV (by omega) (rg_neg hx.2).1 (by rw [hx.1, (rg_neg hx.2).2])) (fun _ _ => rfl) (fun a ha => rw1_n _ _ ha)
      have hin : vp_in (nI (t ++ [x]).length - 1) (Z.2.2.1 vb) := by rw [e3, w10]; exact vp_in_nI (by omega) (by decide)
      refine ⟨I2, L2, go (wp_X12_work_81 w1 w11 w12 w8 w9 w5 w6 ⟨fun _ => ⟨fun h => absurd (by rw [ho]; rfl) h, fun _ => ⟨hin, hin, fun L3 hL3 y1 hy1 => ?_⟩⟩, fun h => absurd (lt1.mpr (by omega)) h⟩), d2, d3, d4⟩
      rw [e3, nI_clamp (by omega)] at hL3
      rw [hL3, hy1, nI_1]
      rw [List.length_append, List.length_singleton] at d1 ⊢
      exact d1
    · -- two
      rw [List.length_append, List.length_append, List.length_singleton, List.length_singleton] at hv
      have hx := hv3 t.length x (by simp)
      have hy := hv3 (t.length + 1) y (by simp)
      have e3 : nI (t ++ [x] ++ [y]).length + (-1) = nI (t.length + 1) := by rw [List.length_append, List.length_append, List.length_singleton, List.length_singleton, pk_m1]
      have e4 : nI (t.length + 1) - 1 = nI t.length := nI_pred _
      have hs1 : WS Z I L vb tb t t1 := WS.less (va := [x, y]) (ta := []) (by rw [List.append_nil]; simpa using hs)
      obtain ⟨I2, L2, d1, d2, d3, d4⟩ := next I (rw1 L vb (vp_updL (L vb) t.length (hjF (q.1 + 24) x y).toInt64)) (hs1.pushV (by omega) (hjF_rg _ _ _) rfl) (fun _ _ => rfl) (fun a ha => rw1_n _ _ ha)
      refine ⟨I2, L2, go (wp_X12_work_81 w1 w11 w12 w8 w9 w5 w6 ⟨fun _ => ⟨fun _ => ⟨fun h => absurd (le10.mp h) (by omega), fun _ y1 hy1 => ?_⟩, fun h => absurd h (n2 (by omega))⟩, fun h => absurd (lt1.mpr (by omega)) h⟩), d2, d3, d4⟩
      rw [e3] at hy1
      subst hy1
      rw [e4, w10, nI_clamp (by omega), nI_clamp (by omega), hx.1, hy.1]
      refine ⟨vp_in_nI (by omega) (by decide), vp_in_nI (by omega) (by decide), _, sp_two ho1 ho2 x y, vp_in_nI (by omega) (by decide), fun L3 hL3 y2 hy2 => ?_⟩
      rw [hL3, hy2, nI_1]
      rw [List.length_append, List.length_singleton] at d1
      exact d1
    · -- a comparison
      rw [List.length_append, List.length_append, List.length_singleton, List.length_singleton] at hv
      have hx := hv3 v1.length x (by simp)
      have hy := hv3 (v1.length + 1) y (by simp)
      have e3 : nI (v1 ++ [x] ++ [y]).length + (-2) = nI v1.length := by rw [List.length_append, List.length_append, List.length_singleton, List.length_singleton]; exact nI_m2 _
      have hs1 : WS Z I L vb tb v1 ts := WS.less (va := [x, y]) (ta := []) (by rw [List.append_nil]; simpa using hs)
      obtain ⟨I2, L2, d1, d2, d3, d4⟩ := next (rw1 I tb (upd (I tb) ts.length (b2i (bcF q.1 x y)))) L (hs1.pushT hl rfl) (fun a ha => rw1_n _ _ ha) (fun _ _ => rfl)
      refine ⟨I2, L2, go (wp_X12_work_81 w1 w11 w12 w8 w9 w5 w6 ⟨fun _ => ⟨fun _ => ⟨fun _ => ⟨fun h => absurd (le20.mp h) (by omega), fun _ y1 hy1 => ?_⟩, fun h => absurd (le10.mpr (by omega)) h⟩, fun h => absurd h (n2 (by omega))⟩, fun h => absurd (lt1.mpr (by omega)) h⟩), d2, d3, d4⟩
      rw [e3] at hy1
      subst hy1
      rw [nI_1, w10, w13, nI_clamp (by omega), nI_clamp (by omega), hx.1, hy.1]
      refine ⟨vp_in_nI (by omega) (by decide), vp_in_nI (by omega) (by decide), _, sp_isAsked ho1 ho2 x y, vp_in_nI hl (by decide), fun I3 hI3 y2 hy2 y4 hy4 => ?_⟩
      rw [hI3, hy2, hy4, nI_1, nI_1, nI_clamp (by omega), nar_b]
      rw [List.length_append, List.length_singleton] at d1
      exact d1
    · -- not
      rw [List.length_append, List.length_singleton] at ht
      have hb := ht4 t.length b (by simp)
      have e3 : nI (t ++ [b]).length - 1 = nI t.length := by rw [List.length_append, List.length_singleton, nI_pred]
      have hs1 : WS Z I L vb tb v1 t := WS.less (va := []) (ta := [b]) (by rw [List.append_nil]; exact hs)
      obtain ⟨I2, L2, d1, d2, d3, d4⟩ := next (rw1 I tb (upd (I tb) t.length (b2i (!b)))) L (hs1.pushT (by omega) rfl) (fun a ha => rw1_n _ _ ha) (fun _ _ => rfl)
      refine ⟨I2, L2, go (wp_X12_work_81 w1 w11 w12 w8 w9 w5 w6 ⟨fun _ => ⟨fun _ => ⟨fun _ => ⟨fun _ => ⟨fun h => absurd (by rw [ho]; rfl) h, fun _ => ?_⟩, fun h => absurd (le20.mpr (by omega)) h⟩, fun h => absurd (le10.mpr (by omega)) h⟩, fun h => absurd h (n2 (by omega))⟩, fun h => absurd (lt1.mpr (by omega)) h⟩), d2, d3, d4⟩
      rw [e3, w13, nI_clamp (by omega), hb]
      rw [List.length_append, List.length_singleton] at d1 ⊢
      refine ⟨vp_in_nI (by omega) (by decide), fun h => ⟨vp_in_nI (by omega) (by decide), fun I3 hI3 y1 hy1 => ?_⟩, fun h => ⟨vp_in_nI (by omega) (by decide), fun I3 hI3 y1 hy1 => ?_⟩⟩
      · cases b with
        | false => exact absurd rfl h
        | true => rw [hI3, hy1, nI_1]; exact d1
      · cases b with
        | false => rw [hI3, hy1, nI_1]; exact d1
        | true => exact absurd h (by decide)
    · -- and
      rw [List.length_append, List.length_append, List.length_singleton, List.length_singleton] at ht
      have ha := ht4 t.length a (by simp)
      have hb := ht4 (t.length + 1) b (by simp)
      have e3 : nI (t ++ [a] ++ [b]).length + (-1) = nI (t.length + 1) := by rw [List.length_append, List.length_append, List.length_singleton, List.length_singleton, pk_m1]
      have e4 : nI (t.length + 1) - 1 = nI t.length := nI_pred _
      have hs1 : WS Z I L vb tb v1 t := WS.less (va := []) (ta := [a, b]) (by rw [List.append_nil]; simpa using hs)
      obtain ⟨I2, L2, d1, d2, d3, d4⟩ := next (rw1 I tb (upd (I tb) t.length (b2i (a && b)))) L (hs1.pushT (by omega) rfl) (fun a ha => rw1_n _ _ ha) (fun _ _ => rfl)
      refine ⟨I2, L2, go (wp_X12_work_81 w1 w11 w12 w8 w9 w5 w6 ⟨fun _ => ⟨fun _ => ⟨fun _ => ⟨fun _ => ⟨fun _ => ⟨fun _ y1 hy1 => ?_, fun h => absurd h (n23 (by omega))⟩, fun h => absurd h (n20 (by omega))⟩, fun h => absurd (le20.mpr (by omega)) h⟩, fun h => absurd (le10.mpr (by omega)) h⟩, fun h => absurd h (n2 (by omega))⟩, fun h => absurd (lt1.mpr (by omega)) h⟩), d2, d3, d4⟩
      rw [e3] at hy1
      subst hy1
      refine ⟨fun h => absurd (by rw [ho]; rfl) h, fun _ => ?_⟩
      rw [e4, w13, nI_clamp (by omega), nI_clamp (by omega), ha, hb]
      rw [List.length_append, List.length_singleton] at d1
      cases a with
      | false => exact ⟨vp_in_nI (by omega) (by decide), fun _ => ⟨vp_in_nI (by omega) (by decide), fun I3 hI3 y1 hy1 => by rw [hI3, hy1, nI_1]; exact d1⟩, fun h => absurd rfl h⟩
      | true =>
        refine ⟨vp_in_nI (by omega) (by decide), fun h => absurd h (by decide), fun _ => ⟨vp_in_nI (by omega) (by decide), ?_⟩⟩
        cases b with
        | false => exact ⟨fun _ => ⟨vp_in_nI (by omega) (by decide), fun I3 hI3 y1 hy1 => by rw [hI3, hy1, nI_1]; exact d1⟩, fun h => absurd rfl h⟩
        | true => exact ⟨fun h => absurd h (by decide), fun _ => ⟨vp_in_nI (by omega) (by decide), fun I3 hI3 y1 hy1 => by rw [hI3, hy1, nI_1]; exact d1⟩⟩
    · -- or
      rw [List.length_append, List.length_append, List.length_singleton, List.length_singleton] at ht
      have ha := ht4 t.length a (by simp)
      have hb := ht4 (t.length + 1) b (by simp)
      have e3 : nI (t ++ [a] ++ [b]).length + (-1) = nI (t.length + 1) := by rw [List.length_append, List.length_append, List.length_singleton, List.length_singleton, pk_m1]
      have e4 : nI (t.length + 1) - 1 = nI t.length := nI_pred _
      have hs1 : WS Z I L vb tb v1 t := WS.less (va := []) (ta := [a, b]) (by rw [List.append_nil]; simpa using hs)
      obtain ⟨I2, L2, d1, d2, d3, d4⟩ := next (rw1 I tb (upd (I tb) t.length (b2i (a || b)))) L (hs1.pushT (by omega) rfl) (fun a ha => rw1_n _ _ ha) (fun _ _ => rfl)
      refine ⟨I2, L2, go (wp_X12_work_81 w1 w11 w12 w8 w9 w5 w6 ⟨fun _ => ⟨fun _ => ⟨fun _ => ⟨fun _ => ⟨fun _ => ⟨fun _ y1 hy1 => ?_, fun h => absurd h (n23 (by omega))⟩, fun h => absurd h (n20 (by omega))⟩, fun h => absurd (le20.mpr (by omega)) h⟩, fun h => absurd (le10.mpr (by omega)) h⟩, fun h => absurd h (n2 (by omega))⟩, fun h => absurd (lt1.mpr (by omega)) h⟩), d2, d3, d4⟩
      rw [e3] at hy1
      subst hy1
      refine ⟨fun _ => ?_, fun h => absurd h (n21 (by omega))⟩
      rw [e4, w13, nI_clamp (by omega), nI_clamp (by omega), ha, hb]
      rw [List.length_append, List.length_singleton] at d1
      cases a with
      | true => exact ⟨vp_in_nI (by omega) (by decide), fun _ => ⟨vp_in_nI (by omega) (by decide), fun I3 hI3 y1 hy1 => by rw [hI3, hy1, nI_1]; exact d1⟩, fun h => absurd h (by decide)⟩
      | false =>
        refine ⟨vp_in_nI (by omega) (by decide), fun h => absurd rfl h, fun _ => ⟨vp_in_nI (by omega) (by decide), ?_⟩⟩
        cases b with
        | false => exact ⟨fun _ => ⟨vp_in_nI (by omega) (by decide), fun I3 hI3 y1 hy1 => by rw [hI3, hy1, nI_1]; exact d1⟩, fun h => absurd rfl h⟩
        | true => exact ⟨fun h => absurd h (by decide), fun _ => ⟨vp_in_nI (by omega) (by decide), fun I3 hI3 y1 hy1 => by rw [hI3, hy1, nI_1]; exact d1⟩⟩
    · -- select
      rw [List.length_append, List.length_append, List.length_singleton, List.length_singleton] at hv
      rw [List.length_append, List.length_singleton] at ht
      have hx := hv3 t.length x (by simp)
      have hy := hv3 (t.length + 1) y (by simp)
      have hb := ht4 t1.length b (by simp)
      have e3 : nI (t ++ [x] ++ [y]).length + (-1) = nI (t.length + 1) := by rw [List.length_append, List.length_append, List.length_singleton, List.length_singleton, pk_m1]
      have e4 : nI (t.length + 1) - 1 = nI t.length := nI_pred _
      have e5 : nI (t1 ++ [b]).length + (-1) = nI t1.length := by rw [List.length_append, List.length_singleton, pk_m1]
      have hs1 : WS Z I L vb tb t t1 := WS.less (va := [x, y]) (ta := [b]) (by simpa using hs)
      have hrx : rg (if b = true then x else y) := by cases b <;> simp <;> first | exact hx.2 | exact hy.2
      obtain ⟨I2, L2, d1, d2, d3, d4⟩ := next I (rw1 L vb (vp_updL (L vb) t.length (if b = true then x else y).toInt64)) (hs1.pushV (by omega) hrx rfl) (fun _ _ => rfl) (fun a ha => rw1_n _ _ ha)
      refine ⟨I2, L2, go (wp_X12_work_81 w1 w11 w12 w8 w9 w5 w6 ⟨fun _ => ⟨fun _ => ⟨fun _ => ⟨fun _ => ⟨fun _ => ⟨fun h => absurd (by rw [ho]; rfl) h, fun _ y1 hy1 y2 hy2 => ?_⟩, fun h => absurd h (n20 (by omega))⟩, fun h => absurd (le20.mpr (by omega)) h⟩, fun h => absurd (le10.mpr (by omega)) h⟩, fun h => absurd h (n2 (by omega))⟩, fun h => absurd (lt1.mpr (by omega)) h⟩), d2, d3, d4⟩
      rw [e3] at hy1
      rw [e5] at hy2
      subst hy1
      subst hy2
      rw [e4, w13, w10, nI_clamp (by omega), nI_clamp (by omega), nI_clamp (by omega), hb, hx.1, hy.1]
      rw [List.length_append, List.length_singleton] at d1
      refine ⟨vp_in_nI (by omega) (by decide), fun h => ⟨vp_in_nI (by omega) (by decide), vp_in_nI (by omega) (by decide), fun L3 hL3 y3 hy3 => ?_⟩, fun h => ⟨vp_in_nI (by omega) (by decide), vp_in_nI (by omega) (by decide), fun L3 hL3 y3 hy3 => ?_⟩⟩
      · cases b with
        | false => rw [hL3, hy3, nI_1]; exact d1
        | true => exact absurd h (by decide)
      · cases b with
        | false => exact absurd rfl h
        | true => rw [hL3, hy3, nI_1]; exact d1
end WRUN
