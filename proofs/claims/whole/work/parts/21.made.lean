/-! the model's made() -/
def MB (Z : Zs) (I : Nat → Nat → Int32) (w h : Nat) (S : Nat → List Nat) (tx : List TX) : Prop := MM Z I w h S tx ∧ WF w h S tx ∧ ∀ j, j < 11 → rg (I 82 j)
theorem t64 (x : Int32) : x.toInt64.toInt32 = x := by
  apply Int32.toInt_inj.mp
  rw [Int64.toInt_toInt32, Int32.toInt_toInt64]
  have h1 := Int32.toInt_lt x
  have h2 := Int32.le_toInt x
  exact Int.bmod_eq_of_le (by omega) (by omega)
section MADE
variable {g : GE} {Z : Zs} {I : Nat → Nat → Int32} {L : Nat → Nat → Int64} {w h : Nat} {S : Nat → List Nat} {tx : List TX}
/-- the clause of a sort: its number, or none -/
theorem co_run (hS : Sh Z) {t sort nc : Nat} (ht : t < 4) (hsort : sort < 10) (hn : nc ≤ 3) (hc : I 79 (620 * t) = nI nc) (res : Option Nat) (hr : match res with | none => ∀ k, k < nc → ¬ I 79 (620 * t + 1 + 3 * k) = nI sort | some k => k < nc ∧ I 79 (620 * t + 1 + 3 * k) = nI sort ∧ ∀ j, j < k → ¬ I 79 (620 * t + 1 + 3 * j) = nI sort) :
    ∀ (m j : Nat), j + m = (match res with | none => nc | some k => k) → Lp_X12_clauseOf_2 g 1 76 (nI t) (nI sort) (nI j) (Z, I, L) (some (.int (oI res))) (Z, I, L) := by
  have e1 : (620 : Int32) * nI t = nI (620 * t) := pk_mul 620 t
  have e2 : ∀ j : Nat, ((620 : Int32) * nI t + 1) + 3 * nI j = nI (620 * t + 1 + 3 * j) := fun j => by
    rw [e1, nI_1, show (3 : Int32) * nI j = nI (3 * j) from pk_mul 3 j, nI_add]
  have hN := hS.n 79 2480 (by decide)
  intro m
  induction m with
  | zero =>
    intro j hj
    refine wp_X12_clauseOf_2 (hS.k 76 12 (by decide) (by decide)) (hS.r 76 4 79 (by decide)) (hS.k 79 13 (by decide) (by decide)) ?_
    cases res with
    | none =>
      have hj : j = nc := hj
      subst hj
      rw [e2, e1, hN, nI_clamp (by omega), hc]
      exact ⟨vp_in_nI (by omega) (by decide), fun _ => ⟨rfl, rfl⟩, fun e => absurd (nI_le (Nat.le_refl _) (by omega)) e⟩
    | some k =>
      have hj : j = k := hj
      subst hj
      obtain ⟨h1, h2, h3⟩ := hr
      rw [e2, e1, hN, nI_clamp (by omega), nI_clamp (by omega), hc, h2]
      exact ⟨vp_in_nI (by omega) (by decide), fun e => absurd e (nI_ge h1 (by omega)), fun _ => ⟨vp_in_nI (by omega) (by decide), fun e => absurd rfl e, fun _ => ⟨rfl, rfl⟩⟩⟩
  | succ m ih =>
    intro j hj
    have hjn : j < nc ∧ ¬ I 79 (620 * t + 1 + 3 * j) = nI sort := by
      cases res with
      | none => have hj : j + (m + 1) = nc := hj; exact ⟨by omega, hr j (by omega)⟩
      | some k => have hj : j + (m + 1) = k := hj; exact ⟨by have := hr.1; omega, hr.2.2 j (by omega)⟩
    refine wp_X12_clauseOf_2 (hS.k 76 12 (by decide) (by decide)) (hS.r 76 4 79 (by decide)) (hS.k 79 13 (by decide) (by decide)) ?_
    rw [e2, e1, hN, nI_clamp (by omega), nI_clamp (by omega), hc]
    refine ⟨vp_in_nI (by omega) (by decide), fun e => absurd e (nI_ge hjn.1 (by omega)), fun _ => ⟨vp_in_nI (by omega) (by decide), fun _ y3 hy3 => ?_, fun e => absurd e hjn.2⟩⟩
    rw [hy3, nI_1]
    exact ih (j + 1) (by omega)
theorem ms_clauseOf (hS : Sh Z) {t sort : Nat} (ht : t < 4) (hsort : sort < 10) {Q : List (Nat × Nat) → Prop} {has : Bool} (hc : CM Z I t sort Q has) : ∃ res : Option Nat, Cl g 1 mu_X12_clauseOf [rf g 76, .int (nI t), .int (nI sort)] (Z, I, L) (some (.int (oI res))) (Z, I, L) ∧ (has = false → res = none) ∧ (has = true → ∃ k i cs, res = some k ∧ k < 3 ∧ I 79 (620 * t + 1 + 3 * k + 1) = nI i ∧ I 79 (620 * t + 1 + 3 * k + 2) = nI (i + cs.length) ∧ i + cs.length ≤ 302 ∧ CA Z I 79 (620 * t + 15) i cs ∧ Q cs) := by
  obtain ⟨nc, h1, h2, h3, h4⟩ := hc
  cases has with
  | false =>
    exact ⟨none, cp_X12_clauseOf (hS.k 76 12 (by decide) (by decide)) (co_run hS ht hsort h1 h2 none (h3 rfl) nc 0 (Nat.zero_add _)), fun _ => rfl, fun e => (by cases e)⟩
  | true =>
    obtain ⟨k, i, cs, k1, k2, k3, k4, k5, k6, k7, k8⟩ := h4 rfl
    exact ⟨some k, cp_X12_clauseOf (hS.k 76 12 (by decide) (by decide)) (co_run hS ht hsort h1 h2 (some k) ⟨k1, k2, k3⟩ k 0 (Nat.zero_add _)), fun e => (by cases e), fun _ => ⟨k, i, cs, rfl, by omega, k4, k5, k6, k7, k8⟩⟩
/-- a clause is worked -/
theorem ms_work (hS : Sh Z) {t k i : Nat} {cs : List (Nat × Nat)} {env : Nat → Int32} {vs' : List Int32} {ts' : List Bool} (ht : t < 4) (hk : k < 3) (h1 : I 79 (620 * t + 1 + 3 * k + 1) = nI i) (h2 : I 79 (620 * t + 1 + 3 * k + 2) = nI (i + cs.length)) (h3 : i + cs.length ≤ 302) (hC : CA Z I 79 (620 * t + 15) i cs) (hw : Wn env cs [] [] vs' ts') (henv : ∀ j, j < 11 → I 82 j = env j) (hrg : ∀ j, j < 11 → rg (env j)) :
    ∃ I1 L1, Cl g 3 mu_X12_work [rf g 76, .int (nI t), .int (nI k)] (Z, I, L) none (Z, I1, L1) ∧ WS Z I1 L1 83 84 vs' ts' ∧ (∀ a, a ≠ 84 → I1 a = I a) ∧ ∀ a, a ≠ 83 → L1 a = L a := by
  have e1 : (620 : Int32) * nI t = nI (620 * t) := pk_mul 620 t
  have e2 : ((620 : Int32) * nI t + 1) + 3 * nI k = nI (620 * t + 1 + 3 * k) := by
    rw [e1, nI_1, show (3 : Int32) * nI k = nI (3 * k) from pk_mul 3 k, nI_add]
  have e3 : (620 : Int32) * nI t + 15 = nI (620 * t + 15) := by rw [e1]; exact nI_add _ 15
  obtain ⟨I1, L1, c1, c2, c3, c4⟩ := wk_run (g := g) (x0 := 620 * t + 15) (xc := 620 * t + 1 + 3 * k) hS.mw (by omega) (by omega) cs I L i [] [] vs' ts' hw hC (by omega) h2 henv hrg ⟨by decide, by decide, fun k x hk => by simp at hk, fun k x hk => by simp at hk⟩
  refine ⟨I1, L1, cp_X12_work (hS.k 76 12 (by decide) (by decide)) (hS.r 76 4 79 (by decide)) (hS.k 79 13 (by decide) (by decide)) (fun y1 hy1 y2 hy2 => ?_), c2, c3, c4⟩
  rw [e2] at hy1
  rw [e3] at hy2
  subst hy1
  subst hy2
  rw [nI_1, hS.n 79 2480 (by decide), nI_clamp (by omega), h1]
  refine ⟨vp_in_nI (by omega) (by decide), fun y4 hy4 => ?_⟩
  rw [hy4]
  exact c1
theorem ms_doesAt (hS : Sh Z) {t : Nat} {tt : TX} {tap : Nat} (ht : t < 4) (htap : tap < 4) (hT : TM Z I t tt) (hrg : ∀ j, j < 11 → rg (I 82 j)) : ∃ I1 L1, Cl g 4 mu_X12_doesAt [rf g 76, .int (nI t), .int (nI tap)] (Z, I, L) (some (.int (nI (wishF tt (fun j => I 82 j) tap)))) (Z, I1, L1) ∧ (∀ a, a ≠ 84 → I1 a = I a) ∧ ∀ a, a ≠ 83 → L1 a = L a := by
  obtain ⟨res, c1, c2, c3⟩ := ms_clauseOf (g := g) (L := L) hS ht (sort := 0) (by decide) hT.1
  have kk := hS.k 76 12 (by decide) (by decide)
  cases hd : tt.1 with
  | none =>
    have hres := c2 (by rw [hd]; rfl)
    subst hres
    refine ⟨I, L, cp_X12_doesAt kk (hS.r 76 25 83 (by decide)) (hS.k 83 14 (by decide) (by decide)) ⟨_, c1, fun e => absurd e (by decide), fun _ => ⟨?_, rfl⟩⟩, fun _ _ => rfl, fun _ _ => rfl⟩
    unfold wishF
    rw [hd]
    show some (Value.int (nI (if tap = 3 then 0 else tap + 1))) = _
    have cs : tap = 0 ∨ tap = 1 ∨ tap = 2 ∨ tap = 3 := by omega
    rcases cs with rfl | rfl | rfl | rfl <;> decide
  | some f =>
    obtain ⟨k, i, cs, r1, r2, r3, r4, r5, r6, r7⟩ := c3 (by rw [hd]; rfl)
    subst r1
    obtain ⟨I1, L1, d1, d2, d3, d4⟩ := ms_work (g := g) (L := L) hS ht r2 r3 r4 r5 r6 (r7 f hd (fun j => I 82 j) hrg) (fun _ _ => rfl) hrg
    have hv := (d2.2.2.1 0 _ rfl).1
    have hin : vp_in 0 (Z.2.2.1 83) := by rw [hS.n 83 330 (by decide)]; exact vp_in_nI (n := 0) (by decide) (by decide)
    refine ⟨I1, L1, cp_X12_doesAt kk (hS.r 76 25 83 (by decide)) (hS.k 83 14 (by decide) (by decide)) ⟨_, c1, fun _ => ⟨I1, L1, d1, hin, ?_⟩, fun e => absurd (nI_pos' (by omega)) e⟩, d3, d4⟩
    rw [show L1 83 (0 : Int32).toNatClampNeg = (f (fun j => I 82 j)).toInt64 from hv, lg_cmp_ge, lg_cmp_le]
    have w0 : wishF tt (fun j => I 82 j) tap = cl4 (f (fun j => I 82 j)) := by unfold wishF cl4; rw [hd]
    rw [w0]
    have z1 : ∀ x : Int32, ((0 : Int64) ≤ x.toInt64) ↔ 0 ≤ x.toInt := fun x => by rw [Int64.le_iff_toInt_le, Int32.toInt_toInt64]; rfl
    have z2 : ∀ x : Int32, (x.toInt64 ≤ (4 : Int64)) ↔ x.toInt ≤ 4 := fun x => by rw [Int64.le_iff_toInt_le, Int32.toInt_toInt64]; rfl
    have z3 : ∀ x : Int32, (x < 0) ↔ x.toInt < 0 := fun x => by rw [Int32.lt_iff_toInt_lt]; rfl
    have z4 : ∀ x : Int32, ((4 : Int32) < x) ↔ 4 < x.toInt := fun x => by rw [Int32.lt_iff_toInt_lt]; rfl
    generalize f (fun j => I 82 j) = x
    rw [z1, z2]
    unfold cl4
    refine ⟨fun e => ⟨hin, fun e2 => ⟨hin, ?_, rfl⟩, fun e2 => ⟨?_, rfl⟩⟩, fun e => ⟨?_, rfl⟩⟩
    · have h0 : ¬ x < 0 := fun z => by have := (z3 x).mp z; omega
      rw [if_neg h0, if_neg (fun z => by have := (z4 x).mp z; omega)]
      obtain ⟨j, hj, rfl⟩ := nI_of h0
      rw [nI_clamp hj, t64]
    · rw [if_neg (fun z => by have := (z3 x).mp z; omega), if_pos ((z4 x).mpr (by omega))]; rfl
    · rw [if_pos ((z3 x).mpr (by omega))]; rfl
end MADE
