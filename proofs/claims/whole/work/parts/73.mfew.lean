/-! the model's fewest(), tells() -/
section MFEW
variable {g : GE} {Z : Zs} {I : Nat → Nat → Int32} {L : Nat → Nat → Int64} {w h : Nat} {S : Nat → List Nat} {tx : List TX} {T : List Nat} {goal : Option Nat}
/-- the chains are emptied -/
theorem ch_fill (hS : Sh Z) {x1 x2 : Int32} : ∀ (d j : Nat) (I : Nat → Nat → Int32), j + d = 4096 → (∀ v, v < j → I 90 v = -1) → ∃ I1, (∀ r M', Lp_X12_search_29 g 7 76 x1 x2 0 (Z, I1, L) r M' → Lp_X12_search_2 g 7 76 x1 x2 (nI j) (Z, I, L) r M') ∧ (∀ v, v < 4096 → I1 90 v = -1) ∧ I1 76 = upd (I 76) 35 0 ∧ ∀ a, a ≠ 76 → a ≠ 90 → I1 a = I a := by
  intro d
  induction d with
  | zero =>
    intro j I hj hv
    have hj : j = 4096 := hj
    subst hj
    refine ⟨rw1 I 76 (upd (I 76) 35 0), fun r M' hc => wp_X12_search_2 (hS.k 76 12 (by decide) (by decide)) (hS.r 76 32 90 (by decide)) (hS.k 90 13 (by decide) (by decide)) ⟨fun _ I1 h1 => by rw [h1]; exact hc, fun e => absurd (nI_le (Nat.le_refl 4096) (by decide)) e⟩, fun v hv' => by rw [rw1_n _ _ (by decide)]; exact hv v hv', rw1_s _ _ _, fun a h1 _ => rw1_n _ _ h1⟩
  | succ d ih =>
    intro j I hj hv
    obtain ⟨J, hJ⟩ : ∃ J, J = rw1 I 90 (upd (I 90) j (-1)) := ⟨_, rfl⟩
    obtain ⟨I1, a1, a2, a3, a4⟩ := ih (j + 1) J (by omega) (fun v hv' => by
      rw [hJ, rw1_s]
      by_cases he : v = j
      · rw [he, upd_s]
      · rw [upd_n _ _ he]; exact hv v (by omega))
    refine ⟨I1, fun r M' hc => wp_X12_search_2 (hS.k 76 12 (by decide) (by decide)) (hS.r 76 32 90 (by decide)) (hS.k 90 13 (by decide) (by decide)) ⟨fun e => absurd ((nI_leI (a := 4096) (by decide) (by omega)).mp e) (by omega), fun _ => ⟨by rw [hS.n 90 4096 (by decide)]; exact vp_in_nI (by omega) (by decide), fun I3 h3 y hy => ?_⟩⟩, a2, by rw [a3, hJ, rw1_n _ _ (by decide)], fun a h1 h2 => by rw [a4 a h1 h2, hJ, rw1_n _ _ h2]⟩
    rw [nI_clamp (by omega), ← hJ] at h3
    rw [h3, hy, nI_1]
    exact a1 r M' hc
/-- the texts' steps are laid -/
theorem ly_run {x1 x2 : Int32} (h3 : T.length ≤ 3) (hT : ∀ t ∈ T, t < tx.length) : ∀ (d j : Nat) (I : Nat → Nat → Int32) (L : Nat → Nat → Int64), j + d = T.length → MB Z I w h S tx → I 76 34 = nI T.length → (∀ i, i < T.length → I 91 i = nI (T.getD i 0)) → (∀ i, i < j → LV I w h S (ttF tx T i) (T.getD i 0) (16 * (w * h))) →
    ∃ I1 L1, (∀ r M', Lp_X12_search_29 g 7 76 x1 x2 (nI T.length) (Z, I1, L1) r M' → Lp_X12_search_29 g 7 76 x1 x2 (nI j) (Z, I, L) r M') ∧ MB Z I1 w h S tx ∧ HCz I1 w h S tx T ∧ ∀ a, a ≠ 82 → a ≠ 84 → a ≠ 85 → I1 a = I a := by
  intro d
  induction d with
  | zero =>
    intro j I L hj m h34 h91 hV
    have hj : j = T.length := hj
    subst hj
    exact ⟨I, L, fun _ _ hc => hc, m, ⟨h34, h91, hV⟩, fun _ _ _ _ => rfl⟩
  | succ d ih =>
    intro j I L hj m h34 h91 hV
    have hS := m.1.1
    have hjl : j < T.length := by omega
    have tj := tt_ok hT hjl
    obtain ⟨J, L2, d1, d2, d3, d4, d5, d6⟩ := ms_lay (g := g) (L := L) m tj
    obtain ⟨I1, L1, a1, a2, a3, a4⟩ := ih (j + 1) J L2 (by omega) d2 (by rw [d5 76 (by decide) (by decide) (by decide)]; exact h34) (fun i hi => by rw [d5 91 (by decide) (by decide) (by decide)]; exact h91 i hi) (fun i hi => by
      by_cases he : T.getD i 0 = T.getD j 0
      · have : ttF tx T i = ttF tx T j := by unfold ttF; rw [he]
        rw [this, he]; exact d3
      · by_cases hij : i = j
        · rw [hij]; exact d3
        · have hl := m.1.2.1.mul
          intro q hq
          have e := d4 (400 * T.getD i 0 + q) (by omega)
          rw [e]
          exact hV i (by omega) q hq)
    refine ⟨I1, L1, fun r M' hc => wp_X12_search_29 (hS.k 76 12 (by decide) (by decide)) (hS.r 76 33 91 (by decide)) (hS.k 91 13 (by decide) (by decide)) ⟨fun e => ?_, fun _ => ⟨by rw [hS.n 91 3 (by decide)]; exact vp_in_nI (by omega) (by decide), J, L2, ?_, fun y hy => ?_⟩⟩, a2, a3, fun a h1 h2 h3 => by rw [a4 a h1 h2 h3, d5 a h1 h2 h3]⟩
    · rw [h34] at e
      exact absurd e (nI_ge hjl (by omega))
    · rw [nI_clamp (by omega), h91 j hjl]; exact d1
    · rw [hy, nI_1]; exact a1 r M' hc
theorem ms_search (m : MB Z I w h S tx) (h34 : I 76 34 = nI T.length) (h91 : ∀ i, i < T.length → I 91 i = nI (T.getD i 0)) (h3 : T.length ≤ 3) (h1 : 1 ≤ T.length) (hT : ∀ t ∈ T, t < tx.length) (hgl : ∀ c, goal = some c → c < 100) {p : Nat} (hp : isP w h S p) : ∃ I1 L1, Cl g 7 mu_X12_search [rf g 76, .int (nI p), .int (oI goal)] (Z, I, L) (some (.int (srI (skF w h (S 0) T.length (ttF tx T) goal p)))) (Z, I1, L1) ∧ MB Z I1 w h S tx ∧ MPz w h S I1 T.length (skF w h (S 0) T.length (ttF tx T) goal p) ∧ MFr I I1 := by
  obtain ⟨kc, hW, -⟩ := id m
  have hS := kc.1
  have hm := kc.2.1.mul
  have hp1 := hp.1
  obtain ⟨J1, a1, a2, a3, a4⟩ := ch_fill (g := g) (L := L) (x1 := nI p) (x2 := oI goal) hS 4096 0 I (Nat.zero_add _) (fun v hv => absurd hv (by omega))
  have u76 : ∀ q, q ≠ 35 → J1 76 q = I 76 q := fun q hq => by rw [a3, upd_n _ _ hq]
  have m1 : MB Z J1 w h S tx := m.w (u76 2 (by decide)) (u76 3 (by decide)) (a4 77 (by decide) (by decide)) (a4 79 (by decide) (by decide)) (a4 82 (by decide) (by decide))
  obtain ⟨J2, L2, b1, b2, b3, b4⟩ := ly_run (g := g) (Z := Z) (x1 := nI p) (x2 := oI goal) h3 hT T.length 0 J1 L (Nat.zero_add _) m1 (by rw [u76 34 (by decide)]; exact h34) (fun i hi => by rw [a4 91 (by decide) (by decide)]; exact h91 i hi) (fun i hi => absurd hi (by omega))
  have hM0 : HMz J2 ([], [], []) := ⟨by rw [b4 76 (by decide) (by decide) (by decide), a3, upd_s]; rfl, fun k i hk => absurd hk (by show ¬ k < 0; omega), fun k _ hk => absurd hk (by show ¬ k < 0; omega), fun v hv => by rw [b4 90 (by decide) (by decide) (by decide), a2 v hv]; rfl, fun k hk => absurd hk (by show ¬ k < 0; omega)⟩
  have hok0 := r0F_ok (n := T.length) h1 h3 hp
  obtain ⟨-, -, kd'⟩ := ms_isKept (g := g) (I := J2) (L := L2) (x4 := -1) (x5 := 0) hS hM0 (by show 0 ≤ 3000; omega) (r := r0F T.length p) (hok0.all kc.2.1) (fun j i hj => absurd hj (by show ¬ j < 0; omega))
  obtain ⟨J3, c1, c2, c3, c4, c5, c6, c7, c8⟩ := kd' (fun z => by cases z) (by show 0 < 3000; omega)
  have hM3 : HMz J3 ([r0F T.length p], [0], [0]) := HMz.put (s := ([], [], [])) (hd := 0) (tap := 0) hM0 (fun z => absurd z (by show ¬ 0 < 0; omega)) rfl rfl c2 c3 c4 c5 c6 c7
  have v76 : ∀ q, q ≠ 35 → J3 76 q = J2 76 q := fun q hq => by rw [c2, upd_n _ _ hq]
  have m3 : MB Z J3 w h S tx := b2.w (v76 2 (by decide)) (v76 3 (by decide)) (c8 77 (by decide) (by decide) (by decide) (by decide) (by decide) (by decide)) (c8 79 (by decide) (by decide) (by decide) (by decide) (by decide) (by decide)) (c8 82 (by decide) (by decide) (by decide) (by decide) (by decide) (by decide))
  have hH3 : HCz J3 w h S tx T := b3.kept (v76 34 (by decide)) (c8 91 (by decide) (by decide) (by decide) (by decide) (by decide) (by decide)) (c8 85 (by decide) (by decide) (by decide) (by decide) (by decide) (by decide))
  have so := ms_isSought (g := g) (L := L2) (goal := goal) (row := 0) hS hM3 hH3.1 h3 (by show 0 < 1; omega) (by show 1 ≤ 3000; omega) hgl (hok0.all kc.2.1)
  have so : Cl g 1 mu_X12_isSought [rf g 76, .int 0, .int (oI goal)] (Z, J3, L2) (some (.int (b2i (thB T.length goal (r0F T.length p))))) (Z, J3, L2) := so
  have fr3 : MFr I J3 := ⟨fun a h1 h2 => by rw [c8 a h2 (by unfold modA at h1; omega) (by unfold modA at h1; omega) (by unfold modA at h1; omega) (by unfold modA at h1; omega) (by unfold modA at h1; omega), b4 a (by unfold modA at h1; omega) (by unfold modA at h1; omega) (by unfold modA at h1; omega), a4 a h2 (by unfold modA at h1; omega)], fun q _ h2 => by rw [v76 q h2, b4 76 (by decide) (by decide) (by decide), u76 q h2]⟩
  have e34 : J2 76 34 = nI T.length := b3.1
  have le1 : J2 76 34 ≤ nI T.length := by rw [e34]; exact Int32.le_refl _
  have fin : ∀ (v : Int32) (I1 : Nat → Nat → Int32), (thB T.length goal (r0F T.length p) = true → v = 0 ∧ I1 = J3) → (thB T.length goal (r0F T.length p) = false → Lp_X12_search_101 g 7 76 (oI goal) 0 (Z, J3, L2) (some (.int v)) (Z, I1, L2)) → Cl g 7 mu_X12_search [rf g 76, .int (nI p), .int (oI goal)] (Z, I, L) (some (.int v)) (Z, I1, L2) := fun v I1 hv1 hv2 => by
    refine cp_X12_search (hS.k 76 12 (by decide) (by decide)) (a1 _ _ (b1 _ _ ?_))
    have tail : ∃ v5, Cl g 1 mu_X12_isSought [rf g 76, .int 0, .int (oI goal)] (Z, J3, L2) (some (.int v5)) (Z, J3, L2) ∧ ((v5 = 0 → Lp_X12_search_101 g 7 76 (oI goal) 0 (Z, J3, L2) (some (.int v)) (Z, I1, L2)) ∧ (¬ v5 = 0 → (some (Value.int v) = some (.int 0) ∧ (Z, I1, L2) = (Z, J3, L2)))) := by
      refine ⟨_, so, fun e => ?_, fun e => ?_⟩
      · rw [b2i_0] at e
        exact hv2 e
      · have e : thB T.length goal (r0F T.length p) = true := Classical.byContradiction (fun z => e (b2i_f z))
        obtain ⟨z1, z2⟩ := hv1 e
        rw [z1, z2]; exact ⟨rfl, rfl⟩
    have cs : T.length = 1 ∨ T.length = 2 ∨ T.length = 3 := by omega
    refine wp_X12_search_29 (hS.k 76 12 (by decide) (by decide)) (hS.r 76 33 91 (by decide)) (hS.k 91 13 (by decide) (by decide)) ⟨fun _ => ?_, fun e => absurd le1 e⟩
    rcases cs with hl | hl | hl
    · rw [e34, hl]
      rw [hl] at c1
      have c1 : Cl g 2 mu_X12_isKept [rf g 76, .int (nI p), .int 0, .int 0, .int (-1), .int 0] (Z, J2, L2) (some (.int 1)) (Z, J3, L2) := c1
      exact ⟨fun _ => ⟨fun _ => ⟨_, J3, L2, c1, tail⟩, fun e => absurd (by decide) e⟩, fun e => absurd (by decide) e⟩
    · rw [e34, hl]
      rw [hl] at c1
      have c1 : Cl g 2 mu_X12_isKept [rf g 76, .int (nI p), .int (nI p), .int 0, .int (-1), .int 0] (Z, J2, L2) (some (.int 1)) (Z, J3, L2) := c1
      exact ⟨fun e => absurd e (by decide), fun _ => ⟨fun _ => ⟨_, J3, L2, c1, tail⟩, fun e => absurd (by decide) e⟩⟩
    · rw [e34, hl]
      rw [hl] at c1
      have c1 : Cl g 2 mu_X12_isKept [rf g 76, .int (nI p), .int (nI p), .int (nI p), .int (-1), .int 0] (Z, J2, L2) (some (.int 1)) (Z, J3, L2) := c1
      exact ⟨fun e => absurd e (by decide), fun _ => ⟨fun e => absurd e (by decide), fun _ => ⟨_, J3, L2, c1, tail⟩⟩⟩
  by_cases hth : thB T.length goal (r0F T.length p) = true
  · have es : skF w h (S 0) T.length (ttF tx T) goal p = (some (some 0), ([r0F T.length p], [0], [0])) := by unfold skF; rw [if_pos hth]
    rw [es]
    refine ⟨J3, L2, fin _ _ (fun _ => ⟨rfl, rfl⟩) (fun z => by rw [hth] at z; cases z), m3, fun j hj => ?_, fr3⟩
    have : 0 = j := Option.some.inj (Option.some.inj hj)
    subst this
    exact ⟨rfl, sok0 h1 h3 hp, fun k h0 hk => absurd hk (by omega)⟩
  · have es : skF w h (S 0) T.length (ttF tx T) goal p = bfF w h (S 0) T.length (ttF tx T) goal 20000 0 0 ([r0F T.length p], [0], [0]) := by unfold skF; rw [if_neg hth]
    rw [es]
    obtain ⟨I1, f1, f2, f3, f4⟩ := mk_run (g := g) (L := L2) (goal := goal) h3 h1 hT hgl 20000 0 0 _ J3 m3 hH3 hM3 (sok0 h1 h3 hp) (by show 0 < 1; omega) (by omega) (by omega)
    refine ⟨I1, L2, fin _ _ (fun z => absurd z hth) (fun _ => wp_X12_search_101 (hS.k 76 12 (by decide) (by decide)) ⟨fun e => ?_, fun _ => f1⟩), f2, f3, fr3.trans f4⟩
    rw [hM3.1] at e
    exact absurd (show nI 1 ≤ 0 from e) (by decide)
theorem mt_11 (hS : Sh Z) {F : List Nat} {j0 : Nat} {x2 : Int32} (h0 : j0 ≤ 3000) (hF : ∀ k, 0 < k → k < j0 + 1 → I 87 k = nI (F.getD k 0) ∧ F.getD k 0 < k) {r : Option Value} {M' : Mem} : ∀ (f j c : Nat), j ≤ f → j ≤ j0 → c + j ≤ 3001 → (Lp_X12_tapsTo_11 g 1 76 (nI j0) x2 (nI (c + dpF F 3001 j)) 0 (Z, I, L) r M') → Lp_X12_tapsTo_11 g 1 76 (nI j0) x2 (nI c) (nI j) (Z, I, L) r M' := by
  intro f
  induction f with
  | zero =>
    intro j c hj _ _ hc
    have : j = 0 := by omega
    subst this
    exact hc
  | succ f ih =>
    intro j c hj hj0 hcj hc
    by_cases h0' : j = 0
    · subst h0'; exact hc
    · obtain ⟨z1, z2⟩ := hF j (by omega) (by omega)
      have ed : dpF F 3001 j = dpF F 3001 (F.getD j 0) + 1 := by
        have e1' : dpF F 3001 j = dpF F 3000 (F.getD j 0) + 1 := by
          show (if j = 0 then 0 else dpF F 3000 (F.getD j 0) + 1) = _
          rw [if_neg h0']
        rw [e1', dp_more 3001 3000 (F.getD j 0) (by omega) (by omega) (fun i h0 hi => (hF i h0 (by omega)).2)]
      refine wp_X12_tapsTo_11 (hS.k 76 12 (by decide) (by decide)) (hS.r 76 29 87 (by decide)) (hS.k 87 13 (by decide) (by decide)) ⟨fun e => absurd e (nI_nle (by omega) (by omega)), fun _ y hy => ⟨by rw [hS.n 87 3001 (by decide)]; exact vp_in_nI (by omega) (by decide), fun y4 hy4 => ?_⟩⟩
      rw [hy, hy4, nI_1, nI_clamp (by omega), z1]
      refine ih (F.getD j 0) (c + 1) (by omega) (by omega) (by omega) ?_
      rw [show c + 1 + dpF F 3001 (F.getD j 0) = c + dpF F 3001 j by omega]
      exact hc
theorem mt_53 (hS : Sh Z) {F B : List Nat} {m x : Nat} (hm : m ≤ 3001) (hF : ∀ k, 0 < k → k < m → I 87 k = nI (F.getD k 0) ∧ F.getD k 0 < k ∧ I 88 k = nI (B.getD k 0)) : ∀ (d e j : Nat), x + d = e → j < m → dpF F 3001 j = e + 1 → Lp_X12_tapsTo_53 g 1 76 (nI x) (nI j) (nI e) (Z, I, L) (some (.int (nI (B.getD (upF F d j) 0)))) (Z, I, L) := by
  have hle : ∀ j, j < m → dpF F 3001 j ≤ j := fun j hj => dp_le 3001 j (fun i h0 hi => (hF i h0 (by omega)).2.1)
  have wp := fun (R : Option Value) (M' : Mem) (u2 u4 u5 : Int32) => @wp_X12_tapsTo_53 g Z I L R M' 76 u2 u4 u5 88 87 (hS.k 76 12 (by decide) (by decide)) (hS.r 76 30 88 (by decide)) (hS.k 88 13 (by decide) (by decide)) (hS.r 76 29 87 (by decide)) (hS.k 87 13 (by decide) (by decide))
  intro d
  induction d with
  | zero =>
    intro e j hx hj hdp
    have := hle j hj
    have h0 : 0 < j := by omega
    obtain ⟨z1, z2, z3⟩ := hF j h0 hj
    refine wp _ _ _ _ _ ⟨fun _ => ?_, fun e' => absurd (nI_le (show e ≤ x by omega) (by omega)) e'⟩
    rw [nI_clamp (by omega), z3]
    exact ⟨by rw [hS.n 88 3001 (by decide)]; exact vp_in_nI (by omega) (by decide), rfl, rfl⟩
  | succ d ih =>
    intro e j hx hj hdp
    have hlj := hle j hj
    have h0 : 0 < j := by omega
    obtain ⟨z1, z2, z3⟩ := hF j h0 hj
    have hd2 : dpF F 3001 (F.getD j 0) = (e - 1) + 1 := by
      have e1' : dpF F 3001 j = dpF F 3000 (F.getD j 0) + 1 := by
        show (if j = 0 then 0 else dpF F 3000 (F.getD j 0) + 1) = _
        rw [if_neg (by omega)]
      rw [dp_more 3001 3000 (F.getD j 0) (by omega) (by omega) (fun i h0 hi => (hF i h0 (by omega)).2.1)]
      omega
    refine wp _ _ _ _ _ ⟨fun e' => absurd ((nI_leI (by omega) (by omega)).mp e') (by omega), fun _ => ?_⟩
    rw [nI_clamp (by omega), z1]
    refine ⟨by rw [hS.n 87 3001 (by decide)]; exact vp_in_nI (by omega) (by decide), fun y hy y2 hy2 => ?_⟩
    rw [hy, hy2, neg1, show nI e - 1 = nI (e - 1) from by rw [show e = (e - 1) + 1 by omega, nI_pred]; rfl]
    exact ih (e - 1) (F.getD j 0) (by omega) (by omega) hd2
theorem ms_tapsTo (hS : Sh Z) {n : Nat} {o : Option (Option Nat) × ST} (hP : MPz w h S I n o) {x : Int32} (hx : -1 ≤ x) : Cl g 1 mu_X12_tapsTo [rf g 76, .int (srI o), .int x] (Z, I, L) (some (.int (saF o x))) (Z, I, L) := by
  refine cp_X12_tapsTo (hS.k 76 12 (by decide) (by decide)) ?_
  obtain ⟨o1, s⟩ := o
  cases o1 with
  | none => exact ⟨fun e => absurd (show (0 : Int32) ≤ -1 from e) (by decide), fun _ => ⟨rfl, rfl⟩⟩
  | some o2 =>
    cases o2 with
    | none => exact ⟨fun e => absurd (show (0 : Int32) ≤ -2 from e) (by decide), fun _ => ⟨rfl, rfl⟩⟩
    | some j =>
      obtain ⟨hlen, hsk, hF⟩ := hP j rfl
      have hlen : s.1.length = j + 1 := hlen
      have h5 : s.1.length ≤ 3000 := hsk.2.2.2.2.1
      have hF2 : ∀ k, 0 < k → k < j + 1 → I 87 k = nI (s.2.1.getD k 0) ∧ s.2.1.getD k 0 < k ∧ I 88 k = nI (s.2.2.getD k 0) := fun k h0 hk => ⟨(hF k h0 hk).1, hsk.2.2.2.2.2.1 k h0 (by show k < s.1.length; omega), (hF k h0 hk).2⟩
      have hdl : dpF s.2.1 3001 j ≤ j := dp_le 3001 j (fun i h0 hi => (hF2 i h0 (by omega)).2.1)
      refine ⟨fun _ => ?_, fun e => absurd (nI_pos' (show j < 2 ^ 31 by omega)) e⟩
      show Lp_X12_tapsTo_11 g 1 76 (nI j) x (nI 0) (nI j) (Z, I, L) _ _
      refine mt_11 (F := s.2.1) hS (by omega) (fun k h0 hk => ⟨(hF2 k h0 hk).1, (hF2 k h0 hk).2.1⟩) j j 0 (Nat.le_refl _) (Nat.le_refl _) (by omega) ?_
      rw [Nat.zero_add]
      refine wp_X12_tapsTo_11 (hS.k 76 12 (by decide) (by decide)) (hS.r 76 29 87 (by decide)) (hS.k 87 13 (by decide) (by decide)) ⟨fun _ => ⟨fun hx1 => ?_, fun hx1 => ⟨?_, rfl⟩⟩, fun e => absurd (by decide) e⟩
      · have hx0 : ¬ x < 0 := fun z => hx1 (by
          have h1 := Int32.le_iff_toInt_le.mp hx
          have h2 := Int32.lt_iff_toInt_lt.mp z
          rw [show (-1 : Int32).toInt = -1 by decide] at h1
          rw [show (0 : Int32).toInt = 0 by decide] at h2
          apply Int32.toInt_inj.mp
          rw [show (-1 : Int32).toInt = -1 by decide]
          omega)
        obtain ⟨xi, hxi, rfl⟩ := nI_of hx0
        refine ⟨fun e y hy => ?_, fun e => ⟨?_, rfl⟩⟩
        · have hlt : xi < dpF s.2.1 3001 j := (nI_ltI hxi (by omega)).mp e
          rw [show nI (dpF s.2.1 3001 j) - 1 = nI (dpF s.2.1 3001 j - 1) from by rw [show dpF s.2.1 3001 j = (dpF s.2.1 3001 j - 1) + 1 by omega, nI_pred]; rfl] at hy
          rw [hy]
          unfold saF
          show Lp_X12_tapsTo_53 g 1 76 (nI xi) (nI j) _ (Z, I, L) (some (Value.int (if nI xi = -1 then _ else if nI xi < nI (dpF s.2.1 3001 j) then nI (s.2.2.getD (upF s.2.1 (dpF s.2.1 3001 j - 1 - (nI xi).toNatClampNeg) j) 0) else -1))) _
          rw [if_neg hx1, if_pos e, nI_clamp hxi]
          exact mt_53 (F := s.2.1) (B := s.2.2) hS (show j + 1 ≤ 3001 by omega) hF2 (dpF s.2.1 3001 j - 1 - xi) (dpF s.2.1 3001 j - 1) j (by omega) (by omega) (by omega)
        · unfold saF
          show some (Value.int (if nI xi = -1 then _ else if nI xi < nI (dpF s.2.1 3001 j) then _ else -1)) = _
          rw [if_neg hx1, if_neg e]
      · unfold saF
        show some (Value.int (if x = -1 then nI (dpF s.2.1 3001 j) else _)) = _
        rw [if_pos hx1]
end MFEW
