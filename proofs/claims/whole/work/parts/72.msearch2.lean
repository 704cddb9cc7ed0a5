/-! the model's search: the rows gone through -/
/-- the texts asked for, and their steps, lie ready -/
def HCz (I : Nat → Nat → Int32) (w h : Nat) (S : Nat → List Nat) (tx : List TX) (T : List Nat) : Prop := I 76 34 = nI T.length ∧ (∀ i, i < T.length → I 91 i = nI (T.getD i 0)) ∧ ∀ i, i < T.length → LV I w h S (ttF tx T i) (T.getD i 0) (16 * (w * h))
theorem HCz.kept {I I1 : Nat → Nat → Int32} {w h : Nat} {S : Nat → List Nat} {tx : List TX} {T : List Nat} (k : HCz I w h S tx T) (h1 : I1 76 34 = I 76 34) (h2 : I1 91 = I 91) (h3 : I1 85 = I 85) : HCz I1 w h S tx T := ⟨by rw [h1]; exact k.1, by rw [h2]; exact k.2.1, fun i hi j hj => by rw [h3]; exact k.2.2 i hi j hj⟩
def srI (o : Option (Option Nat) × ST) : Int32 := match o.1 with
  | none => -1
  | some none => -2
  | some (some j) => nI j
/-- what stands behind a search of the model that has found -/
def MPz (w h : Nat) (S : Nat → List Nat) (I : Nat → Nat → Int32) (n : Nat) (o : Option (Option Nat) × ST) : Prop := ∀ j, o.1 = some (some j) → o.2.1.length = j + 1 ∧ sok w h S n o.2 ∧ ∀ k, 0 < k → k < j + 1 → I 87 k = nI (o.2.2.1.getD k 0) ∧ I 88 k = nI (o.2.2.2.getD k 0)
/-- what a search of the model changes -/
def MFr (I I1 : Nat → Nat → Int32) : Prop := (∀ a, ¬ modA a → a ≠ 76 → I1 a = I a) ∧ ∀ k, k ≠ 34 → k ≠ 35 → I1 76 k = I 76 k
theorem MFr.refl (I : Nat → Nat → Int32) : MFr I I := ⟨fun _ _ _ => rfl, fun _ _ _ => rfl⟩
theorem MFr.trans {I I1 I2 : Nat → Nat → Int32} (a : MFr I I1) (b : MFr I1 I2) : MFr I I2 := ⟨fun q h1 h2 => by rw [b.1 q h1 h2, a.1 q h1 h2], fun k h1 h2 => by rw [b.2 k h1 h2, a.2 k h1 h2]⟩
theorem MB.w {Z : Zs} {I I1 : Nat → Nat → Int32} {w h : Nat} {S : Nat → List Nat} {tx : List TX} (m : MB Z I w h S tx) (h2 : I1 76 2 = I 76 2) (h3 : I1 76 3 = I 76 3) (h7 : I1 77 = I 77) (h9 : I1 79 = I 79) (h82 : I1 82 = I 82) : MB Z I1 w h S tx := by
  obtain ⟨⟨k0, k1, k2, k3, k4, k5, k6⟩, hW, hr⟩ := m
  refine ⟨⟨k0, k1, by rw [h2]; exact k2, by rw [h3]; exact k3, by unfold MR at k4 ⊢; rw [h7]; exact k4, k5, fun j t hj => ?_⟩, hW, by rw [h82]; exact hr⟩
  obtain ⟨t1, t2, t3⟩ := k6 j t hj
  exact ⟨t1.kept h9, t2.kept h9, t3.kept h9⟩
section MSEARCH2
variable {g : GE} {Z : Zs} {I : Nat → Nat → Int32} {L : Nat → Nat → Int64} {w h : Nat} {S : Nat → List Nat} {tx : List TX} {T : List Nat} {goal : Option Nat}
theorem ms_next (m : MB Z I w h S tx) (hH : HCz I w h S tx T) {s : ST} (hM : HMz I s) (h3 : T.length ≤ 3) (h1 : 1 ≤ T.length) (hT : ∀ t ∈ T, t < tx.length) (hs : sok w h S T.length s) {hd tap i : Nat} (hh : hd < s.1.length) (ht : tap < 4) (hi : i < 3) : Cl g 3 mu_X12_next [rf g 76, .int (nI hd), .int (nI i), .int (nI tap)] (Z, I, L) (some (.int (nI (pr (nxT w h (S 0) T.length (ttF tx T) (s.1.getD hd (0, 0, 0)) tap) i)))) (Z, I, L) := by
  obtain ⟨k, hW, -⟩ := id m
  have hS := k.1
  have hl5 := hs.2.2.2.2.1
  refine cp_X12_next (hS.k 76 12 (by decide) (by decide)) (hS.r 76 33 91 (by decide)) (hS.k 91 13 (by decide) (by decide)) (hS.r 76 28 86 (by decide)) (hS.k 86 13 (by decide) (by decide)) ⟨fun e => ?_, fun e => ?_⟩
  · rw [hH.1, nI_leI (by omega) (by omega)] at e
    rw [nxT_0 h1 e hi]
    exact ⟨rfl, rfl⟩
  · rw [hH.1, nI_leI (by omega) (by omega)] at e
    have e : i < T.length := by omega
    rw [nxT_pr h1 h3 e]
    rw [show (3 : Int32) * nI hd = nI (3 * hd) from pk_mul 3 hd, nI_add, nI_clamp (by omega), nI_clamp (by omega), hH.2.1 i e, hM.2.1 hd i hh hi]
    exact ⟨by rw [hS.n 91 3 (by decide)]; exact vp_in_nI hi (by decide), by rw [hS.n 86 9003 (by decide)]; exact vp_in_nI (by omega) (by decide), _, ms_then k (tt_ok hT e) (hH.2.2 i e) ((hs.1 _ (getD_mem hh)).1 i e) ht, rfl, rfl⟩
theorem is_run (hS : Sh Z) {s : ST} (hM : HMz I s) {n : Nat} (h34 : I 76 34 = nI n) (h3 : n ≤ 3) {row c : Nat} (hrow : row < s.1.length) (hl : s.1.length ≤ 3000) (hc : c < 100) (hp : ∀ i, i < 3 → pr (s.1.getD row (0, 0, 0)) i < 100) : ∀ (d i : Nat), i + d = n → (∀ j, j < i → pr (s.1.getD row (0, 0, 0)) j / 4 = c) → Lp_X12_isSought_33 g 1 76 (nI row) (nI c) (nI i) (Z, I, L) (some (.int (b2i (thB n (some c) (s.1.getD row (0, 0, 0)))))) (Z, I, L) := by
  intro d
  induction d with
  | zero =>
    intro i hi hj
    have hi : i = n := hi
    subst hi
    refine wp_X12_isSought_33 (hS.k 76 12 (by decide) (by decide)) (hS.r 76 28 86 (by decide)) (hS.k 86 13 (by decide) (by decide)) ⟨fun _ => ⟨?_, rfl⟩, fun e => ?_⟩
    · have : thB i (some c) (s.1.getD row (0, 0, 0)) = true := decide_eq_true hj
      rw [this]; rfl
    · rw [h34] at e
      exact absurd (nI_le (Nat.le_refl _) (by omega)) e
  | succ d ih =>
    intro i hi hj
    refine wp_X12_isSought_33 (hS.k 76 12 (by decide) (by decide)) (hS.r 76 28 86 (by decide)) (hS.k 86 13 (by decide) (by decide)) ⟨fun e => ?_, fun _ => ?_⟩
    · rw [h34] at e
      exact absurd e (nI_ge (by omega) (by omega))
    · have hpi := hp i (by omega)
      rw [show (3 : Int32) * nI row = nI (3 * row) from pk_mul 3 row, nI_add, nI_clamp (by omega), hM.2.1 row i hrow (by omega), show nI (pr (s.1.getD row (0, 0, 0)) i) / 4 = nI (pr (s.1.getD row (0, 0, 0)) i / 4) from pk_div (d := 4) (by omega) (by decide) (by decide)]
      refine ⟨by rw [hS.n 86 9003 (by decide)]; exact vp_in_nI (by omega) (by decide), fun e y hy => ?_, fun e => ⟨?_, rfl⟩⟩
      · rw [hy, nI_1]
        have e := (nI_eq (by omega) (by omega)).mp e
        exact ih (i + 1) (by omega) (fun j hj' => by
          by_cases hji : j = i
          · rw [hji]; exact e
          · exact hj j (by omega))
      · have : thB n (some c) (s.1.getD row (0, 0, 0)) = false := decide_eq_false (fun z => e (by rw [z i (by omega)]))
        rw [this]; rfl
theorem ms_isSought (hS : Sh Z) {s : ST} (hM : HMz I s) {n : Nat} (h34 : I 76 34 = nI n) (h3 : n ≤ 3) {row : Nat} (hrow : row < s.1.length) (hl : s.1.length ≤ 3000) (hgl : ∀ c, goal = some c → c < 100) (hp : ∀ i, i < 3 → pr (s.1.getD row (0, 0, 0)) i < 100) : Cl g 1 mu_X12_isSought [rf g 76, .int (nI row), .int (oI goal)] (Z, I, L) (some (.int (b2i (thB n goal (s.1.getD row (0, 0, 0)))))) (Z, I, L) := by
  cases hg : goal with
  | some c =>
    exact cp_X12_isSought (hS.k 76 12 (by decide) (by decide)) (hS.r 76 28 86 (by decide)) (hS.k 86 13 (by decide) (by decide)) ⟨fun _ => is_run hS hM h34 h3 hrow hl (hgl c hg) hp n 0 (Nat.zero_add _) (fun j hj => by omega), fun e => absurd (nI_pos' (by have := hgl c hg; omega)) e⟩
  | none =>
    refine cp_X12_isSought (hS.k 76 12 (by decide) (by decide)) (hS.r 76 28 86 (by decide)) (hS.k 86 13 (by decide) (by decide)) ⟨fun e => absurd e (by decide), fun _ => ?_⟩
    have p0 : (s.1.getD row (0, 0, 0)).1 < 100 := hp 0 (by decide)
    have p1 : (s.1.getD row (0, 0, 0)).2.1 < 100 := hp 1 (by decide)
    have c0 : I 86 (3 * row) = nI (s.1.getD row (0, 0, 0)).1 := hM.2.1 row 0 hrow (by decide)
    have c1 : I 86 (3 * row + 1) = nI (s.1.getD row (0, 0, 0)).2.1 := hM.2.1 row 1 hrow (by decide)
    rw [show (3 : Int32) * nI row = nI (3 * row) from pk_mul 3 row, nI_1, nI_clamp (by omega), nI_clamp (by omega), c0, c1]
    refine ⟨by rw [hS.n 86 9003 (by decide)]; exact vp_in_nI (by omega) (by decide), by rw [hS.n 86 9003 (by decide)]; exact vp_in_nI (by omega) (by decide), fun e => ⟨?_, rfl⟩, fun e => ⟨?_, rfl⟩⟩
    · have e := (nI_eq (by omega) (by omega)).mp e
      have : thB n none (s.1.getD row (0, 0, 0)) = false := decide_eq_false (fun z => z e)
      rw [this]; rfl
    · have : thB n none (s.1.getD row (0, 0, 0)) = true := decide_eq_true (fun z => e (by rw [z]))
      rw [this]; rfl
theorem okR.all {r : TR} {n : Nat} (hr : okR w h S n r) (k : wh w h) : ∀ i, i < 3 → pr r i < 100 := fun i hi => by
  have hm := k.mul
  by_cases hin : i < n
  · have := (hr.1 i hin).1; omega
  · rw [hr.2 i (by omega) hi]; omega
theorem mk_run (h3 : T.length ≤ 3) (h1 : 1 ≤ T.length) (hT : ∀ t ∈ T, t < tx.length) (hgl : ∀ c, goal = some c → c < 100) : ∀ (k hd tap : Nat) (s : ST) (I : Nat → Nat → Int32), MB Z I w h S tx → HCz I w h S tx T → HMz I s → sok w h S T.length s → hd < s.1.length → tap ≤ 4 → (3000 - hd) * 5 + (4 - tap) < k →
    ∃ I1, Lp_X12_search_113 g 7 76 (oI goal) (nI hd) (nI tap) (Z, I, L) (some (.int (srI (bfF w h (S 0) T.length (ttF tx T) goal k hd tap s)))) (Z, I1, L) ∧ MB Z I1 w h S tx ∧ MPz w h S I1 T.length (bfF w h (S 0) T.length (ttF tx T) goal k hd tap s) ∧ MFr I I1 := by
  intro k
  induction k with
  | zero => intro hd tap s I _ _ _ _ _ _ hk; exact absurd hk (by omega)
  | succ k ih =>
    intro hd tap s I m hH hM hk hh ht hfu
    obtain ⟨kc, hW, -⟩ := id m
    have hS := kc.1
    obtain ⟨o1, o2, o3, o4, o5, o6, o7⟩ := id hk
    have k12 := hS.k 76 12 (by decide) (by decide)
    by_cases ht4 : tap < 4
    · obtain ⟨rw0, hrw0⟩ : ∃ r0, r0 = s.1.getD hd (0, 0, 0) := ⟨_, rfl⟩
      have hok0 : okR w h S T.length rw0 := by rw [hrw0]; exact o1 _ (getD_mem hh)
      obtain ⟨rx, hrx⟩ : ∃ rx, rx = nxT w h (S 0) T.length (ttF tx T) rw0 tap := ⟨_, rfl⟩
      have hokx : okR w h S T.length rx := by rw [hrx]; exact hok0.nx kc.2.1 hW h1 h3
      have n0 := ms_next (g := g) (L := L) (i := 0) m hH hM h3 h1 hT hk hh ht4 (by decide)
      have n1 := ms_next (g := g) (L := L) (i := 1) m hH hM h3 h1 hT hk hh ht4 (by decide)
      have n2 := ms_next (g := g) (L := L) (i := 2) m hH hM h3 h1 hT hk hh ht4 (by decide)
      rw [← hrw0, ← hrx] at n0 n1 n2
      have g4 : ¬ (4 : Int32) ≤ nI tap := fun e => absurd ((nI_leI (a := 4) (by decide) (by omega)).mp e) (by omega)
      obtain ⟨ka, kb, kd'⟩ := ms_isKept (g := g) (L := L) (x4 := nI hd) (x5 := nI tap) hS hM o5 (r := rx) (hokx.all kc.2.1) (fun j i hj hi => (o1 _ (getD_mem hj)).all kc.2.1 i hi)
      have unf : bfF w h (S 0) T.length (ttF tx T) goal (k + 1) hd tap s = (if rx ∈ s.1 then bfF w h (S 0) T.length (ttF tx T) goal k hd (tap + 1) s else if s.1.length = 3000 then (some none, s) else if thB T.length goal rx then (some (some s.1.length), (s.1 ++ [rx], s.2.1 ++ [hd], s.2.2 ++ [tap])) else bfF w h (S 0) T.length (ttF tx T) goal k hd (tap + 1) (s.1 ++ [rx], s.2.1 ++ [hd], s.2.2 ++ [tap])) := by
        rw [hrx, hrw0]
        show (if tap < 4 then _ else _) = _
        rw [if_pos ht4]
      rw [unf]
      by_cases hmem : rx ∈ s.1
      · rw [if_pos hmem]
        obtain ⟨I1, f1, f2, f3, f4⟩ := ih hd (tap + 1) s I m hH hM hk hh (by omega) (by omega)
        refine ⟨I1, wp_X12_search_113 k12 ⟨fun e => absurd e g4, fun _ y2 hy2 => ⟨_, n0, _, n1, _, n2, _, I, L, ka hmem, fun _ => ⟨fun _ y hy => ?_, fun e => absurd ?_ e⟩, fun e => absurd e (by decide)⟩⟩, f2, f3, f4⟩
        · rw [hy, nI_1]; exact f1
        · rw [hy2]; exact Int32.le_refl _
      · rw [if_neg hmem]
        by_cases hl : s.1.length = 3000
        · rw [if_pos hl]
          exact ⟨I, wp_X12_search_113 k12 ⟨fun e => absurd e g4, fun _ y2 hy2 => ⟨_, n0, _, n1, _, n2, _, I, L, kb hmem hl, fun e => absurd rfl e, fun _ => ⟨rfl, rfl⟩⟩⟩, m, (fun j hj => by cases hj), MFr.refl I⟩
        · rw [if_neg hl]
          obtain ⟨I3, c1, c2, c3, c4, c5, c6, c7, c8⟩ := kd' hmem (by omega)
          have hM3 : HMz I3 (s.1 ++ [rx], s.2.1 ++ [hd], s.2.2 ++ [tap]) := hM.put (fun _ => ⟨rfl, rfl⟩) o2 o3 c2 c3 c4 c5 c6 c7
          have u76 : ∀ q, q ≠ 35 → I3 76 q = I 76 q := fun q hq => by rw [c2, upd_n _ _ hq]
          have m3 : MB Z I3 w h S tx := m.w (u76 2 (by decide)) (u76 3 (by decide)) (c8 77 (by decide) (by decide) (by decide) (by decide) (by decide) (by decide)) (c8 79 (by decide) (by decide) (by decide) (by decide) (by decide) (by decide)) (c8 82 (by decide) (by decide) (by decide) (by decide) (by decide) (by decide))
          have hH3 : HCz I3 w h S tx T := hH.kept (u76 34 (by decide)) (c8 91 (by decide) (by decide) (by decide) (by decide) (by decide) (by decide)) (c8 85 (by decide) (by decide) (by decide) (by decide) (by decide) (by decide))
          have hsk3 := hk.put hokx (show s.1.length < 3000 by omega) hh ht4
          have fr3 : MFr I I3 := ⟨fun a h1 h2 => c8 a h2 (by unfold modA at h1; omega) (by unfold modA at h1; omega) (by unfold modA at h1; omega) (by unfold modA at h1; omega) (by unfold modA at h1; omega), fun q _ h2 => u76 q h2⟩
          have len : (s.1 ++ [rx]).length = s.1.length + 1 := by rw [List.length_append, List.length_singleton]
          have e35 : I3 76 35 = nI (s.1.length + 1) := by rw [c2, upd_s]
          have eg : (s.1 ++ [rx]).getD s.1.length (0, 0, 0) = rx := by rw [getD_app, if_neg (by omega), if_pos rfl]
          have so := ms_isSought (g := g) (L := L) (goal := goal) (row := s.1.length) hS hM3 hH3.1 h3 (by show s.1.length < (s.1 ++ [rx]).length; omega) (by show (s.1 ++ [rx]).length ≤ 3000; omega) hgl (by
            show ∀ i, i < 3 → pr ((s.1 ++ [rx]).getD s.1.length (0, 0, 0)) i < 100
            rw [eg]; exact hokx.all kc.2.1)
          have so : Cl g 1 mu_X12_isSought [rf g 76, .int (nI s.1.length), .int (oI goal)] (Z, I3, L) (some (.int (b2i (thB T.length goal ((s.1 ++ [rx]).getD s.1.length (0, 0, 0)))))) (Z, I3, L) := so
          rw [eg] at so
          have ngt : ¬ I3 76 35 ≤ I 76 35 := by
            rw [e35, hM.1]; exact nI_ge (by omega) (by omega)
          by_cases hth : thB T.length goal rx = true
          · rw [if_pos hth]
            rw [hth] at so
            refine ⟨I3, wp_X12_search_113 k12 ⟨fun e => absurd e g4, fun _ y2 hy2 => ⟨_, n0, _, n1, _, n2, _, I3, L, c1, fun _ => ⟨fun e => absurd (by rw [hy2] at e; exact e) ngt, fun _ => ⟨b2i true, by rw [hy2, hM.1]; exact so, fun e => absurd e (by decide), fun _ => ⟨?_, rfl⟩⟩⟩, fun e => absurd e (by decide)⟩⟩, m3, fun j hj => ?_, fr3⟩
            · rw [hy2, hM.1]; rfl
            · have : s.1.length = j := Option.some.inj (Option.some.inj hj)
              subst this
              exact ⟨len, hsk3, fun q h0 hq => hM3.2.2.1 q h0 (by show q < (s.1 ++ [rx]).length; omega)⟩
          · have hthf : thB T.length goal rx = false := by cases hx : thB T.length goal rx with
              | true => exact absurd hx hth
              | false => rfl
            rw [if_neg hth]
            rw [hthf] at so
            obtain ⟨I1, f1, f2, f3, f4⟩ := ih hd (tap + 1) _ I3 m3 hH3 hM3 hsk3 (by show hd < (s.1 ++ [rx]).length; omega) (by omega) (by omega)
            exact ⟨I1, wp_X12_search_113 k12 ⟨fun e => absurd e g4, fun _ y2 hy2 => ⟨_, n0, _, n1, _, n2, _, I3, L, c1, fun _ => ⟨fun e => absurd (by rw [hy2] at e; exact e) ngt, fun _ => ⟨b2i false, by rw [hy2, hM.1]; exact so, fun _ y hy => by rw [hy, nI_1]; exact f1, fun e => absurd rfl e⟩⟩, fun e => absurd e (by decide)⟩⟩, f2, f3, fr3.trans f4⟩
    · have ht4 : tap = 4 := by omega
      subst ht4
      have unf : bfF w h (S 0) T.length (ttF tx T) goal (k + 1) hd 4 s = (if hd + 1 < s.1.length then bfF w h (S 0) T.length (ttF tx T) goal k (hd + 1) 0 s else (none, s)) := by
        show (if 4 < 4 then _ else _) = _
        rw [if_neg (by decide)]
      rw [unf]
      by_cases hn1 : hd + 1 < s.1.length
      · rw [if_pos hn1]
        obtain ⟨I1, f1, f2, f3, f4⟩ := ih (hd + 1) 0 s I m hH hM hk hn1 (by omega) (by omega)
        refine ⟨I1, wp_X12_search_113 k12 ⟨fun _ y hy => ?_, fun e => absurd (nI_le (Nat.le_refl 4) (by decide)) e⟩, f2, f3, f4⟩
        rw [hy, nI_1]
        refine wp_X12_search_101 k12 ⟨fun e => ?_, fun _ => f1⟩
        rw [hM.1] at e
        exact absurd e (nI_ge hn1 (by omega))
      · rw [if_neg hn1]
        refine ⟨I, wp_X12_search_113 k12 ⟨fun _ y hy => ?_, fun e => absurd (nI_le (Nat.le_refl 4) (by decide)) e⟩, m, (fun j hj => by cases hj), MFr.refl I⟩
        rw [hy, nI_1]
        refine wp_X12_search_101 k12 ⟨fun _ => ⟨rfl, rfl⟩, fun e => ?_⟩
        rw [hM.1] at e
        exact absurd (nI_le (show s.1.length ≤ hd + 1 by omega) (by omega)) e
end MSEARCH2
