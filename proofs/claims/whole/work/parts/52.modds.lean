/-! odds(): the model's side -/
section MODDS
variable {g : GE} {Z : Zs} {I : Nat → Nat → Int32} {L : Nat → Nat → Int64} {w h : Nat} {S : Nat → List Nat} {tx : List TX}
theorem ms_then (k : MM Z I w h S tx) {hb p tap : Nat} {t : TX} (htx : tx[hb]? = some t) (hV : LV I w h S t hb (16 * (w * h))) (hp : isP w h S p) (ht : tap < 4) : Cl g 2 mu_X12_then [rf g 76, .int (nI hb), .int (nI p), .int (nI tap)] (Z, I, L) (some (.int (nI (stepF w h (S 0) t p tap % 200)))) (Z, I, L) := by
  have hst := stepF_lt (K := S 0) (t := t) (tap := tap) k.2.1 hp.1
  exact cp_X12_then (k.1.k 76 12 (by decide) (by decide)) ⟨_, ms_laid k htx hV hp ht, by rw [rem200 (by omega)], rfl⟩
theorem v92 (hS : Sh Z) {j : Nat} (hj : j < 100) : vp_in (nI j) (Z.2.2.1 92) := by rw [hS.n 92 100 (by decide)]; exact vp_in_nI hj (by decide)
theorem v93 (hS : Sh Z) {j : Nat} (hj : j < 100) : vp_in (nI j) (Z.2.2.1 93) := by rw [hS.n 93 100 (by decide)]; exact vp_in_nI hj (by decide)
theorem ge100 {j : Nat} (hj : j < 100) : ¬ (100 : Int32) ≤ nI j := fun e => absurd ((nI_leI (a := 100) (by decide) (by omega)).mp e) (by omega)
theorem le100 : (100 : Int32) ≤ nI 100 := nI_le (Nat.le_refl 100) (by decide)
theorem m68 (hS : Sh Z) {x1 x3 x4 x5 : Int32} {p : Nat} (hp : p < 100) : ∀ (d j : Nat) (L : Nat → Nat → Int64), j + d = 100 → (∀ i, i < j → L 92 i = nJ (w0F p i)) → ∃ L1, (∀ r M', Lp_X12_odds_105 g 7 76 x1 x3 x4 x5 1 0 (Z, I, L1) r M' → Lp_X12_odds_68 g 7 76 x1 (nI p) x3 x4 x5 (nI j) (Z, I, L) r M') ∧ LW L1 92 (w0F p) := by
  have k76 := hS.k 76 12 (by decide) (by decide)
  have r92 := hS.r 76 36 92 (by decide)
  have k92 := hS.k 92 14 (by decide) (by decide)
  intro d
  induction d with
  | zero =>
    intro j L hj hq
    have hj : j = 100 := hj
    subst hj
    exact ⟨L, fun r M' hc => wp_X12_odds_68 k76 r92 k92 ⟨fun _ => hc, fun e => absurd le100 e⟩, hq⟩
  | succ d ih =>
    intro j L hj hq
    have nx : ∀ v : Nat, w0F p j = v → ∃ L1, (∀ r M', Lp_X12_odds_105 g 7 76 x1 x3 x4 x5 1 0 (Z, I, L1) r M' → Lp_X12_odds_68 g 7 76 x1 (nI p) x3 x4 x5 (nI (j + 1)) (Z, I, rw1 L 92 (vp_updL (L 92) j (nJ v))) r M') ∧ LW L1 92 (w0F p) := fun v hv => ih (j + 1) _ (by omega) (fun i hi => by
      rw [rw1_s]
      unfold vp_updL
      by_cases hij : i = j
      · rw [if_pos hij, hij, hv]
      · rw [if_neg hij]; exact hq i (by omega))
    by_cases hjp : j = p
    · obtain ⟨L1, e1, e2⟩ := nx 1 (by unfold w0F; rw [if_pos hjp])
      refine ⟨L1, fun r M' hc => wp_X12_odds_68 k76 r92 k92 ⟨fun e => absurd e (ge100 (by omega)), fun _ => ⟨fun e => absurd (by rw [hjp]) e, fun _ => ⟨v92 hS (by omega), fun L5 h5 y hy => ?_⟩⟩⟩, e2⟩
      rw [nI_clamp (by omega)] at h5
      rw [hy, nI_1, h5]
      exact e1 r M' hc
    · obtain ⟨L1, e1, e2⟩ := nx 0 (by unfold w0F; rw [if_neg hjp])
      refine ⟨L1, fun r M' hc => wp_X12_odds_68 k76 r92 k92 ⟨fun e => absurd e (ge100 (by omega)), fun _ => ⟨fun _ => ⟨v92 hS (by omega), fun L5 h5 y hy => ?_⟩, fun e => absurd ((nI_eq (by omega) (by omega)).mp e) hjp⟩⟩, e2⟩
      rw [nI_clamp (by omega)] at h5
      rw [hy, nI_1, h5]
      exact e1 r M' hc
theorem m131 (hS : Sh Z) {x1 x3 x4 x5 x8 x9 : Int32} {x6 : Int64} {W : Nat → Nat} : ∀ (d j : Nat) (L : Nat → Nat → Int64), j + d = 100 → LW L 92 W → (∀ i, i < j → L 93 i = nJ 0) → ∃ L1, (∀ r M', Lp_X12_odds_155 g 7 76 x1 x3 x4 x5 x6 x8 x9 0 (Z, I, L1) r M' → Lp_X12_odds_131 g 7 76 x1 x3 x4 x5 x6 x8 x9 (nI j) (Z, I, L) r M') ∧ LW L1 92 W ∧ LW L1 93 (fun _ => 0) := by
  have k76 := hS.k 76 12 (by decide) (by decide)
  have r93 := hS.r 76 37 93 (by decide)
  have k93 := hS.k 93 14 (by decide) (by decide)
  intro d
  induction d with
  | zero =>
    intro j L hj hw hq
    have hj : j = 100 := hj
    subst hj
    exact ⟨L, fun r M' hc => wp_X12_odds_131 k76 r93 k93 ⟨fun _ => hc, fun e => absurd le100 e⟩, hw, hq⟩
  | succ d ih =>
    intro j L hj hw hq
    obtain ⟨L1, e1, e2, e3⟩ := ih (j + 1) (rw1 L 93 (vp_updL (L 93) j (nJ 0))) (by omega) (hw.o (by decide)) (fun i hi => by
      rw [rw1_s]
      unfold vp_updL
      by_cases hij : i = j
      · rw [if_pos hij]
      · rw [if_neg hij]; exact hq i (by omega))
    refine ⟨L1, fun r M' hc => wp_X12_odds_131 k76 r93 k93 ⟨fun e => absurd e (ge100 (by omega)), fun _ => ⟨v93 hS (by omega), fun L5 h5 y hy => ?_⟩⟩, e2, e3⟩
    rw [nI_clamp (by omega)] at h5
    rw [hy, nI_1, h5]
    exact e1 r M' hc
theorem m155 (k : MM Z I w h S tx) (hW : WF w h S tx) {hb : Nat} {t : TX} (htx : tx[hb]? = some t) (hV : LV I w h S t hb (16 * (w * h))) {tap m : Nat} (ht : tap < 4) (hm10 : m ≤ 10) {W : Nat → Nat} (hP : onP w h S W) (hB : ∀ i, W i < 2 ^ 62) {x3 x5 x8 : Int32} {x6 : Int64} : ∀ (d p : Nat) (A : Nat → Nat) (L : Nat → Nat → Int64), p + d = 100 → LW L 92 W → LW L 93 A →
    ∃ L1, (∀ r M', Lp_X12_odds_249 g 7 76 (nI hb) x3 (nI m) x5 x6 x8 0 (Z, I, L1) r M' → Lp_X12_odds_155 g 7 76 (nI hb) x3 (nI m) x5 x6 x8 (nI tap) (nI p) (Z, I, L) r M') ∧ LW L1 93 (spF w h (S 0) t tap m W d p A) := by
  have hm := k.2.1.mul
  have mk := fun (L : Nat → Nat → Int64) (p : Nat) (r : Option Value) (M' : Mem) => @wp_X12_odds_155 g Z I L r M' 76 (nI hb) x3 (nI m) x5 x6 x8 (nI tap) (nI p) 92 93 (k.1.k 76 12 (by decide) (by decide)) (k.1.r 76 36 92 (by decide)) (k.1.k 92 14 (by decide) (by decide)) (k.1.r 76 37 93 (by decide)) (k.1.k 93 14 (by decide) (by decide))
  intro d
  induction d with
  | zero =>
    intro p A L hp h92 h93
    have hp : p = 100 := hp
    subst hp
    exact ⟨L, fun r M' hc => mk _ _ _ _ ⟨fun _ => hc, fun e => absurd le100 e⟩, h93⟩
  | succ d ih =>
    intro p A L hp h92 h93
    have eW : ∀ {L2 : Nat → Nat → Int64}, LW L2 92 W → L2 92 (nI p).toNatClampNeg = nJ (W p) := fun hL => by rw [nI_clamp (by omega)]; exact hL p (by omega)
    by_cases h0 : W p = 0
    · obtain ⟨L1, e1, e2⟩ := ih (p + 1) A L (by omega) h92 h93
      rw [spF_0 h0]
      refine ⟨L1, fun r M' hc => mk _ _ _ _ ⟨fun e => absurd e (ge100 (by omega)), fun _ => ⟨v92 k.1 (by omega), fun e => absurd ?_ e, fun _ y hy => by rw [hy, nI_1]; exact e1 r M' hc⟩⟩, e2⟩
      rw [lg_cmp_eq, eW h92, h0]; rfl
    · have hPp := hP p h0
      have hp1 := hPp.1
      have q1 := (step_isP (tap := tap) (t := t) k.2.1 hW hPp).1
      have q2 := (step_isP (tap := (tap + 1) % 4) (t := t) k.2.1 hW hPp).1
      have eT : (nI tap + 1) - (nI tap + 1) / 4 * 4 = nI ((tap + 1) % 4) := by rw [nI_1]; exact pk_rem (d := 4) (by omega) (by decide) (by decide)
      have eA : (10 - nI m).toInt64 = nJ (10 - m) := by rw [show (10 : Int32) - nI m = nI (10 - m) from pk_sub (a := 10) hm10, nI_J (by omega)]
      have eM : (nI m).toInt64 = nJ m := nI_J (by omega)
      have th1 := fun (L : Nat → Nat → Int64) => ms_then (g := g) (L := L) k htx hV hPp ht
      have th2 := fun (L : Nat → Nat → Int64) => ms_then (g := g) (L := L) k htx hV hPp (show (tap + 1) % 4 < 4 by omega)
      obtain ⟨a1, ha1⟩ : ∃ a1, a1 = stepF w h (S 0) t p tap % 200 := ⟨_, rfl⟩
      obtain ⟨a2, ha2⟩ : ∃ a2, a2 = stepF w h (S 0) t p ((tap + 1) % 4) % 200 := ⟨_, rfl⟩
      rw [← ha1] at q1 th1
      rw [← ha2] at q2 th2
      obtain ⟨L2, hL2⟩ : ∃ L2, L2 = rw1 L 93 (vp_updL (L 93) a1 (L 93 a1 + nJ (W p * (10 - m)))) := ⟨_, rfl⟩
      have h92' : LW L2 92 W := by rw [hL2]; exact h92.o (by decide)
      have h93' : LW L2 93 (addF A a1 (W p * (10 - m))) := by rw [hL2]; exact h93.add (by omega)
      obtain ⟨L3, hL3⟩ : ∃ L3, L3 = rw1 L2 93 (vp_updL (L2 93) a2 (L2 93 a2 + nJ (W p * m))) := ⟨_, rfl⟩
      have h92'' : LW L3 92 W := by rw [hL3]; exact h92'.o (by decide)
      have h93'' : LW L3 93 (addF (addF A a1 (W p * (10 - m))) a2 (W p * m)) := by rw [hL3]; exact h93'.add (by omega)
      obtain ⟨L1, e1, e2⟩ := ih (p + 1) _ L3 (by omega) h92'' h93''
      rw [spF_1 h0, ← ha1, ← ha2]
      refine ⟨L1, fun r M' hc => mk _ _ _ _ ⟨fun e => absurd e (ge100 (by omega)), fun _ => ⟨v92 k.1 (by omega), fun _ => ⟨_, th1 L, v93 k.1 (by omega), v92 k.1 (by omega), v93 k.1 (by omega), fun L7 h7 => ?_⟩, fun e => absurd ?_ h0⟩⟩, e2⟩
      · rw [nI_clamp (show a1 < 2 ^ 31 by omega), eW h92, eA, nJ_mul, ← hL2] at h7
        rw [h7, eT]
        refine ⟨_, th2 L2, v93 k.1 (by omega), v92 k.1 (by omega), v93 k.1 (by omega), fun L13 h13 y hy => ?_⟩
        rw [nI_clamp (show a2 < 2 ^ 31 by omega), eW h92', eM, nJ_mul, ← hL3] at h13
        rw [h13, hy, nI_1]
        exact e1 r M' hc
      · rw [lg_cmp_eq, eW h92] at e
        exact (nJ_0 (show W p < 2 ^ 63 by have := hB p; omega)).mp e
theorem m249 (hS : Sh Z) {x1 x3 x4 x5 x8 : Int32} {x6 : Int64} {A : Nat → Nat} : ∀ (d j : Nat) (L : Nat → Nat → Int64), j + d = 100 → LW L 93 A → (∀ i, i < j → L 92 i = nJ (A i)) → ∃ L1, (∀ r M', Lp_X12_odds_105 g 7 76 x1 x3 x4 x5 (x6 * 10) (x8 + 1) (Z, I, L1) r M' → Lp_X12_odds_249 g 7 76 x1 x3 x4 x5 x6 x8 (nI j) (Z, I, L) r M') ∧ LW L1 92 A := by
  have k76 := hS.k 76 12 (by decide) (by decide)
  have r92 := hS.r 76 36 92 (by decide)
  have k92 := hS.k 92 14 (by decide) (by decide)
  have r93 := hS.r 76 37 93 (by decide)
  have k93 := hS.k 93 14 (by decide) (by decide)
  intro d
  induction d with
  | zero =>
    intro j L hj h93 hq
    have hj : j = 100 := hj
    subst hj
    exact ⟨L, fun r M' hc => wp_X12_odds_249 k76 r92 k92 r93 k93 ⟨fun _ y hy y2 hy2 => by rw [hy, hy2]; exact hc, fun e => absurd le100 e⟩, hq⟩
  | succ d ih =>
    intro j L hj h93 hq
    obtain ⟨L1, e1, e2⟩ := ih (j + 1) (rw1 L 92 (vp_updL (L 92) j (L 93 j))) (by omega) (h93.o (by decide)) (fun i hi => by
      rw [rw1_s]
      unfold vp_updL
      by_cases hij : i = j
      · rw [if_pos hij, hij]; exact h93 j (by omega)
      · rw [if_neg hij]; exact hq i (by omega))
    refine ⟨L1, fun r M' hc => wp_X12_odds_249 k76 r92 k92 r93 k93 ⟨fun e => absurd e (ge100 (by omega)), fun _ => ⟨v93 hS (by omega), v92 hS (by omega), fun L5 h5 y hy => ?_⟩⟩, e2⟩
    rw [nI_clamp (by omega)] at h5
    rw [hy, nI_1, h5]
    exact e1 r M' hc
theorem mod_end (hS : Sh Z) {W : Nat → Nat} {c lo : Nat} {x5 : Int32} (h92 : LW L 92 W) (hc : c < 25) (hlo : 0 < lo) (hl : lo < 2 ^ 40) (hu : odU W c ≤ lo) : Lp_X12_odds_296 g 7 76 (nI c) x5 (nJ lo) 0 0 (Z, I, L) (some (.long (oddF W c lo x5))) (Z, I, L) := by
  have k76 := hS.k 76 12 (by decide) (by decide)
  have r92 := hS.r 76 36 92 (by decide)
  have k92 := hS.k 92 14 (by decide) (by decide)
  have st : ∀ (j u : Nat) (r : Option Value) (M' : Mem), j < 4 → Lp_X12_odds_296 g 7 76 (nI c) x5 (nJ lo) (nJ (u + W (4 * c + j))) (nI (j + 1)) (Z, I, L) r M' → Lp_X12_odds_296 g 7 76 (nI c) x5 (nJ lo) (nJ u) (nI j) (Z, I, L) r M' := fun j u r M' hj hn => by
    have ea : (4 : Int32) * nI c + nI j = nI (4 * c + j) := by rw [show (4 : Int32) * nI c = nI (4 * c) from pk_mul 4 c, nI_add]
    refine wp_X12_odds_296 k76 r92 k92 ⟨fun e => absurd ((nI_leI (a := 4) (by decide) (by omega)).mp e) (by omega), fun _ => ?_⟩
    rw [ea, nI_clamp (by omega), h92 _ (by omega)]
    refine ⟨v92 hS (by omega), fun y hy y2 hy2 => ?_⟩
    rw [hy, hy2, nI_1, nJ_add]
    exact hn
  have hu' : odU W c < 2 ^ 40 := by omega
  have hgp : 0 < Nat.gcd lo (odU W c) := Nat.gcd_pos_of_pos_left _ hlo
  have hgl : Nat.gcd lo (odU W c) ≤ lo := Nat.gcd_le_left _ hlo
  have fin : Lp_X12_odds_296 g 7 76 (nI c) x5 (nJ lo) (nJ (odU W c)) (nI 4) (Z, I, L) (some (.long (oddF W c lo x5))) (Z, I, L) := by
    have cc : Cl g 1 mu_X12_common [.long (nJ (odU W c)), .long (nJ lo)] (Z, I, L) (some (.long (nJ (Nat.gcd lo (odU W c))))) (Z, I, L) := by
      have := cc_run (g := g) (Z := Z) (I := I) (L := L) lo (odU W c) lo (Nat.le_refl _) (by omega) (by omega)
      rw [Nat.gcd_comm] at this
      exact cp_X12_common this
    have hg0 : ¬ nJ (Nat.gcd lo (odU W c)) = 0 := fun e => absurd ((nJ_0 (by omega)).mp e) (by omega)
    refine wp_X12_odds_296 k76 r92 k92 ⟨fun _ => ⟨fun e => ⟨_, cc, hg0, ?_, rfl⟩, fun e => ⟨_, cc, hg0, ?_, rfl⟩⟩, fun e => absurd (nI_le (Nat.le_refl 4) (by decide)) e⟩
    · unfold oddF; rw [if_neg e, nJ_div (by omega) (by omega) hgp]
    · unfold oddF; rw [if_pos e, nJ_div (by omega) (by omega) hgp]
  exact st 0 0 _ _ (by decide) (st 1 _ _ _ (by decide) (st 2 _ _ _ (by decide) (st 3 _ _ _ (by decide) fin)))
theorem mod_run (k : MM Z I w h S tx) (hW : WF w h S tx) {hb : Nat} {t : TX} (htx : tx[hb]? = some t) (hV : LV I w h S t hb (16 * (w * h))) {m c : Nat} {x5 : Int32} (hm10 : m ≤ 10) (hc : c < w * h) (h12 : (S 3).length ≤ 12) : ∀ (ts : List Nat) (j : Nat) (W : Nat → Nat) (L : Nat → Nat → Int64), LW L 92 W → onP w h S W → sm 100 W = 10 ^ j → (S 3).drop j = ts → j ≤ (S 3).length →
    ∃ L1, Lp_X12_odds_105 g 7 76 (nI hb) (nI c) (nI m) x5 (nJ (10 ^ j)) (nI j) (Z, I, L) (some (.long (oddF (wtF w h (S 0) t m ts W) c (10 ^ (S 3).length) x5))) (Z, I, L1) := by
  have hm := k.2.1.mul
  obtain ⟨hM, c0, c1, c2, c3, c4, c5, c6⟩ := k.2.2.2.2.1
  have e2 : I 77 (2 : Int32).toNatClampNeg = nI (S 3).length := c2
  intro ts
  induction ts with
  | nil =>
    intro j W L h92 hP hs hd hj3
    have hj : (S 3).length ≤ j := List.drop_eq_nil_iff.mp hd
    have hje : j = (S 3).length := by omega
    subst hje
    obtain ⟨q1, q2⟩ := p10 h12
    have hu : odU W c ≤ 10 ^ (S 3).length := by rw [← hs]; exact sm_four (by omega)
    refine ⟨L, wp_X12_odds_105 (k.1.k 76 12 (by decide) (by decide)) (k.1.r 76 0 77 (by decide)) (k.1.k 77 13 (by decide) (by decide)) ⟨vin k (j := 2) (by decide), fun _ => mod_end k.1 h92 (by omega) q1 q2 hu, fun e => ?_⟩⟩
    rw [e2] at e
    exact absurd (nI_le (Nat.le_refl _) (by omega)) e
  | cons tap ts ih =>
    intro j W L h92 hP hs hd hj3
    have hjl : j < (S 3).length := by
      rcases Nat.lt_or_ge j (S 3).length with h1 | h1
      · exact h1
      · rw [List.drop_eq_nil_of_le h1] at hd; cases hd
    rw [List.drop_eq_getElem_cons hjl] at hd
    obtain ⟨h1, h2⟩ := List.cons.inj hd
    have eg : (S 3).getD j 0 = tap := by simp [List.getD, List.getElem?_eq_getElem hjl, h1]
    have ht : tap < 4 := hW.2.2.2.2.2.1 j tap (by rw [List.getElem?_eq_getElem hjl, h1])
    have eI : I 77 (50 + j) = nI tap := by
      have := k.atD 3 (by decide) hjl
      rw [eg, show mB 3 + mDl 3 * j = 50 + j by show 50 + 1 * j = _; omega] at this
      exact this
    obtain ⟨q1, q2⟩ := p10 (show j ≤ 12 by omega)
    obtain ⟨o1, o2⟩ := sp_sum k.2.1 hW (t := t) (tap := tap) hm10 hP 100 0 (fun _ => 0) (fun p hp => absurd rfl hp)
    rw [sm_zero, Nat.zero_add, Nat.zero_add, hs] at o2
    have o3 : sm 100 (spF w h (S 0) t tap m W 100 0 (fun _ => 0)) = 10 ^ (j + 1) := by rw [Nat.pow_succ]; have : sm 0 W = 0 := rfl; omega
    obtain ⟨L2, a1, a2, a3⟩ := m131 (g := g) (I := I) k.1 (x1 := nI hb) (x3 := nI c) (x4 := nI m) (x5 := x5) (x8 := nI j) (x9 := nI tap) (x6 := nJ (10 ^ j)) 100 0 L (Nat.zero_add _) h92 (fun i hi => absurd hi (by omega))
    obtain ⟨L3, b1, b2⟩ := m155 (g := g) k hW htx hV ht hm10 hP (wt_lt k.2.1 hP hs q2) (x3 := nI c) (x5 := x5) (x8 := nI j) (x6 := nJ (10 ^ j)) 100 0 (fun _ => 0) L2 (Nat.zero_add _) a2 a3
    obtain ⟨L4, d1, d2⟩ := m249 (g := g) (I := I) k.1 (x1 := nI hb) (x3 := nI c) (x4 := nI m) (x5 := x5) (x8 := nI j) (x6 := nJ (10 ^ j)) 100 0 L3 (Nat.zero_add _) b2 (fun i hi => absurd hi (by omega))
    obtain ⟨L1, e1⟩ := ih (j + 1) _ L4 d2 o1 o3 h2 (by omega)
    refine ⟨L1, wp_X12_odds_105 (k.1.k 76 12 (by decide) (by decide)) (k.1.r 76 0 77 (by decide)) (k.1.k 77 13 (by decide) (by decide)) ⟨vin k (j := 2) (by decide), fun e => ?_, fun _ => ?_⟩⟩
    · rw [e2] at e
      exact absurd e (nI_ge hjl (by omega))
    · rw [show (50 : Int32) + nI j = nI (50 + j) from nI_add 50 j, nI_clamp (by omega), eI]
      refine ⟨vin k (by omega), fun y hy => ?_⟩
      rw [hy]
      refine a1 _ _ (b1 _ _ (d1 _ _ ?_))
      rw [nI_1, show nJ (10 ^ j) * 10 = nJ (10 ^ (j + 1)) from by rw [Nat.pow_succ, ← nJ_mul]; rfl]
      exact e1
theorem mo_odds (mb : MB Z I w h S tx) {hb p c m : Nat} {t : TX} {x5 : Int32} (htx : tx[hb]? = some t) (hp : isP w h S p) (hc : c < w * h) (hm10 : m ≤ 10) (h5 : ¬ x5 < 0 ∧ ¬ 1 < x5) (h12 : (S 3).length ≤ 12) : ∃ I1 L1, Cl g 7 mu_X12_odds [rf g 76, .int (nI hb), .int (nI p), .int (nI c), .int (nI m), .int x5] (Z, I, L) (some (.long (oddF (wtF w h (S 0) t m (S 3) (w0F p)) c (10 ^ (S 3).length) x5))) (Z, I1, L1) ∧ MB Z I1 w h S tx ∧ ∀ a, ¬ modA a → I1 a = I a := by
  obtain ⟨k, hW, hr⟩ := id mb
  obtain ⟨hM, c0, c1, c2, c3, c4, c5, c6⟩ := k.2.2.2.2.1
  have e2 : I 77 (2 : Int32).toNatClampNeg = nI (S 3).length := c2
  have hm := k.2.1.mul
  have hx4 := k.2.2.2.2.2.1
  have hbl := (List.getElem?_eq_some_iff.mp htx).1
  have hp1 := hp.1
  obtain ⟨I1, L1, d1, d2, d3, d4, d5, d6⟩ := ms_lay (g := g) (L := L) mb htx
  obtain ⟨L2, a1, a2⟩ := m68 (g := g) (I := I1) k.1 (x1 := nI hb) (x3 := nI c) (x4 := nI m) (x5 := x5) (p := p) (by omega) 100 0 L1 (Nat.zero_add _) (fun i hi => absurd hi (by omega))
  obtain ⟨L3, e1⟩ := mod_run (g := g) d2.1 hW htx d3 (x5 := x5) hm10 hc h12 (S 3) 0 (w0F p) L2 a2 (fun i hi => by
    unfold w0F at hi
    by_cases hip : i = p
    · rw [hip]; exact hp
    · rw [if_neg hip] at hi; exact absurd rfl hi) (sm_one (by omega)) rfl (Nat.zero_le _)
  refine ⟨I1, L3, cp_X12_odds (k.1.k 76 12 (by decide) (by decide)) (k.1.r 76 0 77 (by decide)) (k.1.k 77 13 (by decide) (by decide)) ⟨_, ms_isText k _, fun e => absurd e (ite_1 (nI_in0 hbl (by omega))), fun _ => ⟨_, m_isPose k hW (by omega), fun e => absurd e (b2i_1 (pB_t hp)), fun _ => ⟨_, ms_isCell k _, fun e => absurd e (ite_1 (nI_in0 hc (by omega))), fun _ => ⟨_, sp_isIn _ _ _, fun e => absurd e (ite_1 ⟨nI_pos (by omega), fun z => absurd ((nI_ltI (a := 10) (by decide) (by omega)).mp z) (by omega)⟩), fun _ => ⟨_, sp_isIn _ _ _, fun e => absurd e (ite_1 h5), fun _ => ⟨vin k (j := 2) (by decide), fun _ => ⟨I1, L1, d1, a1 _ _ e1⟩, fun e => ?_⟩⟩⟩⟩⟩⟩, d2, fun a ha => d5 a (by unfold modA at ha; omega) (by unfold modA at ha; omega) (by unfold modA at ha; omega)⟩
  rw [e2] at e
  exact absurd ((nI_leI (b := 12) (by omega) (by decide)).mpr h12) e
theorem mo_oddsN (mb : MB Z I w h S tx) {x1 x2 x3 x4 x5 : Int32} (hn : ¬ vOdds w h S tx x1 x2 x3 x4 x5) : Cl g 7 mu_X12_odds [rf g 76, .int x1, .int x2, .int x3, .int x4, .int x5] (Z, I, L) (some (.long (-1))) (Z, I, L) := by
  obtain ⟨k, hW, hr⟩ := id mb
  obtain ⟨hM, c0, c1, c2, c3, c4, c5, c6⟩ := k.2.2.2.2.1
  have e2 : I 77 (2 : Int32).toNatClampNeg = nI (S 3).length := c2
  have hm := k.2.1.mul
  have hx4 := k.2.2.2.2.2.1
  have hl3 : (S 3).length ≤ 16 := k.len 3 (by decide)
  obtain ⟨b, b1, b2⟩ := ms_isPose (g := g) (L := L) k hW x2
  refine cp_X12_odds (k.1.k 76 12 (by decide) (by decide)) (k.1.r 76 0 77 (by decide)) (k.1.k 77 13 (by decide) (by decide)) ⟨_, ms_isText k _, fun _ => ⟨rfl, rfl⟩, fun n1 => ⟨_, b1, fun _ => ⟨rfl, rfl⟩, fun n2 => ⟨_, ms_isCell k _, fun _ => ⟨rfl, rfl⟩, fun n3 => ⟨_, sp_isIn _ _ _, fun _ => ⟨rfl, rfl⟩, fun n4 => ⟨_, sp_isIn _ _ _, fun _ => ⟨rfl, rfl⟩, fun n5 => ⟨vin k (j := 2) (by decide), fun n6 => absurd ?_ hn, fun _ => ⟨rfl, rfl⟩⟩⟩⟩⟩⟩⟩
  rw [e2] at n6
  have n4' := Classical.byContradiction (fun z => n4 (ite_0 z))
  refine ⟨in0_nI (by omega) (Classical.byContradiction (fun z => n1 (ite_0 z))), b2.mp ?_, in0_nI (by omega) (Classical.byContradiction (fun z => n3 (ite_0 z))), ?_, Classical.byContradiction (fun z => n5 (ite_0 z)), (nI_leI (b := 12) (by omega) (by decide)).mp n6⟩
  · cases b with
    | true => rfl
    | false => exact absurd rfl n2
  · obtain ⟨j, hj, rfl⟩ := nI_of n4'.1
    exact ⟨j, rfl, Nat.le_of_not_lt (fun z => n4'.2 ((nI_ltI (a := 10) (by decide) hj).mpr z))⟩
end MODDS
