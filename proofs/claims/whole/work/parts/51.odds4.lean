/-! odds(): the class's answer -/
/-- how much weighs in the cell c -/
def odU (W : Nat → Nat) (c : Nat) : Nat := 0 + W (4 * c + 0) + W (4 * c + 1) + W (4 * c + 2) + W (4 * c + 3)
def oddF (W : Nat → Nat) (c lo : Nat) (x5 : Int32) : Int64 := if x5 = 0 then nJ (odU W c / Nat.gcd lo (odU W c)) else nJ (lo / Nat.gcd lo (odU W c))
def w0F (p : Nat) : Nat → Nat := fun i => if i = p then 1 else 0
theorem sm_four : ∀ {n c : Nat} {W : Nat → Nat}, 4 * c + 3 < n → odU W c ≤ sm n W := by
  intro n
  induction n with
  | zero => intro c W hc; exact absurd hc (by omega)
  | succ n ih =>
    intro c W hc
    show odU W c ≤ sm n W + W n
    by_cases hn : n = 4 * c + 3
    · subst hn
      show odU W c ≤ sm (4 * c) W + W (4 * c) + W (4 * c + 1) + W (4 * c + 2) + W (4 * c + 3)
      unfold odU
      rw [Nat.add_zero]
      omega
    · have := ih (c := c) (W := W) (by omega)
      omega
theorem sm_one : ∀ {n p : Nat}, p < n → sm n (w0F p) = 1 := by
  intro n
  induction n with
  | zero => intro p hp; exact absurd hp (by omega)
  | succ n ih =>
    intro p hp
    show sm n (w0F p) + w0F p n = 1
    by_cases hn : p = n
    · subst hn
      have e : sm p (w0F p) = 0 := by
        rw [sm_same (B := fun _ => 0) (fun i hi => by unfold w0F; rw [if_neg (by omega)]), sm_zero]
      rw [e]; unfold w0F; rw [if_pos rfl]
    · rw [ih (by omega)]; unfold w0F; rw [if_neg (fun z => hn z.symm)]
theorem p10 {j : Nat} (h : j ≤ 12) : 0 < 10 ^ j ∧ 10 ^ j < 2 ^ 40 := ⟨Nat.pow_pos (by decide), Nat.lt_of_le_of_lt (Nat.pow_le_pow_right (by decide) h) (by decide)⟩
section ODDS4
variable {g : GE} {Z : Zs} {I : Nat → Nat → Int32} {L : Nat → Nat → Int64} {w h : Nat} {S : Nat → List Nat} {tx : List TX}
theorem wt_lt {W : Nat → Nat} {n : Nat} (k : wh w h) (hP : onP w h S W) (hs : sm 100 W = n) (hn : n < 2 ^ 40) (i : Nat) : W i < 2 ^ 62 := by
  have hm := k.mul
  by_cases hi : i < 100
  · have := sm_le (A := W) hi
    omega
  · have h0 : W i = 0 := Classical.byContradiction (fun hc => by
      have := (hP i hc).1
      omega)
    omega
theorem nJ_lt1 {n : Nat} (h0 : 0 < n) (h : n < 2 ^ 63) : ¬ nJ n < 1 := by
  intro e
  have e := Int64.lt_iff_toInt_lt.mp e
  rw [nJ_toInt h, show (1 : Int64).toInt = 1 by decide] at e
  omega
theorem od_end (hS : Sh Z) {W : Nat → Nat} {c lo : Nat} {x5 : Int32} (h16 : LW L 16 W) (hc : c < 25) (hlo : 0 < lo) (hl : lo < 2 ^ 40) (hu : odU W c ≤ lo) : Lp_X11_odds_154 g 7 0 (nI c) x5 (nJ lo) 0 0 (Z, I, L) (some (.long (oddF W c lo x5))) (Z, I, L) := by
  have k0 := hS.k 0 11 (by decide) (by decide)
  have r16 := hS.r 0 8 16 (by decide)
  have k16 := hS.k 16 14 (by decide) (by decide)
  have st : ∀ (j u : Nat) (r : Option Value) (M' : Mem), j < 4 → Lp_X11_odds_154 g 7 0 (nI c) x5 (nJ lo) (nJ (u + W (4 * c + j))) (nI (j + 1)) (Z, I, L) r M' → Lp_X11_odds_154 g 7 0 (nI c) x5 (nJ lo) (nJ u) (nI j) (Z, I, L) r M' := fun j u r M' hj hn => by
    have ea : (4 : Int32) * nI c + nI j = nI (4 * c + j) := by rw [show (4 : Int32) * nI c = nI (4 * c) from pk_mul 4 c, nI_add]
    refine wp_X11_odds_154 k0 r16 k16 ⟨fun e => absurd ((nI_leI (a := 4) (by decide) (by omega)).mp e) (by omega), fun _ => ?_⟩
    rw [ea, nI_clamp (by omega), h16 _ (by omega), hS.n 16 100 (by decide)]
    refine ⟨vp_in_nI (by omega) (by decide), fun y hy y2 hy2 => ?_⟩
    rw [hy, hy2, nI_1, nJ_add]
    exact hn
  have hu' : odU W c < 2 ^ 40 := by omega
  have hgp : 0 < Nat.gcd lo (odU W c) := Nat.gcd_pos_of_pos_left _ hlo
  have hgl : Nat.gcd lo (odU W c) ≤ lo := Nat.gcd_le_left _ hlo
  have fin : Lp_X11_odds_154 g 7 0 (nI c) x5 (nJ lo) (nJ (odU W c)) (nI 4) (Z, I, L) (some (.long (oddF W c lo x5))) (Z, I, L) := by
    have cd := cd_run (g := g) (Z := Z) (I := I) (L := L) 100 0 lo (odU W c) rfl (by omega) (by omega)
    rw [eu_gcd 40 100 lo (odU W c) hu hl (by decide)] at cd
    have cc : Cl g 2 mu_X11_commonDivisor [.long (nJ lo), .long (nJ (odU W c))] (Z, I, L) (some (.long (nJ (Nat.gcd lo (odU W c))))) (Z, I, L) := cp_X11_commonDivisor (fun y hy => by
      rw [if_neg (nJ_lt1 hlo (by omega))] at hy
      rw [hy]
      exact cd)
    have hg0 : ¬ nJ (Nat.gcd lo (odU W c)) = 0 := fun e => absurd ((nJ_0 (by omega)).mp e) (by omega)
    refine wp_X11_odds_154 k0 r16 k16 ⟨fun _ => ⟨_, cc, fun e => ⟨hg0, ?_, rfl⟩, fun e => ⟨hg0, ?_, rfl⟩⟩, fun e => absurd (nI_le (Nat.le_refl 4) (by decide)) e⟩
    · unfold oddF; rw [if_neg e, nJ_div (by omega) (by omega) hgp]
    · unfold oddF; rw [if_pos e, nJ_div (by omega) (by omega) hgp]
  exact st 0 0 _ _ (by decide) (st 1 _ _ _ (by decide) (st 2 _ _ _ (by decide) (st 3 _ _ _ (by decide) fin)))
theorem od_run {hb : Nat} {t : TX} (htx : tx[hb]? = some t) {m c : Nat} {x5 : Int32} (hm10 : m ≤ 10) (hc : c < w * h) (h12 : (S 3).length ≤ 12) : ∀ (ts : List Nat) (j : Nat) (W : Nat → Nat) (I : Nat → Nat → Int32) (L : Nat → Nat → Int64), CL Z I w h S tx → LW L 16 W → onP w h S W → sm 100 W = 10 ^ j → (S 3).drop j = ts → j ≤ (S 3).length →
    ∃ I1 L1, Lp_X11_odds_100 g 7 0 (nI hb) (nI c) (nI m) x5 (nJ (10 ^ j)) (nI j) (Z, I, L) (some (.long (oddF (wtF w h (S 0) t m ts W) c (10 ^ (S 3).length) x5))) (Z, I1, L1) ∧ CL Z I1 w h S tx ∧ ∀ a, ¬ nowA a → I1 a = I a := by
  intro ts
  induction ts with
  | nil =>
    intro j W I L cl h16 hP hs hd hj3
    obtain ⟨k, hW, -⟩ := id cl
    have hm := k.2.1.mul
    have hj : (S 3).length ≤ j := List.drop_eq_nil_iff.mp hd
    have hje : j = (S 3).length := by omega
    subst hje
    obtain ⟨q1, q2⟩ := p10 h12
    have hu : odU W c ≤ 10 ^ (S 3).length := by rw [← hs]; exact sm_four (by omega)
    exact ⟨I, L, wp_X11_odds_100 (k.1.k 0 11 (by decide) (by decide)) (k.1.r 0 0 18 (by decide)) (k.1.k 18 8 (by decide) (by decide)) (k.1.r 18 5 23 (by decide)) (k.1.k 23 2 (by decide) (by decide)) ⟨_, sp_size (k.il 3 (by decide)), fun _ => od_end k.1 h16 (by omega) q1 q2 hu, fun e => absurd (nI_le hj (by omega)) e⟩, cl, fun _ _ => rfl⟩
  | cons tap ts ih =>
    intro j W I L cl h16 hP hs hd hj3
    obtain ⟨k, hW, -⟩ := id cl
    have hm := k.2.1.mul
    have hjl : j < (S 3).length := by
      rcases Nat.lt_or_ge j (S 3).length with h1 | h1
      · exact h1
      · rw [List.drop_eq_nil_of_le h1] at hd; cases hd
    rw [List.drop_eq_getElem_cons hjl] at hd
    obtain ⟨h1, h2⟩ := List.cons.inj hd
    have eg : (S 3).getD j 0 = tap := by simp [List.getD, List.getElem?_eq_getElem hjl, h1]
    have ht : tap < 4 := hW.2.2.2.2.2.1 j tap (by rw [List.getElem?_eq_getElem hjl, h1])
    have cb := sp_at (g := g) (L := L) (k.il 3 (by decide)) (nI j)
    rw [atL_n _ (by omega), eg] at cb
    obtain ⟨q1, q2⟩ := p10 (show j ≤ 12 by omega)
    obtain ⟨I2, L2, d1, d2, d3, d4⟩ := sp_spreadBy (g := g) cl htx ht hm10 hP (wt_lt k.2.1 hP hs q2) h16
    obtain ⟨o1, o2⟩ := sp_sum k.2.1 hW (t := t) (tap := tap) hm10 hP 100 0 (fun _ => 0) (fun p hp => absurd rfl hp)
    rw [sm_zero, Nat.zero_add, Nat.zero_add, hs] at o2
    have o3 : sm 100 (spF w h (S 0) t tap m W 100 0 (fun _ => 0)) = 10 ^ (j + 1) := by rw [Nat.pow_succ]; have : sm 0 W = 0 := rfl; omega
    obtain ⟨I1, L1, e1, e2, e3⟩ := ih (j + 1) _ I2 L2 d2 d3 o1 o3 h2 (by omega)
    refine ⟨I1, L1, wp_X11_odds_100 (k.1.k 0 11 (by decide) (by decide)) (k.1.r 0 0 18 (by decide)) (k.1.k 18 8 (by decide) (by decide)) (k.1.r 18 5 23 (by decide)) (k.1.k 23 2 (by decide) (by decide)) ⟨_, sp_size (k.il 3 (by decide)), fun e => absurd e (nI_ge hjl (by omega)), fun _ => ⟨_, cb, I2, L2, d1, fun y hy y2 hy2 => ?_⟩⟩, e2, fun a ha => by rw [e3 a ha, d4 a ha]⟩
    rw [hy, hy2, nI_1, show nJ (10 ^ j) * 10 = nJ (10 ^ (j + 1)) from by rw [Nat.pow_succ, ← nJ_mul]; rfl]
    exact e1
def vOdds (w h : Nat) (S : Nat → List Nat) (tx : List TX) (x1 x2 x3 x4 x5 : Int32) : Prop := (∃ hb, x1 = nI hb ∧ hb < tx.length) ∧ (∃ p, x2 = nI p ∧ isP w h S p) ∧ (∃ c, x3 = nI c ∧ c < w * h) ∧ (∃ m, x4 = nI m ∧ m ≤ 10) ∧ (¬ x5 < 0 ∧ ¬ 1 < x5) ∧ (S 3).length ≤ 12
theorem op_odds (cl : CL Z I w h S tx) {hb p c m : Nat} {t : TX} {x5 : Int32} (htx : tx[hb]? = some t) (hp : isP w h S p) (hc : c < w * h) (hm10 : m ≤ 10) (h5 : ¬ x5 < 0 ∧ ¬ 1 < x5) (h12 : (S 3).length ≤ 12) : ∃ I1 L1, Cl g 7 mu_X11_odds [rf g 0, .int (nI hb), .int (nI p), .int (nI c), .int (nI m), .int x5] (Z, I, L) (some (.long (oddF (wtF w h (S 0) t m (S 3) (w0F p)) c (10 ^ (S 3).length) x5))) (Z, I1, L1) ∧ CL Z I1 w h S tx ∧ ∀ a, ¬ nowA a → I1 a = I a := by
  obtain ⟨k, hW, -⟩ := id cl
  have hm := k.2.1.mul
  have hx4 := k.2.2.2.2.2.2.2.1
  have hbl := (List.getElem?_eq_some_iff.mp htx).1
  have hp1 := hp.1
  obtain ⟨L2, hL2⟩ : ∃ L2, L2 = rw1 L 16 (fun q => if q < 100 then 0 else L 16 q) := ⟨_, rfl⟩
  have fl := sp_fillL (g := g) (I := I) (L := L) (v := 0) (k.1.k 16 14 (by decide) (by decide)) (k.1.n 16 100 (by decide)) (by decide)
  rw [← hL2] at fl
  obtain ⟨L3, hL3⟩ : ∃ L3, L3 = rw1 L2 16 (vp_updL (L2 16) p 1) := ⟨_, rfl⟩
  obtain ⟨I1, L1, e1, e2, e3⟩ := od_run (g := g) htx (x5 := x5) hm10 hc h12 (S 3) 0 (w0F p) I L3 cl (fun i hi => by
    rw [hL3, rw1_s]
    unfold vp_updL w0F
    by_cases hip : i = p
    · rw [if_pos hip, if_pos hip]; rfl
    · rw [if_neg hip, if_neg hip, hL2, rw1_s, if_pos hi]; rfl) (fun i hi => by
    unfold w0F at hi
    by_cases hip : i = p
    · rw [hip]; exact hp
    · rw [if_neg hip] at hi; exact absurd rfl hi) (sm_one (by omega)) rfl (Nat.zero_le _)
  refine ⟨I1, L1, cp_X11_odds (k.1.k 0 11 (by decide) (by decide)) (k.1.r 0 0 18 (by decide)) (k.1.k 18 8 (by decide) (by decide)) (k.1.r 18 5 23 (by decide)) (k.1.k 23 2 (by decide) (by decide)) (k.1.r 0 8 16 (by decide)) (k.1.k 16 14 (by decide) (by decide)) ⟨_, sp_isText k _, fun e => absurd e (ite_1 (nI_in0 hbl (by omega))), fun _ => ⟨_, c_isPose k hW (by omega), fun e => absurd e (b2i_1 (pB_t hp)), fun _ => ⟨_, sp_isCell k _, fun _ => ⟨fun e => absurd e (nI_pos (by omega)), fun _ => ⟨fun e => absurd ((nI_ltI (a := 10) (by decide) (by omega)).mp e) (by omega), fun _ => ⟨fun e => absurd e h5.1, fun _ => ⟨fun e => absurd e h5.2, fun _ => ⟨_, sp_size (k.il 3 (by decide)), fun _ => ⟨I, L2, fl, ?_, fun L13 h13 => ?_⟩, fun e => absurd ((nI_leI (b := 12) (by omega) (by decide)).mpr h12) e⟩⟩⟩⟩⟩, fun e => absurd e (ite_1 (nI_in0 hc (by omega)))⟩⟩⟩, e2, e3⟩
  · rw [k.1.n 16 100 (by decide)]; exact vp_in_nI (by omega) (by decide)
  · rw [nI_clamp (by omega), ← hL3] at h13
    rw [h13]
    exact e1
theorem op_oddsN (cl : CL Z I w h S tx) {x1 x2 x3 x4 x5 : Int32} (hn : ¬ vOdds w h S tx x1 x2 x3 x4 x5) : Cl g 7 mu_X11_odds [rf g 0, .int x1, .int x2, .int x3, .int x4, .int x5] (Z, I, L) (some (.long (-1))) (Z, I, L) := by
  obtain ⟨k, hW, -⟩ := id cl
  have hm := k.2.1.mul
  have hx4 := k.2.2.2.2.2.2.2.1
  have hl3 : (S 3).length ≤ 16 := (k.il 3 (by decide)).2.2.2.2.2.1
  obtain ⟨b, b1, b2⟩ := sp_isPose (g := g) (L := L) k hW x2
  refine cp_X11_odds (k.1.k 0 11 (by decide) (by decide)) (k.1.r 0 0 18 (by decide)) (k.1.k 18 8 (by decide) (by decide)) (k.1.r 18 5 23 (by decide)) (k.1.k 23 2 (by decide) (by decide)) (k.1.r 0 8 16 (by decide)) (k.1.k 16 14 (by decide) (by decide)) ⟨_, sp_isText k _, fun _ => ⟨rfl, rfl⟩, fun n1 => ⟨_, b1, fun _ => ⟨rfl, rfl⟩, fun n2 => ⟨_, sp_isCell k _, fun n3 => ⟨fun _ => ⟨rfl, rfl⟩, fun n4 => ⟨fun _ => ⟨rfl, rfl⟩, fun n5 => ⟨fun _ => ⟨rfl, rfl⟩, fun n6 => ⟨fun _ => ⟨rfl, rfl⟩, fun n7 => ⟨_, sp_size (k.il 3 (by decide)), fun n8 => absurd ?_ hn, fun _ => ⟨rfl, rfl⟩⟩⟩⟩⟩⟩, fun _ => ⟨rfl, rfl⟩⟩⟩⟩
  refine ⟨in0_nI (by omega) (Classical.byContradiction (fun z => n1 (ite_0 z))), b2.mp ?_, in0_nI (by omega) (Classical.byContradiction (fun z => n3 (ite_0 z))), ?_, ⟨n6, n7⟩, (nI_leI (b := 12) (by omega) (by decide)).mp n8⟩
  · cases b with
    | true => rfl
    | false => exact absurd rfl n2
  · obtain ⟨j, hj, rfl⟩ := nI_of n4
    exact ⟨j, rfl, Nat.le_of_not_lt (fun z => n5 ((nI_ltI (a := 10) (by decide) hj).mpr z))⟩
end ODDS4
