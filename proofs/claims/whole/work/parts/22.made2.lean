/-! the model's made(): a step -/
theorem envS_rg {w : Nat} {K : List Nat} {p tap ka : Nat} (hw : 0 < w) (hp : p < 100) (ht : tap < 4) (hK : ∀ j, K.getD j 0 ≤ 3) (hka : ka ≤ 3) (j : Nat) : rg (envS w K p tap ka j) := by
  have h1 : p / 4 % w ≤ p / 4 := Nat.mod_le _ _
  have h2 : p / 4 / w ≤ p / 4 := Nat.div_le_self _ _
  have h3 := hK (p / 4)
  unfold envS
  split
  · exact rg_n (by omega)
  split
  · exact rg_n (by omega)
  split
  · exact rg_n (by omega)
  split
  · exact rg_n (by omega)
  split
  · exact rg_n (by omega)
  split
  · exact rg_n (by omega)
  · exact rg_n (v := 0) (by omega)
section MADE2
variable {g : GE} {Z : Zs} {I : Nat → Nat → Int32} {L : Nat → Nat → Int64} {w h : Nat} {S : Nat → List Nat} {tx : List TX}
theorem md_136 (k : MM Z I w h S tx) (hW : WF w h S tx) {p wish : Nat} (hp : p < 4 * (w * h)) (hwi : wish ≤ 4) : Lp_X12_made_136 g 5 76 (nI p) (oI (ahd w h p)) (nI wish) (Z, I, L) (some (.int (nI (deedF w h p (kah w h (S 0) p) wish)))) (Z, I, L) := by
  have hm := k.2.1.mul
  have er : nI p - nI p / 4 * 4 = nI (p % 4) := pk_rem (d := 4) (by omega) (by decide) (by decide)
  have et : ∀ q : Nat, q < 4 → nI (p % 4 + q) - nI (p % 4 + q) / 4 * 4 = nI ((p % 4 + q) % 4) := fun q hq => pk_rem (d := 4) (by omega) (by decide) (by decide)
  have es : nI p - nI (p % 4) = nI (p / 4 * 4) := by rw [pk_sub (Nat.mod_le _ _)]; congr 1; omega
  have tn : ∀ q : Nat, q < 4 → nI (p / 4 * 4) + nI ((p % 4 + q) % 4) = nI (turnF p q) := fun q _ => nI_add _ _
  refine wp_X12_made_136 (k.1.k 76 12 (by decide) (by decide)) (fun y1 hy1 => ?_)
  rw [er] at hy1
  subst hy1
  rw [es, show nI (p % 4) + 2 = nI (p % 4 + 2) from nI_add _ 2, show nI (p % 4) + 1 = nI (p % 4 + 1) from nI_add _ 1, show nI (p % 4) + 3 = nI (p % 4 + 3) from nI_add _ 3, et 2 (by decide), et 1 (by decide), et 3 (by decide), tn 2 (by decide), tn 1 (by decide), tn 3 (by decide), nI_add]
  have cs : wish = 0 ∨ wish = 1 ∨ wish = 2 ∨ wish = 3 ∨ wish = 4 := by omega
  rcases cs with rfl | rfl | rfl | rfl | rfl
  · refine ⟨fun _ => ⟨fun e => absurd rfl e, fun _ => ⟨?_, rfl⟩⟩, fun e => absurd e (by decide)⟩
    rw [show p / 4 * 4 + p % 4 = p by omega]; rfl
  · refine ⟨fun e => absurd rfl e, fun _ => ?_⟩
    unfold deedF
    rw [if_pos rfl]
    cases ha : ahd w h p with
    | none =>
      have e1 : kah w h (S 0) p = 1 := by unfold kah; rw [ha]
      refine ⟨fun _ => ⟨?_, rfl⟩, fun e => absurd (show (oI none : Int32) < 0 by decide) e⟩
      rw [e1, if_pos rfl, show nI p + 200 = nI (p + 200) from nI_add p 200]
    | some c =>
      have hcl := ahd_lt k.2.1.1 k.2.1.2.2.1 hp ha
      have e1 : kah w h (S 0) p = (S 0).getD c 0 := by unfold kah; rw [ha]
      refine ⟨fun e => absurd e (nI_pos (by omega)), fun _ => ⟨_, ms_isWall k hW hcl, fun e => ⟨?_, rfl⟩, fun e => ⟨?_, rfl⟩⟩⟩
      · rw [b2i_0] at e
        have : ¬ (S 0).getD c 0 = 1 := by simpa using e
        rw [e1, if_neg this, show (4 : Int32) * oI (some c) = nI (4 * c) from pk_mul 4 c, nI_add]; rfl
      · rw [b2i_0] at e
        have : (S 0).getD c 0 = 1 := by simpa using e
        rw [e1, if_pos this, show nI p + 200 = nI (p + 200) from nI_add p 200]
  · exact ⟨fun _ => ⟨fun _ => ⟨fun e => absurd rfl e, fun _ => ⟨rfl, rfl⟩⟩, fun e => absurd e (by decide)⟩, fun e => absurd e (by decide)⟩
  · exact ⟨fun _ => ⟨fun _ => ⟨fun _ => ⟨fun e => absurd rfl e, fun _ => ⟨rfl, rfl⟩⟩, fun e => absurd e (by decide)⟩, fun e => absurd e (by decide)⟩, fun e => absurd e (by decide)⟩
  · exact ⟨fun _ => ⟨fun _ => ⟨fun _ => ⟨fun _ => ⟨rfl, rfl⟩, fun e => absurd e (by decide)⟩, fun e => absurd e (by decide)⟩, fun e => absurd e (by decide)⟩, fun e => absurd e (by decide)⟩
theorem wishF_le (t : TX) (env : Nat → Int32) {tap : Nat} (ht : tap < 4) : wishF t env tap ≤ 4 := by
  unfold wishF
  cases t.1 with
  | none => show (if tap = 3 then 0 else tap + 1) ≤ 4; split <;> omega
  | some f => exact (cl4_eq (f env)).2
theorem wishF_env {t : TX} (hok : TXok t) {e e' : Nat → Int32} (he : ∀ j, j < 6 → e j = e' j) (tap : Nat) : wishF t e tap = wishF t e' tap := by
  unfold wishF
  cases hd : t.1 with
  | none => rfl
  | some f =>
    show (if f e < 0 then 0 else if 4 < f e then 4 else (f e).toNatClampNeg) = (if f e' < 0 then 0 else if 4 < f e' then 4 else (f e').toNatClampNeg)
    rw [hok.1 f hd e e' he]
theorem fearF_env {t : TX} (hok : TXok t) {e e' : Nat → Int32} (he : ∀ j, j < 6 → e j = e' j) : fearF t e = fearF t e' := by
  unfold fearF
  cases hd : t.2.1 with
  | none => rfl
  | some f => exact hok.2.1 f hd e e' he
theorem md_93 (k : MM Z I w h S tx) (hW : WF w h S tx) {hb p tap : Nat} {t : TX} (ht : tx[hb]? = some t) (hp : p < 4 * (w * h)) (htap : tap < 4) (hrg : ∀ j, j < 11 → rg (I 82 j)) (henv : ∀ j, j < 6 → I 82 j = envS w (S 0) p tap (kah w h (S 0) p) j) :
    ∃ I1 L1, Lp_X12_made_93 g 5 76 (nI hb) (nI p) (nI tap) (oI (ahd w h p)) (Z, I, L) (some (.int (nI (stepF w h (S 0) t p tap)))) (Z, I1, L1) ∧ (∀ a, a ≠ 84 → I1 a = I a) ∧ ∀ a, a ≠ 83 → L1 a = L a := by
  have hl := (List.getElem?_eq_some_iff.mp ht).1
  have hx4 := k.2.2.2.2.2.1
  have hT := k.2.2.2.2.2.2 hb t ht
  have hok : TXok t := hW.2.2.2.2.2.2.2.2.2.2.2.2.2.2.2.2 hb t ht
  have kk := k.1.k 76 12 (by decide) (by decide)
  obtain ⟨res, c1, c2, c3⟩ := ms_clauseOf (g := g) (L := L) k.1 (t := hb) (by omega) (sort := 1) (by decide) hT.2.1
  have ef := fearF_env hok henv
  have ew := wishF_env hok henv tap
  -- behind the fears
  have rest : ∀ (J : Nat → Nat → Int32) (K : Nat → Nat → Int64), (∀ a, a ≠ 84 → J a = I a) → (∀ a, a ≠ 83 → K a = L a) → fearF t (fun j => I 82 j) = false → ∃ I1 L1, Lp_X12_made_128 g 5 76 (nI hb) (nI p) (nI tap) (oI (ahd w h p)) (Z, J, K) (some (.int (nI (stepF w h (S 0) t p tap)))) (Z, I1, L1) ∧ (∀ a, a ≠ 84 → I1 a = I a) ∧ ∀ a, a ≠ 83 → L1 a = L a := by
    intro J K hJ hK hfe
    have e82 := hJ 82 (by decide)
    have e79 := hJ 79 (by decide)
    obtain ⟨I1, L1, d1, d2, d3⟩ := ms_doesAt (g := g) (L := K) k.1 (t := hb) (by omega) htap (show TM Z J hb t from ⟨hT.1.kept e79, hT.2.1.kept e79, hT.2.2.kept e79⟩) (fun j hj => by rw [e82]; exact hrg j hj)
    rw [e82] at d1
    refine ⟨I1, L1, wp_X12_made_128 kk ⟨_, I1, L1, d1, ?_⟩, fun a ha => (d2 a ha).trans (hJ a ha), fun a ha => (d3 a ha).trans (hK a ha)⟩
    have k1 : MM Z I1 w h S tx := k.kept (fun a ha => by rw [d2 a (by omega), hJ a (by omega)])
    have q := md_136 (g := g) (L := L1) k1 hW hp (wishF_le t (fun j => I 82 j) htap)
    unfold stepF
    rw [← ef, hfe, ← ew]
    exact q
  cases hfe : t.2.1 with
  | none =>
    have hres := c2 (by rw [hfe]; rfl)
    subst hres
    obtain ⟨I1, L1, d1, d2, d3⟩ := rest I L (fun _ _ => rfl) (fun _ _ => rfl) (by unfold fearF; rw [hfe])
    exact ⟨I1, L1, wp_X12_made_93 kk (k.1.r 76 26 84 (by decide)) (k.1.k 84 15 (by decide) (by decide)) ⟨_, c1, fun _ => d1, fun e => absurd (show (oI none : Int32) < 0 by decide) e⟩, d2, d3⟩
  | some b =>
    obtain ⟨kc, i, cs, r1, r2, r3, r4, r5, r6, r7⟩ := c3 (by rw [hfe]; rfl)
    subst r1
    obtain ⟨J, K, d1, d2, d3, d4⟩ := ms_work (g := g) (L := L) k.1 (t := hb) (by omega) r2 r3 r4 r5 r6 (r7 b hfe (fun j => I 82 j) hrg) (fun _ _ => rfl) hrg
    have hv := d2.2.2.2 0 _ rfl
    have hin : vp_in 0 (Z.2.2.1 84) := by rw [k.1.n 84 330 (by decide)]; exact vp_in_nI (n := 0) (by decide) (by decide)
    have ef2 : fearF t (fun j => I 82 j) = b (fun j => I 82 j) := by unfold fearF; rw [hfe]
    cases hbv : b (fun j => I 82 j) with
    | true =>
      rw [hbv] at hv
      refine ⟨J, K, wp_X12_made_93 kk (k.1.r 76 26 84 (by decide)) (k.1.k 84 15 (by decide) (by decide)) ⟨_, c1, fun e => absurd e (nI_pos (by omega)), fun _ => ⟨J, K, d1, hin, fun e => ?_, fun _ => ⟨?_, rfl⟩⟩⟩, d3, d4⟩
      · rw [show J 84 (0 : Int32).toNatClampNeg = b2i true from hv] at e
        exact absurd e (by decide)
      · unfold stepF
        rw [← ef, ef2, hbv, if_pos rfl, show nI p + 400 = nI (p + 400) from nI_add p 400]
    | false =>
      rw [hbv] at hv
      obtain ⟨I1, L1, q1, q2, q3⟩ := rest J K d3 d4 (by rw [ef2, hbv])
      refine ⟨I1, L1, wp_X12_made_93 kk (k.1.r 76 26 84 (by decide)) (k.1.k 84 15 (by decide) (by decide)) ⟨_, c1, fun e => absurd e (nI_pos (by omega)), fun _ => ⟨J, K, d1, hin, fun _ => q1, fun e => absurd ?_ e⟩⟩, q2, q3⟩
      rw [show J 84 (0 : Int32).toNatClampNeg = b2i false from hv]; rfl
/-- a step of the model -/
theorem ms_made (m : MB Z I w h S tx) {hb p tap : Nat} {t : TX} (ht : tx[hb]? = some t) (hp : p < 4 * (w * h)) (htap : tap < 4) : ∃ I1 L1, Cl g 5 mu_X12_made [rf g 76, .int (nI hb), .int (nI p), .int (nI tap)] (Z, I, L) (some (.int (nI (stepF w h (S 0) t p tap)))) (Z, I1, L1) ∧ MB Z I1 w h S tx ∧ (∀ a, a ≠ 82 → a ≠ 84 → I1 a = I a) ∧ ∀ a, a ≠ 83 → L1 a = L a := by
  obtain ⟨k, hW, hrg⟩ := m
  have hm := k.2.1.mul
  obtain ⟨w1, w2, w3, w4⟩ := k.2.1
  have e4 : nI p / 4 = nI (p / 4) := pk_div (d := 4) (by omega) (by decide) (by decide)
  have er : nI p - nI p / 4 * 4 = nI (p % 4) := pk_rem (d := 4) (by omega) (by decide) (by decide)
  have ew : nI (p / 4) / nI w = nI (p / 4 / w) := pk_div (by omega) (by omega) (by omega)
  have em : nI (p / 4) - nI (p / 4) / nI w * nI w = nI (p / 4 % w) := pk_rem (by omega) (by omega) (by omega)
  have hw0 : ¬ nI w = 0 := nI_ne0 (by omega) (by omega)
  have n82 := k.1.n 82 11 (by decide)
  have n77 := k.1.n 77 205 (by decide)
  have vin : ∀ j : Nat, j < 11 → vp_in (nI j) (Z.2.2.1 82) := fun j hj => by rw [n82]; exact vp_in_nI hj (by decide)
  have hK0 : ∀ c, c < w * h → I 77 (10 + c) = nI ((S 0).getD c 0) := fun c hc => by
    have := k.atD 0 (by decide) (j := c) (by rw [hW.1]; exact hc)
    rw [show mB 0 + mDl 0 * c = 10 + c by show 10 + 1 * c = 10 + c; omega] at this
    exact this
  have up : ∀ (J : Nat → Nat → Int32) (j : Nat) (v : Int32), (∀ a, a ≠ 82 → J a = I a) → (∀ a, a ≠ 82 → rw1 J 82 (upd (J 82) j v) a = I a) := fun J j v hJ a ha => by rw [rw1_n _ _ ha]; exact hJ a ha
  have rd : ∀ (J : Nat → Nat → Int32) (j i : Nat) (v : Int32), rw1 J 82 (upd (J 82) j v) 82 i = if i = j then v else J 82 i := fun J j i v => by rw [rw1_s]; rfl
  obtain ⟨J1, q1⟩ : ∃ J, J = rw1 I 82 (upd (I 82) 0 (nI tap)) := ⟨_, rfl⟩
  have f1 : ∀ a, a ≠ 82 → J1 a = I a := by rw [q1]; exact up I 0 _ (fun _ _ => rfl)
  obtain ⟨J2, q2⟩ : ∃ J, J = rw1 J1 82 (upd (J1 82) 1 (nI (p % 4))) := ⟨_, rfl⟩
  have f2 : ∀ a, a ≠ 82 → J2 a = I a := by rw [q2]; exact up J1 1 _ f1
  obtain ⟨J3, q3⟩ : ∃ J, J = rw1 J2 82 (upd (J2 82) 2 (nI (p / 4 % w))) := ⟨_, rfl⟩
  have f3 : ∀ a, a ≠ 82 → J3 a = I a := by rw [q3]; exact up J2 2 _ f2
  obtain ⟨J4, q4⟩ : ∃ J, J = rw1 J3 82 (upd (J3 82) 3 (nI (p / 4 / w))) := ⟨_, rfl⟩
  have f4 : ∀ a, a ≠ 82 → J4 a = I a := by rw [q4]; exact up J3 3 _ f3
  obtain ⟨J5, q5⟩ : ∃ J, J = rw1 J4 82 (upd (J4 82) 4 (nI ((S 0).getD (p / 4) 0))) := ⟨_, rfl⟩
  have f5 : ∀ a, a ≠ 82 → J5 a = I a := by rw [q5]; exact up J4 4 _ f4
  obtain ⟨J6, q6⟩ : ∃ J, J = rw1 J5 82 (upd (J5 82) 5 (nI (kah w h (S 0) p))) := ⟨_, rfl⟩
  have f6 : ∀ a, a ≠ 82 → J6 a = I a := by rw [q6]; exact up J5 5 _ f5
  have henv : ∀ j, j < 6 → J6 82 j = envS w (S 0) p tap (kah w h (S 0) p) j := by
    intro j hj
    have cs : j = 0 ∨ j = 1 ∨ j = 2 ∨ j = 3 ∨ j = 4 ∨ j = 5 := by omega
    rw [q6, rd, q5, rd, q4, rd, q3, rd, q2, rd, q1, rd]
    rcases cs with rfl | rfl | rfl | rfl | rfl | rfl <;> rfl
  have hrg6 : ∀ j, j < 11 → rg (J6 82 j) := by
    intro j hj
    by_cases h6 : j < 6
    · rw [henv j h6]
      exact envS_rg (by omega) (by omega) htap (fun j => getD_le hW.2.1 j) (kah_le hW) j
    · rw [q6, rd, q5, rd, q4, rd, q3, rd, q2, rd, q1, rd]
      rw [if_neg (by omega), if_neg (by omega), if_neg (by omega), if_neg (by omega), if_neg (by omega), if_neg (by omega)]
      exact hrg j hj
  have k6 : MM Z J6 w h S tx := k.kept (fun a ha => f6 a (by omega))
  obtain ⟨I1, L1, d1, d2, d3⟩ := md_93 (g := g) (L := L) k6 hW ht hp htap hrg6 henv
  refine ⟨I1, L1, cp_X12_made (k.1.k 76 12 (by decide) (by decide)) (k.1.r 76 24 82 (by decide)) (k.1.k 82 13 (by decide) (by decide)) (k.1.r 76 0 77 (by decide)) (k.1.k 77 13 (by decide) (by decide)) ⟨_, ms_ahead k hp, vin 0 (by decide), fun I4 hI4 => ?_⟩, ⟨k6.kept (fun a ha => d2 a (by omega)), hW, fun j hj => by rw [d2 82 (by decide)]; exact hrg6 j hj⟩, fun a h1 h2 => (d2 a h2).trans (f6 a h1), d3⟩
  have hI4 : I4 = J1 := hI4.trans q1.symm
  subst hI4
  refine ⟨vin 1 (by decide), fun I6 hI6 => ?_⟩
  rw [er] at hI6
  have hI6 : I6 = J2 := hI6.trans q2.symm
  subst hI6
  rw [f2 76 (by decide), k.2.2.1]
  refine ⟨hw0, vin 2 (by decide), fun I9 hI9 => ?_⟩
  rw [e4, em] at hI9
  have hI9 : I9 = J3 := hI9.trans q3.symm
  subst hI9
  rw [f3 76 (by decide), k.2.2.1]
  refine ⟨hw0, vin 3 (by decide), fun I12 hI12 => ?_⟩
  rw [e4, ew] at hI12
  have hI12 : I12 = J4 := hI12.trans q4.symm
  subst hI12
  rw [e4, show (10 : Int32) + nI (p / 4) = nI (10 + p / 4) from nI_add 10 _, nI_clamp (by omega), f4 77 (by decide), hK0 _ (by omega)]
  refine ⟨by rw [n77]; exact vp_in_nI (by omega) (by decide), vin 4 (by decide), fun I15 hI15 => ?_⟩
  have hI15 : I15 = J5 := hI15.trans q5.symm
  subst hI15
  cases ha : ahd w h p with
  | none =>
    have e1 : kah w h (S 0) p = 1 := by unfold kah; rw [ha]
    refine ⟨fun e => absurd e (by decide), fun _ => ⟨vin 5 (by decide), fun I20 hI20 => ?_⟩⟩
    rw [e1] at q6
    have hI20 : I20 = J6 := hI20.trans q6.symm
    subst hI20
    rw [ha] at d1
    exact d1
  | some c =>
    have hcl := ahd_lt w1 w3 hp ha
    have e1 : kah w h (S 0) p = (S 0).getD c 0 := by unfold kah; rw [ha]
    rw [show (10 : Int32) + oI (some c) = nI (10 + c) from nI_add 10 c, nI_clamp (by omega), f5 77 (by decide), hK0 c hcl, ← e1]
    refine ⟨fun _ => ⟨by rw [n77]; exact vp_in_nI (by omega) (by decide), vin 5 (by decide), fun I18 hI18 => ?_⟩, fun e => absurd (nI_pos' (by omega)) e⟩
    have hI18 : I18 = J6 := hI18.trans q6.symm
    subst hI18
    rw [ha] at d1
    exact d1
end MADE2
