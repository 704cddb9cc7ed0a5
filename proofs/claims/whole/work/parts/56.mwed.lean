/-! wed(): the model's likings -/
/-- the likings are found, up to rr, cc, ss -/
def FD (L : Nat → Nat → Int64) (S : Nat → List Nat) (t : TX) (nc rr cc ss : Nat) : Prop := ∀ r c s, r < 6 → c < nc → s < 2 → (r < rr ∨ (r = rr ∧ (c < cc ∨ (c = cc ∧ s < ss)))) → L 94 (36 * s + 6 * r + c) = (lkF t S r c s).toInt64
theorem l64_le (x y : Int32) : x.toInt64 ≤ y.toInt64 ↔ x ≤ y := by rw [Int64.le_iff_toInt_le, Int32.le_iff_toInt_le, Int32.toInt_toInt64, Int32.toInt_toInt64]
theorem l64_lt (x y : Int32) : x.toInt64 < y.toInt64 ↔ x < y := by rw [Int64.lt_iff_toInt_lt, Int32.lt_iff_toInt_lt, Int32.toInt_toInt64, Int32.toInt_toInt64]
theorem l64_eq (x y : Int32) : x.toInt64 = y.toInt64 ↔ x = y := by rw [← Int64.toInt_inj, ← Int32.toInt_inj, Int32.toInt_toInt64, Int32.toInt_toInt64]
section MWED
variable {g : GE} {Z : Zs} {I : Nat → Nat → Int32} {L : Nat → Nat → Int64} {w h : Nat} {S : Nat → List Nat} {tx : List TX}
theorem e37 (s r c : Nat) : ((36 * nI s + 6 * nI r) + nI c : Int32) = nI (36 * s + 6 * r + c) := by
  rw [show (36 : Int32) * nI s = nI (36 * s) from pk_mul 36 s, show (6 : Int32) * nI r = nI (6 * r) from pk_mul 6 r, nI_add, nI_add]
theorem v82 (hS : Sh Z) {j : Nat} (hj : j < 11) : vp_in (nI j) (Z.2.2.1 82) := by rw [hS.n 82 11 (by decide)]; exact vp_in_nI hj (by decide)
theorem v94 (hS : Sh Z) {j : Nat} (hj : j < 72) : vp_in (nI j) (Z.2.2.1 94) := by rw [hS.n 94 72 (by decide)]; exact vp_in_nI hj (by decide)
theorem v83 (hS : Sh Z) : vp_in 0 (Z.2.2.1 83) := by rw [hS.n 83 330 (by decide)]; exact vp_in_nI (n := 0) (by decide) (by decide)
/-- the names are told -/
def nmJ (I : Nat → Nat → Int32) (S : Nat → List Nat) (r c s : Nat) : Nat → Nat → Int32 := rw1 I 82 (fun j => if 6 ≤ j ∧ j ≤ 10 then envL S r c s j else I 82 j)
theorem nmJ_o {r c s a : Nat} (ha : a ≠ 82) : nmJ I S r c s a = I a := rw1_n _ _ ha
/-- a liking is found -/
theorem fk_one (m : MB Z I w h S tx) {hb : Nat} {t : TX} (htx : tx[hb]? = some t) {r c s : Nat} (hr : r < (S 9).length) (hc : c < (S 10).length) (hs : s < 2) {res : Option Nat} (hf : t.2.2.isSome = false → res = none)
    (hq : t.2.2.isSome = true → ∃ k i cs, res = some k ∧ k < 3 ∧ I 79 (620 * hb + 1 + 3 * k + 1) = nI i ∧ I 79 (620 * hb + 1 + 3 * k + 2) = nI (i + cs.length) ∧ i + cs.length ≤ 302 ∧ CA Z I 79 (620 * hb + 15) i cs ∧ QF t.2.2 cs) :
    ∃ I1 L1, (∀ r' M', Lp_X12_findLikings_37 g 4 76 (nI hb) (oI res) (nI r) (nI c) (nI (s + 1)) (Z, I1, L1) r' M' → Lp_X12_findLikings_37 g 4 76 (nI hb) (oI res) (nI r) (nI c) (nI s) (Z, I, L) r' M') ∧ MB Z I1 w h S tx ∧ L1 94 = vp_updL (L 94) (36 * s + 6 * r + c) (lkF t S r c s).toInt64 ∧ ∀ a, a ≠ 82 → a ≠ 84 → I1 a = I a := by
  obtain ⟨k, hW, hrg⟩ := id m
  have hx4 := k.2.2.2.2.2.1
  have hbl := (List.getElem?_eq_some_iff.mp htx).1
  have h9 : (S 9).length ≤ 6 := k.len 9 (by decide)
  have h10 : (S 10).length ≤ 6 := k.len 10 (by decide)
  have hok : TXok t := hW.2.2.2.2.2.2.2.2.2.2.2.2.2.2.2.2 hb t htx
  have E : ∀ j, rg (envL S r c s j) := envL_rg hW (by omega) (by omega) hs
  have m13 : MB Z (nmJ I S r c s) w h S tx := ⟨k.kept (fun a ha => nmJ_o (by omega)), hW, fun j hj => by
    unfold nmJ
    rw [rw1_s]
    split
    · exact E j
    · exact hrg j hj⟩
  have mk := fun (r' : Option Value) (M' : Mem) => @wp_X12_findLikings_37 g Z I L r' M' 76 (nI hb) (oI res) (nI r) (nI c) (nI s) 82 77 94 83 (k.1.k 76 12 (by decide) (by decide)) (k.1.r 76 24 82 (by decide)) (k.1.k 82 13 (by decide) (by decide)) (k.1.r 76 0 77 (by decide)) (k.1.k 77 13 (by decide) (by decide)) (k.1.r 76 38 94 (by decide)) (k.1.k 94 14 (by decide) (by decide)) (k.1.r 76 25 83 (by decide)) (k.1.k 83 14 (by decide) (by decide))
  have a9 : I 77 (190 + r) = nI ((S 9).getD r 0) := by
    have := k.atD 9 (by decide) hr
    rw [show mB 9 + mDl 9 * r = 190 + r by show 190 + 1 * r = _; omega] at this
    exact this
  have a10 : I 77 (196 + c) = nI ((S 10).getD c 0) := by
    have := k.atD 10 (by decide) hc
    rw [show mB 10 + mDl 10 * c = 196 + c by show 196 + 1 * c = _; omega] at this
    exact this
  -- the five names
  have five : ∀ (P : (Nat → Nat → Int32) → Prop), P (nmJ I S r c s) → vp_in 6 (Z.2.2.1 82) ∧ (∀ I3 : Nat → Nat → Int32, I3 = rw1 I 82 (upd (I 82) (6 : Int32).toNatClampNeg (nI r)) → (vp_in 7 (Z.2.2.1 82) ∧ (∀ I5 : Nat → Nat → Int32, I5 = rw1 I3 82 (upd (I3 82) (7 : Int32).toNatClampNeg (nI c)) → (vp_in (190 + nI r) (Z.2.2.1 77) ∧ (vp_in 8 (Z.2.2.1 82) ∧ (∀ I8 : Nat → Nat → Int32, I8 = rw1 I5 82 (upd (I5 82) (8 : Int32).toNatClampNeg (I5 77 (190 + nI r).toNatClampNeg)) → (vp_in (196 + nI c) (Z.2.2.1 77) ∧ (vp_in 9 (Z.2.2.1 82) ∧ (∀ I11 : Nat → Nat → Int32, I11 = rw1 I8 82 (upd (I8 82) (9 : Int32).toNatClampNeg (I8 77 (196 + nI c).toNatClampNeg)) → (vp_in 10 (Z.2.2.1 82) ∧ (∀ I13 : Nat → Nat → Int32, I13 = rw1 I11 82 (upd (I11 82) (10 : Int32).toNatClampNeg (nI s)) → P I13))))))))))) := fun P hP => by
    rw [show (190 : Int32) + nI r = nI (190 + r) from nI_add 190 r, show (196 : Int32) + nI c = nI (196 + c) from nI_add 196 c, nI_clamp (show 190 + r < 2 ^ 31 by omega), nI_clamp (show 196 + c < 2 ^ 31 by omega)]
    refine ⟨v82 k.1 (j := 6) (by decide), fun I3 h3 => ⟨v82 k.1 (j := 7) (by decide), fun I5 h5 => ⟨vin k (by omega), v82 k.1 (j := 8) (by decide), fun I8 h8 => ⟨vin k (by omega), v82 k.1 (j := 9) (by decide), fun I11 h11 => ⟨v82 k.1 (j := 10) (by decide), fun I13 h13 => ?_⟩⟩⟩⟩⟩
    have g5 : I5 77 = I 77 := by rw [h5, rw1_n _ _ (by decide), h3, rw1_n _ _ (by decide)]
    have g8 : I8 77 = I 77 := by rw [h8, rw1_n _ _ (by decide), g5]
    have e13 : I13 = nmJ I S r c s := by
      funext a
      by_cases ha : a = 82
      · subst ha
        funext j
        rw [g5, a9] at h8
        rw [g8, a10] at h11
        rw [h13, rw1_s, h11, rw1_s, h8, rw1_s, h5, rw1_s, h3, rw1_s]
        unfold nmJ
        rw [rw1_s]
        show upd (upd (upd (upd (upd (I 82) 6 (nI r)) 7 (nI c)) 8 (nI ((S 9).getD r 0))) 9 (nI ((S 10).getD c 0))) 10 (nI s) j = _
        unfold upd envL
        by_cases h6 : j = 6
        · subst h6; rfl
        by_cases h7 : j = 7
        · subst h7; rfl
        by_cases h8 : j = 8
        · subst h8; rfl
        by_cases h9 : j = 9
        · subst h9; rfl
        by_cases h10 : j = 10
        · subst h10; rfl
        rw [if_neg h10, if_neg h9, if_neg h8, if_neg h7, if_neg h6, if_neg (by omega)]
      · rw [h13, rw1_n _ _ ha, h11, rw1_n _ _ ha, h8, rw1_n _ _ ha, h5, rw1_n _ _ ha, h3, rw1_n _ _ ha, nmJ_o ha]
    rw [e13]; exact hP
  have hs2 : ¬ (2 : Int32) ≤ nI s := fun e => absurd ((nI_leI (a := 2) (by decide) (by omega)).mp e) (by omega)
  cases hl : t.2.2 with
  | none =>
    have hres := hf (by rw [hl]; rfl)
    subst hres
    have el : lkF t S r c s = 0 := by unfold lkF; rw [hl]
    refine ⟨nmJ I S r c s, rw1 L 94 (vp_updL (L 94) (36 * s + 6 * r + c) (lkF t S r c s).toInt64), fun r' M' hc' => mk _ _ ⟨fun e => absurd e hs2, fun _ => five _ ⟨fun _ => ⟨fun e => absurd e (by decide), fun _ => ?_⟩, fun e => absurd (by decide) e⟩⟩, m13, rw1_s _ _ _, fun a h1 _ => nmJ_o h1⟩
    rw [e37, nI_clamp (by omega)]
    refine ⟨v94 k.1 (by omega), fun L19 h19 y hy => ?_⟩
    rw [h19, hy, nI_1]
    rw [el] at hc'
    exact hc'
  | some f =>
    obtain ⟨q, i, cs, r1, r2, r3, r4, r5, r6, r7⟩ := hq (by rw [hl]; rfl)
    subst r1
    have e79 : nmJ I S r c s 79 = I 79 := nmJ_o (by decide)
    obtain ⟨I1, L1, d1, d2, d3, d4⟩ := ms_work (g := g) (I := nmJ I S r c s) (L := L) k.1 (show hb < 4 by omega) r2 (by rw [e79]; exact r3) (by rw [e79]; exact r4) r5 (r6.kept e79) (r7 f hl (fun j => nmJ I S r c s 82 j) m13.2.2) (fun _ _ => rfl) m13.2.2
    have hv : L1 83 (0 : Int32).toNatClampNeg = (f (fun j => nmJ I S r c s 82 j)).toInt64 := (d2.2.2.1 0 _ rfl).1
    have ef : f (fun j => nmJ I S r c s 82 j) = lkF t S r c s := by
      unfold lkF
      rw [hl]
      refine hok.2.2 f hl _ _ (fun j h1 h2 => ?_)
      show nmJ I S r c s 82 j = _
      unfold nmJ
      rw [rw1_s, if_pos ⟨h1, by omega⟩]
    rw [ef] at hv
    refine ⟨I1, rw1 L1 94 (vp_updL (L1 94) (36 * s + 6 * r + c) (lkF t S r c s).toInt64), fun r' M' hc' => mk _ _ ⟨fun e => absurd e hs2, fun _ => five _ ⟨fun e => absurd e (nI_pos (by omega)), fun _ => ⟨I1, L1, d1, fun _ => ?_, fun e => absurd (nI_pos' (by omega)) e⟩⟩⟩, ⟨m13.1.kept (fun a ha => d3 a (by omega)), hW, fun j hj => by rw [d3 82 (by decide)]; exact m13.2.2 j hj⟩, ?_, fun a h1 h2 => by rw [d3 a h2, nmJ_o h1]⟩
    · rw [e37, nI_clamp (by omega), hv]
      refine ⟨v83 k.1, v94 k.1 (by omega), fun L26 h26 y hy => ?_⟩
      rw [h26, hy, nI_1]
      exact hc'
    · rw [rw1_s, d4 94 (by decide)]
/-- what findLikings knows of the text's clause -/
def CQ (Z : Zs) (I : Nat → Nat → Int32) (hb : Nat) (t : TX) (res : Option Nat) : Prop := (t.2.2.isSome = false → res = none) ∧ (t.2.2.isSome = true → ∃ k i cs, res = some k ∧ k < 3 ∧ I 79 (620 * hb + 1 + 3 * k + 1) = nI i ∧ I 79 (620 * hb + 1 + 3 * k + 2) = nI (i + cs.length) ∧ i + cs.length ≤ 302 ∧ CA Z I 79 (620 * hb + 15) i cs ∧ QF t.2.2 cs)
theorem CQ.kept {I1 : Nat → Nat → Int32} {hb : Nat} {t : TX} {res : Option Nat} (q : CQ Z I hb t res) (e : I1 79 = I 79) : CQ Z I1 hb t res := ⟨q.1, fun hs => by
  obtain ⟨k, i, cs, a1, a2, a3, a4, a5, a6, a7⟩ := q.2 hs
  exact ⟨k, i, cs, a1, a2, by rw [e]; exact a3, by rw [e]; exact a4, a5, a6.kept e, a7⟩⟩
theorem FD.put {L1 : Nat → Nat → Int64} {t : TX} {nc r c s : Nat} (hF : FD L S t nc r c s) (hc : c < 6) (hn : nc ≤ 6) (hr : r < 6) (hs : s < 2) (h : L1 94 = vp_updL (L 94) (36 * s + 6 * r + c) (lkF t S r c s).toInt64) : FD L1 S t nc r c (s + 1) := fun r' c' s' h1 h2 h3 h4 => by
  rw [h]
  unfold vp_updL
  by_cases he : r' = r ∧ c' = c ∧ s' = s
  · obtain ⟨rfl, rfl, rfl⟩ := he
    rw [if_pos rfl]
  · rw [if_neg (by omega)]
    exact hF r' c' s' h1 h2 h3 (by omega)
theorem fk_22 {hb : Nat} {t : TX} (htx : tx[hb]? = some t) {res : Option Nat} {r : Nat} (hr : r < (S 9).length) : ∀ (d c : Nat) (I : Nat → Nat → Int32) (L : Nat → Nat → Int64), c + d = (S 10).length → MB Z I w h S tx → CQ Z I hb t res → FD L S t (S 10).length r c 0 →
    ∃ I1 L1, (∀ r' M', Lp_X12_findLikings_9 g 4 76 (nI hb) (oI res) (nI (r + 1)) (Z, I1, L1) r' M' → Lp_X12_findLikings_22 g 4 76 (nI hb) (oI res) (nI r) (nI c) (Z, I, L) r' M') ∧ MB Z I1 w h S tx ∧ FD L1 S t (S 10).length (r + 1) 0 0 ∧ ∀ a, a ≠ 82 → a ≠ 84 → I1 a = I a := by
  intro d
  induction d with
  | zero =>
    intro c I L hc m q hF
    obtain ⟨k, hW, hrg⟩ := id m
    obtain ⟨hM, c0, c1, c2, c3, c4, c5, c6⟩ := k.2.2.2.2.1
    have h10 : (S 10).length ≤ 6 := k.len 10 (by decide)
    have hc : c = (S 10).length := hc
    subst hc
    refine ⟨I, L, fun r' M' hn => wp_X12_findLikings_22 (k.1.k 76 12 (by decide) (by decide)) (k.1.r 76 0 77 (by decide)) (k.1.k 77 13 (by decide) (by decide)) ⟨vin k (j := 6) (by decide), fun _ y hy => by rw [hy, nI_1]; exact hn, fun e => ?_⟩, m, fun r' c' s' h1 h2 h3 h4 => hF r' c' s' h1 h2 h3 (by omega), fun _ _ _ => rfl⟩
    rw [show I 77 (6 : Int32).toNatClampNeg = nI (S 10).length from c6] at e
    exact absurd (nI_le (Nat.le_refl _) (by omega)) e
  | succ d ih =>
    intro c I L hc m q hF
    obtain ⟨k, hW, hrg⟩ := id m
    obtain ⟨hM, c0, c1, c2, c3, c4, c5, c6⟩ := k.2.2.2.2.1
    have h9 : (S 9).length ≤ 6 := k.len 9 (by decide)
    have h10 : (S 10).length ≤ 6 := k.len 10 (by decide)
    obtain ⟨I1, L1, a1, a2, a3, a4⟩ := fk_one (g := g) (L := L) m htx hr (show c < (S 10).length by omega) (show 0 < 2 by decide) q.1 q.2
    have q1 := q.kept (a4 79 (by decide) (by decide))
    obtain ⟨I2, L2, b1, b2, b3, b4⟩ := fk_one (g := g) (L := L1) a2 htx hr (show c < (S 10).length by omega) (show 1 < 2 by decide) q1.1 q1.2
    have F1 := hF.put (by omega) h10 (by omega) (by decide) a3
    have F2 := F1.put (by omega) h10 (by omega) (by decide) b3
    obtain ⟨I3, L3, d1, d2, d3, d4⟩ := ih (c + 1) I2 L2 (by omega) b2 (q1.kept (b4 79 (by decide) (by decide))) (fun r' c' s' h1 h2 h3 h4 => F2 r' c' s' h1 h2 h3 (by omega))
    refine ⟨I3, L3, fun r' M' hn => wp_X12_findLikings_22 (k.1.k 76 12 (by decide) (by decide)) (k.1.r 76 0 77 (by decide)) (k.1.k 77 13 (by decide) (by decide)) ⟨vin k (j := 6) (by decide), fun e => ?_, fun _ => a1 r' M' (b1 r' M' ?_)⟩, d2, d3, fun a h1 h2 => by rw [d4 a h1 h2, b4 a h1 h2, a4 a h1 h2]⟩
    · rw [show I 77 (6 : Int32).toNatClampNeg = nI (S 10).length from c6] at e
      exact absurd e (nI_ge (by omega) (by omega))
    · exact wp_X12_findLikings_37 (k.1.k 76 12 (by decide) (by decide)) (k.1.r 76 24 82 (by decide)) (k.1.k 82 13 (by decide) (by decide)) (k.1.r 76 0 77 (by decide)) (k.1.k 77 13 (by decide) (by decide)) (k.1.r 76 38 94 (by decide)) (k.1.k 94 14 (by decide) (by decide)) (k.1.r 76 25 83 (by decide)) (k.1.k 83 14 (by decide) (by decide)) ⟨fun _ y hy => by rw [hy, nI_1]; exact d1 r' M' hn, fun e => absurd (nI_le (Nat.le_refl 2) (by decide)) e⟩
theorem fk_9 {hb : Nat} {t : TX} (htx : tx[hb]? = some t) {res : Option Nat} : ∀ (d r : Nat) (I : Nat → Nat → Int32) (L : Nat → Nat → Int64), r + d = (S 9).length → MB Z I w h S tx → CQ Z I hb t res → FD L S t (S 10).length r 0 0 →
    ∃ I1 L1, Lp_X12_findLikings_9 g 4 76 (nI hb) (oI res) (nI r) (Z, I, L) none (Z, I1, L1) ∧ MB Z I1 w h S tx ∧ FD L1 S t (S 10).length (S 9).length 0 0 ∧ ∀ a, a ≠ 82 → a ≠ 84 → I1 a = I a := by
  intro d
  induction d with
  | zero =>
    intro r I L hr m q hF
    obtain ⟨k, hW, hrg⟩ := id m
    obtain ⟨hM, c0, c1, c2, c3, c4, c5, c6⟩ := k.2.2.2.2.1
    have h9 : (S 9).length ≤ 6 := k.len 9 (by decide)
    have hr : r = (S 9).length := hr
    subst hr
    refine ⟨I, L, wp_X12_findLikings_9 (k.1.k 76 12 (by decide) (by decide)) (k.1.r 76 0 77 (by decide)) (k.1.k 77 13 (by decide) (by decide)) ⟨vin k (j := 5) (by decide), fun _ => ⟨rfl, rfl⟩, fun e => ?_⟩, m, hF, fun _ _ _ => rfl⟩
    rw [show I 77 (5 : Int32).toNatClampNeg = nI (S 9).length from c5] at e
    exact absurd (nI_le (Nat.le_refl _) (by omega)) e
  | succ d ih =>
    intro r I L hr m q hF
    obtain ⟨k, hW, hrg⟩ := id m
    obtain ⟨hM, c0, c1, c2, c3, c4, c5, c6⟩ := k.2.2.2.2.1
    have h9 : (S 9).length ≤ 6 := k.len 9 (by decide)
    obtain ⟨I1, L1, a1, a2, a3, a4⟩ := fk_22 (g := g) htx (show r < (S 9).length by omega) (S 10).length 0 I L (Nat.zero_add _) m q hF
    obtain ⟨I2, L2, b1, b2, b3, b4⟩ := ih (r + 1) I1 L1 (by omega) a2 (q.kept (a4 79 (by decide) (by decide))) a3
    refine ⟨I2, L2, wp_X12_findLikings_9 (k.1.k 76 12 (by decide) (by decide)) (k.1.r 76 0 77 (by decide)) (k.1.k 77 13 (by decide) (by decide)) ⟨vin k (j := 5) (by decide), fun e => ?_, fun _ => a1 _ _ b1⟩, b2, b3, fun a h1 h2 => by rw [b4 a h1 h2, a4 a h1 h2]⟩
    rw [show I 77 (5 : Int32).toNatClampNeg = nI (S 9).length from c5] at e
    exact absurd e (nI_ge (by omega) (by omega))
theorem ms_findLikings (m : MB Z I w h S tx) {hb : Nat} {t : TX} (htx : tx[hb]? = some t) : ∃ I1 L1, Cl g 4 mu_X12_findLikings [rf g 76, .int (nI hb)] (Z, I, L) none (Z, I1, L1) ∧ MB Z I1 w h S tx ∧ FD L1 S t (S 10).length (S 9).length 0 0 ∧ ∀ a, a ≠ 82 → a ≠ 84 → I1 a = I a := by
  obtain ⟨k, hW, hrg⟩ := id m
  have hx4 := k.2.2.2.2.2.1
  have hbl := (List.getElem?_eq_some_iff.mp htx).1
  have hT := k.2.2.2.2.2.2 hb t htx
  obtain ⟨res, c1, c2, c3⟩ := ms_clauseOf (g := g) (L := L) k.1 (show hb < 4 by omega) (sort := 2) (by decide) hT.2.2
  obtain ⟨I1, L1, a1, a2⟩ := fk_9 (g := g) htx (S 9).length 0 I L (Nat.zero_add _) m ⟨c2, c3⟩ (fun r' c' s' h1 h2 h3 h4 => absurd h4 (by omega))
  exact ⟨I1, L1, cp_X12_findLikings (k.1.k 76 12 (by decide) (by decide)) ⟨_, c1, a1⟩, a2⟩
end MWED
