/-! the model's keep, goes, tap -/
section MKEEP
variable {g : GE} {Z : Zs} {I : Nat → Nat → Int32} {L : Nat → Nat → Int64} {w h : Nat} {S : Nat → List Nat} {tx : List TX}
theorem e35 (n : Nat) : (35 : Int32) + 2 * nI n = nI (35 + 2 * n) := by rw [show (2 : Int32) * nI n = nI (2 * n) from pk_mul 2 n]; exact nI_add 35 _
theorem e70 (n : Nat) : (70 : Int32) + 2 * nI n = nI (70 + 2 * n) := by rw [show (2 : Int32) * nI n = nI (2 * n) from pk_mul 2 n]; exact nI_add 70 _
theorem ms_poseOf (k : MM Z I w h S tx) {q : Nat} (hq : q < (S 1).length) : Cl g 1 mu_X12_poseOf [rf g 76, .int (nI q)] (Z, I, L) (some (.int (nI ((S 1).getD q 0)))) (Z, I, L) := by
  have hl : (S 1).length ≤ 6 := k.len 1 (by decide)
  refine cp_X12_poseOf (k.1.k 76 12 (by decide) (by decide)) (k.1.r 76 0 77 (by decide)) (k.1.k 77 13 (by decide) (by decide)) ?_
  rw [e35, nI_clamp (by omega), show I 77 (35 + 2 * q) = nI ((S 1).getD q 0) from k.atD 1 (by decide) hq]
  exact ⟨vin k (by omega), rfl, rfl⟩
theorem ms_habitOf (k : MM Z I w h S tx) {q : Nat} (hq : q < (S 2).length) : Cl g 1 mu_X12_habitOf [rf g 76, .int (nI q)] (Z, I, L) (some (.int (nI ((S 2).getD q 0)))) (Z, I, L) := by
  have hl : (S 2).length ≤ 6 := k.len 2 (by decide)
  refine cp_X12_habitOf (k.1.k 76 12 (by decide) (by decide)) (k.1.r 76 0 77 (by decide)) (k.1.k 77 13 (by decide) (by decide)) ?_
  rw [e35, nI_1, nI_clamp (by omega), show I 77 (35 + 2 * q + 1) = nI ((S 2).getD q 0) from by
    have := k.atD 2 (by decide) hq
    rw [show mB 2 + mDl 2 * q = 35 + 2 * q + 1 by show 36 + 2 * q = _; omega] at this
    exact this]
  exact ⟨vin k (by omega), rfl, rfl⟩
/-- the memory with one step more -/
def kJ1 (I : Nat → Nat → Int32) (m q : Nat) : Nat → Nat → Int32 := rw1 I 77 (upd (I 77) (70 + 2 * m) (nI q))
def kJ2 (I : Nat → Nat → Int32) (m q v : Nat) : Nat → Nat → Int32 := rw1 (kJ1 I m q) 77 (upd (kJ1 I m q 77) (70 + 2 * m + 1) (nI v))
def kJ3 (I : Nat → Nat → Int32) (m q v : Nat) : Nat → Nat → Int32 := rw1 (kJ2 I m q v) 77 (upd (kJ2 I m q v 77) 3 (nI (m + 1)))
theorem kJ1_77 (I : Nat → Nat → Int32) (m q j : Nat) : kJ1 I m q 77 j = if j = 70 + 2 * m then nI q else I 77 j := r77 _ _ _ _
theorem kJ2_77 (I : Nat → Nat → Int32) (m q v j : Nat) : kJ2 I m q v 77 j = if j = 70 + 2 * m + 1 then nI v else if j = 70 + 2 * m then nI q else I 77 j := by unfold kJ2; rw [r77, kJ1_77]
theorem kJ3_77 (I : Nat → Nat → Int32) (m q v j : Nat) : kJ3 I m q v 77 j = if j = 3 then nI (m + 1) else if j = 70 + 2 * m + 1 then nI v else if j = 70 + 2 * m then nI q else I 77 j := by unfold kJ3; rw [r77, kJ2_77]
theorem kJ3_o (I : Nat → Nat → Int32) (m q v : Nat) {a : Nat} (h : a ≠ 77) : kJ3 I m q v a = I a := by unfold kJ3 kJ2 kJ1; rw [o77 h, o77 h, o77 h]
theorem kp_app (k : MM Z I w h S tx) {m q v : Nat} (h4 : (S 4).length = m) (h5 : (S 5).length = m) (hm : m < 30) : MR (kJ3 I m q v) 77 w h (rw1 (rw1 S 4 (S 4 ++ [q])) 5 (S 5 ++ [v])) tx.length := by
  obtain ⟨hM, c0, c1, c2, c3, c4, c5, c6⟩ := k.2.2.2.2.1
  have u := kJ3_77 I m q v
  refine k.2.2.2.2.1.upd (fun j => j = 3 ∨ j = 70 + 2 * m + 1 ∨ j = 70 + 2 * m) (fun j hj => by rw [u, if_neg (by omega), if_neg (by omega), if_neg (by omega)]) (fun j hj => ?_) ⟨?_, ?_, ?_, ?_, ?_, ?_, ?_⟩
  · by_cases hj4 : j = 4
    · subst hj4
      refine Or.inr ⟨?_, fun i x hx => ?_⟩
      · show (S 4 ++ [q]).length ≤ 30
        rw [List.length_append, List.length_singleton]; omega
      · have hx : (S 4 ++ [q])[i]? = some x := hx
        show kJ3 I m q v 77 (70 + 2 * i) = nI x
        rcases getElem_app hx with h1 | ⟨rfl, rfl⟩
        · have hil := (List.getElem?_eq_some_iff.mp h1).1
          rw [u, if_neg (by omega), if_neg (by omega), if_neg (by omega)]
          exact k.at 4 (by decide) h1
        · rw [u, if_neg (by omega), if_neg (by omega), if_pos (by omega)]
    · by_cases hj5 : j = 5
      · subst hj5
        refine Or.inr ⟨?_, fun i x hx => ?_⟩
        · show (S 5 ++ [v]).length ≤ 30
          rw [List.length_append, List.length_singleton]; omega
        · have hx : (S 5 ++ [v])[i]? = some x := hx
          show kJ3 I m q v 77 (71 + 2 * i) = nI x
          rcases getElem_app hx with h1 | ⟨rfl, rfl⟩
          · have hil := (List.getElem?_eq_some_iff.mp h1).1
            rw [u, if_neg (by omega), if_neg (by omega), if_neg (by omega)]
            exact k.at 5 (by decide) h1
          · rw [u, if_neg (by omega), if_pos (by omega)]
      · exact Or.inl ⟨by rw [rw1_n _ _ hj5, rw1_n _ _ hj4], fun i hi => by rcases mpos k.2.1 hj hi with z | z | z | z | z | z | z | z | z | z | z <;> omega⟩
  · rw [u, if_neg (by decide), if_neg (by omega), if_neg (by omega)]; exact c0
  · rw [u, if_neg (by decide), if_neg (by omega), if_neg (by omega)]; exact c1
  · rw [u, if_neg (by decide), if_neg (by omega), if_neg (by omega)]; exact c2
  · rw [u, if_pos rfl]
    show nI (m + 1) = nI (S 4 ++ [q]).length
    rw [List.length_append, List.length_singleton, h4]
  · rw [u, if_neg (by decide), if_neg (by omega), if_neg (by omega)]; exact c4
  · rw [u, if_neg (by decide), if_neg (by omega), if_neg (by omega)]; exact c5
  · rw [u, if_neg (by decide), if_neg (by omega), if_neg (by omega)]; exact c6
/-- the shifted steps -/
def kSh (I : Nat → Nat → Int32) (j : Nat) : Nat → Nat → Int32 := rw1 I 77 (fun i => if 70 ≤ i ∧ i < 70 + j then I 77 (i + 2) else I 77 i)
theorem kSh_step (I : Nat → Nat → Int32) {j : Nat} : rw1 (kSh I j) 77 (upd (kSh I j 77) (70 + j) (kSh I j 77 (70 + j + 2))) = kSh I (j + 1) := by
  unfold kSh
  funext x
  by_cases hx : x = 77
  · subst hx
    rw [rw1_s, rw1_s, rw1_s]
    funext i
    unfold upd
    by_cases hi : i = 70 + j
    · subst hi
      rw [if_pos rfl, if_neg (by omega), if_pos (by omega)]
    · rw [if_neg hi]
      by_cases h2 : 70 ≤ i ∧ i < 70 + j
      · show (if 70 ≤ i ∧ i < 70 + j then I 77 (i + 2) else I 77 i) = _
        rw [if_pos h2, if_pos (by omega)]
      · show (if 70 ≤ i ∧ i < 70 + j then I 77 (i + 2) else I 77 i) = _
        rw [if_neg h2, if_neg (by omega)]
  · rw [rw1_n _ _ hx, rw1_n _ _ hx, rw1_n _ _ hx]
theorem kp_shift (k : MM Z I w h S tx) {q : Nat} {r : Option Value} {M' : Mem} (hend : Lp_X12_keep_13 g 2 76 (nI q) (nI 58) (Z, kSh I 58, L) r M') : ∀ (d j : Nat), j + d = 58 → Lp_X12_keep_13 g 2 76 (nI q) (nI j) (Z, kSh I j, L) r M' := by
  intro d
  induction d with
  | zero =>
    intro j hj
    have hj : j = 58 := hj
    subst hj
    exact hend
  | succ d ih =>
    intro j hj
    refine wp_X12_keep_13 (k.1.k 76 12 (by decide) (by decide)) (k.1.r 76 0 77 (by decide)) (k.1.k 77 13 (by decide) (by decide)) ⟨fun e => absurd ((nI_leI (a := 58) (by decide) (by omega)).mp e) (by omega), fun _ => ?_⟩
    rw [show (70 : Int32) + nI j = nI (70 + j) from nI_add 70 j, show nI (70 + j) + 2 = nI (70 + j + 2) from nI_add _ 2, nI_clamp (by omega), nI_clamp (by omega)]
    refine ⟨vin k (by omega), vin k (by omega), fun I17 hI17 y hy => ?_⟩
    rw [hI17, hy, nI_1, kSh_step]
    exact ih (j + 1) (by omega)
theorem kp_tail (hS : Sh Z) {m q v : Nat} (hm : m < 30) (hq : q < 6) (h3 : I 77 3 = nI m) (hv : I 77 (35 + 2 * q) = nI v) : vp_in 3 (Z.2.2.1 77) ∧ vp_in (70 + (2 * (I 77 (3 : Int32).toNatClampNeg))) (Z.2.2.1 77) ∧ ∀ I4 : Nat → Nat → Int32, I4 = rw1 I 77 (upd (I 77) (70 + (2 * (I 77 (3 : Int32).toNatClampNeg))).toNatClampNeg (nI q)) → (vp_in 3 (Z.2.2.1 77) ∧ (∃ (v6 : Int32), Cl g 1 mu_X12_poseOf [rf g 76, .int (nI q)] (Z, I4, L) (some (.int v6)) (Z, I4, L) ∧ (vp_in ((70 + (2 * (I4 77 (3 : Int32).toNatClampNeg))) + 1) (Z.2.2.1 77) ∧ (∀ I9 : Nat → Nat → Int32, I9 = rw1 I4 77 (upd (I4 77) ((70 + (2 * (I4 77 (3 : Int32).toNatClampNeg))) + 1).toNatClampNeg v6) → (vp_in 3 (Z.2.2.1 77) ∧ (vp_in 3 (Z.2.2.1 77) ∧ (∀ I12 : Nat → Nat → Int32, I12 = rw1 I9 77 (upd (I9 77) (3 : Int32).toNatClampNeg ((I9 77 (3 : Int32).toNatClampNeg) + 1)) → ((none : Option Value) = none ∧ (Z, kJ3 I m q v, L) = (Z, I12, L))))))))) := by
  have hN := hS.n 77 205 (by decide)
  have v3 : vp_in 3 (Z.2.2.1 77) := by rw [hN]; exact vp_in_nI (n := 3) (by decide) (by decide)
  rw [show I 77 (3 : Int32).toNatClampNeg = nI m from h3, e70, nI_clamp (by omega)]
  refine ⟨v3, by rw [hN]; exact vp_in_nI (by omega) (by decide), fun I4 hI4 => ⟨v3, nI v, ?_, ?_⟩⟩
  · refine cp_X12_poseOf (hS.k 76 12 (by decide) (by decide)) (hS.r 76 0 77 (by decide)) (hS.k 77 13 (by decide) (by decide)) ?_
    rw [e35, nI_clamp (by omega), hI4, r77, if_neg (by omega), hv, hN]
    exact ⟨vp_in_nI (by omega) (by decide), rfl, rfl⟩
  · have hI4 : I4 = kJ1 I m q := hI4
    subst hI4
    have z1 : kJ1 I m q 77 (3 : Int32).toNatClampNeg = nI m := by
      show kJ1 I m q 77 3 = nI m
      rw [kJ1_77, if_neg (by omega)]; exact h3
    rw [z1, e70, nI_1, nI_clamp (by omega)]
    refine ⟨by rw [hN]; exact vp_in_nI (by omega) (by decide), fun I9 hI9 => ⟨v3, v3, fun I12 hI12 => ⟨rfl, ?_⟩⟩⟩
    have hI9 : I9 = kJ2 I m q v := hI9
    subst hI9
    have z2 : kJ2 I m q v 77 (3 : Int32).toNatClampNeg = nI m := by
      show kJ2 I m q v 77 3 = nI m
      rw [kJ2_77, if_neg (by omega), if_neg (by omega)]; exact h3
    rw [z2, nI_1] at hI12
    rw [hI12]
    rfl
theorem ms_keep (k : MM Z I w h S tx) (hW : WF w h S tx) {q : Nat} (hq : q < (S 1).length) : ∃ I1, Cl g 2 mu_X12_keep [rf g 76, .int (nI q)] (Z, I, L) none (Z, I1, L) ∧ MR I1 77 w h (kS S q) tx.length ∧ ∀ a, a ≠ 77 → I1 a = I a := by
  obtain ⟨hM, c0, c1, c2, c3, c4, c5, c6⟩ := k.2.2.2.2.1
  have h30 : (S 4).length ≤ 30 := k.len 4 (by decide)
  have h45 : (S 4).length = (S 5).length := hW.2.2.2.2.2.2.1
  have hl1 : (S 1).length ≤ 6 := k.len 1 (by decide)
  have K76 := k.1.k 76 12 (by decide) (by decide)
  have K77 := k.1.k 77 13 (by decide) (by decide)
  have R0 := k.1.r 76 0 77 (by decide)
  have v3 := vin k (j := 3) (by decide)
  obtain ⟨v, hv⟩ : ∃ v, v = (S 1).getD q 0 := ⟨_, rfl⟩
  have hpv : I 77 (35 + 2 * q) = nI v := by rw [hv]; exact k.atD 1 (by decide) hq
  by_cases hl : (S 4).length < 30
  · have ap := kp_app (q := q) (v := v) k rfl h45.symm hl
    have ek : kS S q = rw1 (rw1 S 4 (S 4 ++ [q])) 5 (S 5 ++ [v]) := by
      unfold kS keepL; rw [if_pos hl, if_pos (by omega), hv]
    rw [← ek] at ap
    refine ⟨kJ3 I (S 4).length q v, cp_X12_keep K76 R0 K77 ⟨v3, fun _ => kp_tail k.1 hl (by omega) c3 hpv, fun e => ?_⟩, ap, fun a ha => kJ3_o I _ q v ha⟩
    rw [show I 77 (3 : Int32).toNatClampNeg = nI (S 4).length from c3] at e
    exact absurd ((nI_eq (b := 30) (by omega) (by decide)).mp e) (by omega)
  · -- the first of 30 goes
    obtain ⟨J, hJ⟩ : ∃ J, J = rw1 (kSh I 58) 77 (upd (kSh I 58 77) 3 (nI 29)) := ⟨_, rfl⟩
    have uS : ∀ i, kSh I 58 77 i = if 70 ≤ i ∧ i < 70 + 58 then I 77 (i + 2) else I 77 i := fun i => by unfold kSh; rw [rw1_s]
    have u : ∀ i, J 77 i = if i = 3 then nI 29 else if 70 ≤ i ∧ i < 128 then I 77 (i + 2) else I 77 i := fun i => by rw [hJ, r77, uS]
    have fJ : ∀ a, a ≠ 77 → J a = I a := fun a ha => by rw [hJ, o77 ha]; unfold kSh; rw [o77 ha]
    have kJ : MM Z J w h (rw1 (rw1 S 4 ((S 4).drop 1)) 5 ((S 5).drop 1)) tx := by
      refine ⟨k.1, k.2.1, by rw [fJ 76 (by decide)]; exact k.2.2.1, by rw [fJ 76 (by decide)]; exact k.2.2.2.1, k.2.2.2.2.1.upd (fun i => i = 3 ∨ (70 ≤ i ∧ i < 128)) (fun i hi => by rw [u, if_neg (by omega), if_neg (by omega)]) (fun j hj => ?_) ⟨?_, ?_, ?_, ?_, ?_, ?_, ?_⟩, k.2.2.2.2.2.1, fun j t hj => ?_⟩
      · by_cases hj4 : j = 4
        · subst hj4
          refine Or.inr ⟨?_, fun i x hx => ?_⟩
          · show ((S 4).drop 1).length ≤ 30
            rw [List.length_drop]; omega
          · have hx : ((S 4).drop 1)[i]? = some x := hx
            have hil := (List.getElem?_eq_some_iff.mp hx).1
            rw [List.length_drop] at hil
            rw [List.getElem?_drop] at hx
            show J 77 (70 + 2 * i) = nI x
            rw [u, if_neg (by omega), if_pos (by omega), show 70 + 2 * i + 2 = 70 + 2 * (1 + i) by omega]
            exact k.at 4 (by decide) hx
        · by_cases hj5 : j = 5
          · subst hj5
            refine Or.inr ⟨?_, fun i x hx => ?_⟩
            · show ((S 5).drop 1).length ≤ 30
              rw [List.length_drop]; omega
            · have hx : ((S 5).drop 1)[i]? = some x := hx
              have hil := (List.getElem?_eq_some_iff.mp hx).1
              rw [List.length_drop] at hil
              rw [List.getElem?_drop] at hx
              show J 77 (71 + 2 * i) = nI x
              rw [u, if_neg (by omega), if_pos (by omega), show 71 + 2 * i + 2 = 71 + 2 * (1 + i) by omega]
              exact k.at 5 (by decide) hx
          · exact Or.inl ⟨by rw [rw1_n _ _ hj5, rw1_n _ _ hj4], fun i hi => by rcases mpos k.2.1 hj hi with z | z | z | z | z | z | z | z | z | z | z <;> omega⟩
      · rw [u, if_neg (by decide), if_neg (by omega)]; exact c0
      · rw [u, if_neg (by decide), if_neg (by omega)]; exact c1
      · rw [u, if_neg (by decide), if_neg (by omega)]; exact c2
      · rw [u, if_pos rfl]
        show nI 29 = nI ((S 4).drop 1).length
        rw [List.length_drop, show (S 4).length - 1 = 29 by omega]
      · rw [u, if_neg (by decide), if_neg (by omega)]; exact c4
      · rw [u, if_neg (by decide), if_neg (by omega)]; exact c5
      · rw [u, if_neg (by decide), if_neg (by omega)]; exact c6
      · obtain ⟨h1, h2, h3⟩ := k.2.2.2.2.2.2 j t hj
        have e9 := fJ 79 (by decide)
        exact ⟨h1.kept e9, h2.kept e9, h3.kept e9⟩
    have l4 : (rw1 (rw1 S 4 ((S 4).drop 1)) 5 ((S 5).drop 1) 4).length = 29 := by
      show ((S 4).drop 1).length = 29
      rw [List.length_drop]; omega
    have l5 : (rw1 (rw1 S 4 ((S 4).drop 1)) 5 ((S 5).drop 1) 5).length = 29 := by
      show ((S 5).drop 1).length = 29
      rw [List.length_drop]; omega
    have ap := kp_app (q := q) (v := v) kJ l4 l5 (by decide)
    have ek : kS S q = rw1 (rw1 (rw1 (rw1 S 4 ((S 4).drop 1)) 5 ((S 5).drop 1)) 4 (rw1 (rw1 S 4 ((S 4).drop 1)) 5 ((S 5).drop 1) 4 ++ [q])) 5 (rw1 (rw1 S 4 ((S 4).drop 1)) 5 ((S 5).drop 1) 5 ++ [v]) := by
      rw [rw1_s, rw1_n _ _ (show (4 : Nat) ≠ 5 by decide), rw1_s]
      unfold kS keepL
      rw [if_neg hl, if_neg (by omega), ← hv]
      funext f
      unfold rw1
      by_cases h5 : f = 5
      · simp [h5]
      · by_cases h4 : f = 4
        · simp [h4]
        · simp [h5, h4]
    rw [← ek] at ap
    have J3v : J 77 3 = nI 29 := by rw [u, if_pos rfl]
    have Jpv : J 77 (35 + 2 * q) = nI v := by rw [u, if_neg (by omega), if_neg (by omega)]; exact hpv
    have hend : Lp_X12_keep_13 g 2 76 (nI q) (nI 58) (Z, kSh I 58, L) none (Z, kJ3 J 29 q v, L) := by
      refine wp_X12_keep_13 K76 R0 K77 ⟨fun _ => ⟨v3, v3, fun I3 hI3 => ?_⟩, fun e => absurd (nI_le (Nat.le_refl 58) (by decide)) e⟩
      have hI3 : I3 = J := by
        rw [hI3, hJ, show kSh I 58 77 (3 : Int32).toNatClampNeg = nI 30 from by
          show kSh I 58 77 3 = nI 30
          rw [uS, if_neg (by omega)]
          rw [show (30 : Nat) = (S 4).length by omega]; exact c3]
        rfl
      subst hI3
      exact kp_tail k.1 (by decide) (by omega) J3v Jpv
    have h0 : kSh I 0 = I := by
      unfold kSh
      funext x
      by_cases hx : x = 77
      · subst hx
        rw [rw1_s]
        funext i
        rw [if_neg (by omega)]
      · rw [rw1_n _ _ hx]
    have sh := kp_shift k hend 58 0 rfl
    rw [h0] at sh
    refine ⟨kJ3 J 29 q v, cp_X12_keep K76 R0 K77 ⟨v3, fun e => absurd ?_ e, fun _ => sh⟩, ap, fun a ha => (kJ3_o J _ q v ha).trans (fJ a ha)⟩
    rw [show I 77 (3 : Int32).toNatClampNeg = nI (S 4).length from c3, show (S 4).length = 30 by omega]; rfl
end MKEEP
