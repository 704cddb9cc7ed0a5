/-! wed(): the class's likings -/
section CWED
variable {g : GE} {Z : Zs} {I : Nat → Nat → Int32} {L : Nat → Nat → Int64} {w h : Nat} {S : Nat → List Nat} {tx : List TX}
theorem sp_liking (cl : CL Z I w h S tx) {sc : Nat} {t : TX} (hT : TC Z I sc t) (hok : TXok t) {r c side : Nat} (hr : r < 6) (hc : c < 6) : ∃ I1, Cl g 4 mu_X10_liking [rf g 68, rf g sc, .int (nI r), .int (nI c), .int (nI side)] (Z, I, L) (some (.int (lkF t S r c side))) (Z, I1, L) ∧ CL Z I1 w h S tx ∧ ∀ a, a ≠ 13 → a ≠ 14 → a ≠ 15 → I1 a = I a := by
  obtain ⟨k, hW, hm, hN, hK⟩ := id cl
  obtain ⟨t1, t2, ar, ords, t3, t4, t5, t6, t7, t8⟩ := id hT
  have cp := fun (r' : Option Value) (M' : Mem) => @cp_X10_liking g Z I L r' M' 68 sc (nI r) (nI c) (nI side) 13 18 35 37 ar (k.1.k 68 10 (by decide) (by decide)) t2 (k.1.r 68 1 13 (by decide)) (k.1.k 13 4 (by decide) (by decide)) (k.1.r 68 0 18 (by decide)) (k.1.k 18 8 (by decide) (by decide)) (k.1.r 18 11 35 (by decide)) (k.1.k 35 2 (by decide) (by decide)) (k.1.r 18 12 37 (by decide)) (k.1.k 37 2 (by decide) (by decide)) t4 t5.1
  cases hf : t.2.2 with
  | none =>
    have e0 : I sc 3 = -1 := by rw [hf] at t8; exact t8
    have el : lkF t S r c side = 0 := by unfold lkF; rw [hf]
    rw [el]
    exact ⟨I, cp _ _ ⟨fun e => absurd e0 e, fun _ => ⟨rfl, rfl⟩⟩, cl, fun _ _ _ _ => rfl⟩
  | some f =>
    have el : lkF t S r c side = f (envL S r c side) := by unfold lkF; rw [hf]
    rw [el]
    rw [hf] at t8
    have up : ∀ (J : Nat → Nat → Int32) (j : Nat) (v : Int32), (∀ a, a ≠ 14 → J a = I a) → (∀ a, a ≠ 14 → rw1 J 14 (upd (J 14) j v) a = I a) := fun J j v hJ a ha => by rw [rw1_n _ _ ha]; exact hJ a ha
    have ms : ∀ (J : Nat → Nat → Int32), (∀ a, a ≠ 14 → J a = I a) → MS Z J 13 14 15 [] := fun J hJ => hm.kept (by rw [hJ 13 (by decide)]) (hJ 15 (by decide))
    have rd : ∀ (J : Nat → Nat → Int32) (j i : Nat) (v : Int32), rw1 J 14 (upd (J 14) j v) 14 i = if i = j then v else J 14 i := fun J j i v => by rw [rw1_s]; rfl
    have ks : ∀ (J : Nat → Nat → Int32), (∀ a, a ≠ 14 → J a = I a) → CS Z J w h S tx := fun J hJ => k.kept (fun a ha => hJ a (by rcases ha with ha | ha; (unfold stA at ha; omega); omega))
    obtain ⟨J1, q1⟩ : ∃ J, J = rw1 I 14 (upd (I 14) 6 (nI r)) := ⟨_, rfl⟩
    have f1 : ∀ a, a ≠ 14 → J1 a = I a := by rw [q1]; exact up I 6 _ (fun _ _ => rfl)
    obtain ⟨J2, q2⟩ : ∃ J, J = rw1 J1 14 (upd (J1 14) 7 (nI c)) := ⟨_, rfl⟩
    have f2 : ∀ a, a ≠ 14 → J2 a = I a := by rw [q2]; exact up J1 7 _ f1
    obtain ⟨J3, q3⟩ : ∃ J, J = rw1 J2 14 (upd (J2 14) 8 (nI ((S 9).getD r 0))) := ⟨_, rfl⟩
    have f3 : ∀ a, a ≠ 14 → J3 a = I a := by rw [q3]; exact up J2 8 _ f2
    obtain ⟨J4, q4⟩ : ∃ J, J = rw1 J3 14 (upd (J3 14) 9 (nI ((S 10).getD c 0))) := ⟨_, rfl⟩
    have f4 : ∀ a, a ≠ 14 → J4 a = I a := by rw [q4]; exact up J3 9 _ f3
    obtain ⟨J5, q5⟩ : ∃ J, J = rw1 J4 14 (upd (J4 14) 10 (nI side)) := ⟨_, rfl⟩
    have f5 : ∀ a, a ≠ 14 → J5 a = I a := by rw [q5]; exact up J4 10 _ f4
    have c1 := sp_name (g := g) (L := L) hm 6 (by decide) (nI r)
    rw [← q1] at c1
    have c2 := sp_name (g := g) (L := L) (ms J1 f1) 7 (by decide) (nI c)
    rw [← q2] at c2
    have c3 := sp_name (g := g) (L := L) (ms J2 f2) 8 (by decide) (nI ((S 9).getD r 0))
    rw [← q3] at c3
    have c4 := sp_name (g := g) (L := L) (ms J3 f3) 9 (by decide) (nI ((S 10).getD c 0))
    rw [← q4] at c4
    have c5 := sp_name (g := g) (L := L) (ms J4 f4) 10 (by decide) (nI side)
    rw [← q5] at c5
    have a1 := sp_at (g := g) (L := L) ((ks J2 f2).il 9 (by decide)) (nI r)
    rw [atL_n _ (by omega)] at a1
    have a2 := sp_at (g := g) (L := L) ((ks J3 f3).il 10 (by decide)) (nI c)
    rw [atL_n _ (by omega)] at a2
    have hT5 : TC Z J5 sc t := hT.kept (fun a h1 _ => f5 a (by omega))
    have e5 : J5 sc = I sc := f5 sc (by omega)
    have t8' : CR ords (J5 sc 3) (some f) := by rw [e5]; exact t8
    have t5' : OA Z J5 ar ords := ⟨t5.1, t5.2.1, t5.2.2.1, fun i v hv => by rw [f5 ar (by omega)]; exact t5.2.2.2 i v hv⟩
    obtain ⟨n1, J6, v1, v2, v3⟩ := cr_val (g := g) (L := L) (env := fun j => J5 14 j) k.1 (ms J5 f5) t3 t5' t8' (fun _ _ => rfl)
    have ef : f (fun j => J5 14 j) = f (envL S r c side) := hok.2.2 f hf _ _ (fun j h1 h2 => by
      have cs : j = 6 ∨ j = 7 ∨ j = 8 ∨ j = 9 ∨ j = 10 := by omega
      show J5 14 j = _
      rw [q5, rd, q4, rd, q3, rd, q2, rd, q1, rd]
      rcases cs with rfl | rfl | rfl | rfl | rfl <;> rfl)
    rw [ef] at v1
    refine ⟨J6, cp _ _ ⟨fun _ => ⟨J1, L, c1, J2, L, c2, _, a1, J3, L, c3, _, a2, J4, L, c4, J5, L, c5, _, J6, L, v1, rfl, rfl⟩, fun e => absurd (by rw [e5]; exact e) n1⟩, ⟨k.kept (fun a ha => ?_), hW, v2, hN, ?_⟩, fun a h1 h2 h3 => by rw [v3 a h1 h3, f5 a h2]⟩
    · rw [v3 a (by rcases ha with ha | ha; (unfold stA at ha; omega); omega) (by rcases ha with ha | ha; (unfold stA at ha; omega); omega), f5 a (by rcases ha with ha | ha; (unfold stA at ha; omega); omega)]
    · rw [v3 67 (by decide) (by decide), f5 67 (by decide)]; exact hK
theorem CL.ow (cl : CL Z I w h S tx) {b : Nat} (h1 : 68 ≤ b) (h2 : b ≤ 98) (f : Nat → Int32) : CL Z (rw1 I b f) w h S tx := cl.kept (fun a ha => rw1_n _ _ (by unfold stA at ha; omega))
theorem v36 (hS : Sh Z) {b j : Nat} (hb : b = 69 ∨ b = 70 ∨ b = 71) (hj : j < 36) : vp_in (nI j) (Z.2.2.1 b) := by
  have e : Z.2.2.1 b = 36 := by rcases hb with rfl | rfl | rfl; exact hS.n 69 36 (by decide); exact hS.n 70 36 (by decide); exact hS.n 71 36 (by decide)
  rw [e]; exact vp_in_nI hj (by decide)
theorem v6 (hS : Sh Z) {b j : Nat} (hb : b = 72 ∨ b = 73) (hj : j < 6) : vp_in (nI j) (Z.2.2.1 b) := by
  have e : Z.2.2.1 b = 6 := by rcases hb with rfl | rfl; exact hS.n 72 6 (by decide); exact hS.n 73 6 (by decide)
  rw [e]; exact vp_in_nI hj (by decide)
theorem e6 (i o : Nat) : nI i * 6 + nI o = nI (6 * i + o) := by
  rw [show nI i * (6 : Int32) = nI (i * 6) from pk_mul i 6, nI_add, Nat.mul_comm]
theorem ln_44 (cl : CL Z I w h S tx) {sc : Nat} {t : TX} (hT : TC Z I sc t) (hok : TXok t) {one o rr cr side : Nat} (h1 : one < 6) (h2 : o < 6) (hr : rr < 6) (hc : cr < 6) (hs : side < 2) : ∃ I1, (∀ r M', Lp_X10_learn_13 g 5 68 (nI side) sc (nI one) (nI (o + 1)) (Z, I1, L) r M' → Lp_X10_learn_44 g 5 68 (nI side) sc (nI one) (nI o) (nI rr) (nI cr) (Z, I, L) r M') ∧ CL Z I1 w h S tx ∧ I1 69 = upd (I 69) (6 * one + o) (lkF t S rr cr side) ∧ I1 70 = upd (I 70) (6 * o + one) (lkF t S rr cr (1 - side)) ∧ ∀ a, a ≠ 13 → a ≠ 14 → a ≠ 15 → a ≠ 69 → a ≠ 70 → I1 a = I a := by
  obtain ⟨k, hW, -⟩ := id cl
  obtain ⟨J1, a1, a2, a3⟩ := sp_liking (g := g) (L := L) (side := side) cl hT hok hr hc
  obtain ⟨J2, q2⟩ : ∃ J, J = rw1 J1 69 (upd (J1 69) (6 * one + o) (lkF t S rr cr side)) := ⟨_, rfl⟩
  have cl2 : CL Z J2 w h S tx := by rw [q2]; exact a2.ow (by decide) (by decide) _
  have f2 : ∀ a, a ≠ 13 → a ≠ 14 → a ≠ 15 → a ≠ 69 → J2 a = I a := fun a x1 x2 x3 x4 => by rw [q2, rw1_n _ _ x4, a3 a x1 x2 x3]
  have hT2 : TC Z J2 sc t := hT.kept (fun a x1 _ => f2 a (by omega) (by omega) (by omega) (by omega))
  obtain ⟨J3, b1, b2, b3⟩ := sp_liking (g := g) (L := L) (side := 1 - side) cl2 hT2 hok hr hc
  obtain ⟨J4, q4⟩ : ∃ J, J = rw1 J3 70 (upd (J3 70) (6 * o + one) (lkF t S rr cr (1 - side))) := ⟨_, rfl⟩
  have e1s : (1 : Int32) - nI side = nI (1 - side) := pk_sub (a := 1) (by omega)
  refine ⟨J4, fun r M' hc' => wp_X10_learn_44 (k.1.k 68 10 (by decide) (by decide)) hT.2.1 (k.1.r 68 2 69 (by decide)) (k.1.k 69 13 (by decide) (by decide)) (k.1.r 68 3 70 (by decide)) (k.1.k 70 13 (by decide) (by decide)) ⟨_, J1, L, a1, ?_⟩, by rw [q4]; exact b2.ow (by decide) (by decide) _, ?_, ?_, fun a x1 x2 x3 x4 x5 => ?_⟩
  · rw [e6, e6, e1s, nI_clamp (by omega), nI_clamp (by omega)]
    refine ⟨v36 k.1 (by simp) (by omega), fun I6 h6 => ?_⟩
    rw [← q2] at h6
    rw [h6]
    refine ⟨_, J3, L, b1, v36 k.1 (by simp) (by omega), fun I12 h12 y hy => ?_⟩
    rw [← q4] at h12
    rw [h12, hy, nI_1]
    exact hc' 
  · rw [q4, rw1_n _ _ (by decide), b3 69 (by decide) (by decide) (by decide), q2, rw1_s, a3 69 (by decide) (by decide) (by decide)]
  · rw [q4, rw1_s, b3 70 (by decide) (by decide) (by decide), f2 70 (by decide) (by decide) (by decide) (by decide)]
  · rw [q4, rw1_n _ _ x5, b3 a x1 x2 x3, f2 a x1 x2 x3 x4]
/-- the likings are learnt, up to one and other -/
def LD (I : Nat → Nat → Int32) (S : Nat → List Nat) (t : TX) (side n2 one other : Nat) : Prop := ∀ i o, i < 6 → o < n2 → (i < one ∨ (i = one ∧ o < other)) → I 69 (6 * i + o) = asL t S side i o ∧ I 70 (6 * o + i) = akL t S side o i
theorem ln_13 {sc : Nat} {t : TX} (hok : TXok t) {one n1 n2 side : Nat} (h1 : one < 6) (hn2 : n2 ≤ 6) (hs : side < 2) : ∀ (d o : Nat) (I : Nat → Nat → Int32), o + d = n2 → CL Z I w h S tx → TC Z I sc t → I 68 7 = nI n1 → I 68 8 = nI n2 → LD I S t side n2 one o →
    ∃ I1, (∀ r M', Lp_X10_learn_2 g 5 68 (nI side) sc (nI (one + 1)) (Z, I1, L) r M' → Lp_X10_learn_13 g 5 68 (nI side) sc (nI one) (nI o) (Z, I, L) r M') ∧ CL Z I1 w h S tx ∧ LD I1 S t side n2 (one + 1) 0 ∧ ∀ a, a ≠ 13 → a ≠ 14 → a ≠ 15 → a ≠ 69 → a ≠ 70 → I1 a = I a := by
  intro d
  induction d with
  | zero =>
    intro o I ho cl hT e7 e8 hD
    obtain ⟨k, hW, -⟩ := id cl
    have ho : o = n2 := ho
    subst ho
    refine ⟨I, fun r M' hc => wp_X10_learn_13 (k.1.k 68 10 (by decide) (by decide)) hT.2.1 ⟨fun _ y hy => by rw [hy, nI_1]; exact hc, fun e => ?_⟩, cl, fun i o' hi ho' hd => hD i o' hi ho' (by omega), fun _ _ _ _ _ _ => rfl⟩
    rw [e8] at e
    exact absurd (nI_le (Nat.le_refl _) (by omega)) e
  | succ d ih =>
    intro o I ho cl hT e7 e8 hD
    obtain ⟨k, hW, -⟩ := id cl
    have key : ∀ rr cr, rr < 6 → cr < 6 → lkF t S rr cr side = asL t S side one o → lkF t S rr cr (1 - side) = akL t S side o one → ∃ I1, (∀ r M', Lp_X10_learn_2 g 5 68 (nI side) sc (nI (one + 1)) (Z, I1, L) r M' → Lp_X10_learn_44 g 5 68 (nI side) sc (nI one) (nI o) (nI rr) (nI cr) (Z, I, L) r M') ∧ CL Z I1 w h S tx ∧ LD I1 S t side n2 (one + 1) 0 ∧ ∀ a, a ≠ 13 → a ≠ 14 → a ≠ 15 → a ≠ 69 → a ≠ 70 → I1 a = I a := fun rr cr hr hc el1 el2 => by
      obtain ⟨J, b1, b2, b3, b4, b5⟩ := ln_44 (g := g) (L := L) cl hT hok (one := one) (o := o) h1 (by omega) hr hc hs
      rw [el1] at b3
      rw [el2] at b4
      obtain ⟨I1, c1, c2, c3, c4⟩ := ih (o + 1) J (by omega) b2 (hT.kept (fun a x1 _ => b5 a (by omega) (by omega) (by omega) (by omega) (by omega))) (by rw [b5 68 (by decide) (by decide) (by decide) (by decide) (by decide)]; exact e7) (by rw [b5 68 (by decide) (by decide) (by decide) (by decide) (by decide)]; exact e8) (fun i o' hi ho' hd => by
        rw [b3, b4]
        unfold upd
        by_cases he : i = one ∧ o' = o
        · obtain ⟨rfl, rfl⟩ := he
          rw [if_pos rfl, if_pos rfl]; exact ⟨rfl, rfl⟩
        · rw [if_neg (by omega), if_neg (by omega)]
          exact hD i o' hi ho' (by omega))
      exact ⟨I1, fun r M' hc' => b1 r M' (c1 r M' hc'), c2, c3, fun a x1 x2 x3 x4 x5 => by rw [c4 a x1 x2 x3 x4 x5, b5 a x1 x2 x3 x4 x5]⟩
    have hgo : I 68 8 ≤ nI o → False := fun e => by
      rw [e8] at e
      exact absurd e (nI_ge (by omega) (by omega))
    by_cases hs0 : side = 0
    · obtain ⟨I1, c1, c2⟩ := key one o h1 (by omega) (by unfold asL; rw [if_pos hs0, hs0]) (by unfold akL; rw [if_pos hs0, hs0])
      have z : nI side = 0 := by rw [hs0]; rfl
      exact ⟨I1, fun r M' hc => wp_X10_learn_13 (k.1.k 68 10 (by decide) (by decide)) hT.2.1 ⟨fun e => (hgo e).elim, fun _ => ⟨fun e => absurd z e, fun _ => ⟨fun e => absurd z e, fun _ => c1 r M' hc⟩⟩⟩, c2⟩
    · have hs1 : side = 1 := by omega
      obtain ⟨I1, c1, c2⟩ := key o one (by omega) h1 (by unfold asL; rw [if_neg hs0, hs1]) (by unfold akL; rw [if_neg hs0, hs1])
      have z : ¬ nI side = 0 := nI_ne0 (by omega) (by omega)
      exact ⟨I1, fun r M' hc => wp_X10_learn_13 (k.1.k 68 10 (by decide) (by decide)) hT.2.1 ⟨fun e => (hgo e).elim, fun _ => ⟨fun _ => ⟨fun _ => c1 r M' hc, fun e => absurd e z⟩, fun e => absurd e z⟩⟩, c2⟩
theorem ln_2 {sc : Nat} {t : TX} (hok : TXok t) {n1 n2 side : Nat} (hn1 : n1 ≤ 6) (hn2 : n2 ≤ 6) (hs : side < 2) : ∀ (d one : Nat) (I : Nat → Nat → Int32), one + d = n1 → CL Z I w h S tx → TC Z I sc t → I 68 7 = nI n1 → I 68 8 = nI n2 → LD I S t side n2 one 0 →
    ∃ I1, Lp_X10_learn_2 g 5 68 (nI side) sc (nI one) (Z, I, L) none (Z, I1, L) ∧ CL Z I1 w h S tx ∧ LD I1 S t side n2 n1 0 ∧ ∀ a, a ≠ 13 → a ≠ 14 → a ≠ 15 → a ≠ 69 → a ≠ 70 → I1 a = I a := by
  intro d
  induction d with
  | zero =>
    intro one I ho cl hT e7 e8 hD
    obtain ⟨k, hW, -⟩ := id cl
    have ho : one = n1 := ho
    subst ho
    refine ⟨I, wp_X10_learn_2 (k.1.k 68 10 (by decide) (by decide)) hT.2.1 ⟨fun _ => ⟨rfl, rfl⟩, fun e => ?_⟩, cl, hD, fun _ _ _ _ _ _ => rfl⟩
    rw [e7] at e
    exact absurd (nI_le (Nat.le_refl _) (by omega)) e
  | succ d ih =>
    intro one I ho cl hT e7 e8 hD
    obtain ⟨k, hW, -⟩ := id cl
    obtain ⟨J, b1, b2, b3, b4⟩ := ln_13 (g := g) (L := L) hok (one := one) (n1 := n1) (by omega) hn2 hs n2 0 I (Nat.zero_add _) cl hT e7 e8 hD
    obtain ⟨I1, c1, c2, c3, c4⟩ := ih (one + 1) J (by omega) b2 (hT.kept (fun a x1 _ => b4 a (by omega) (by omega) (by omega) (by omega) (by omega))) (by rw [b4 68 (by decide) (by decide) (by decide) (by decide) (by decide)]; exact e7) (by rw [b4 68 (by decide) (by decide) (by decide) (by decide) (by decide)]; exact e8) b3
    refine ⟨I1, wp_X10_learn_2 (k.1.k 68 10 (by decide) (by decide)) hT.2.1 ⟨fun e => ?_, fun _ => b1 _ _ c1⟩, c2, c3, fun a x1 x2 x3 x4 x5 => by rw [c4 a x1 x2 x3 x4 x5, b4 a x1 x2 x3 x4 x5]⟩
    rw [e7] at e
    exact absurd e (nI_ge (by omega) (by omega))
end CWED
