/-! the class's chase: link(), whole -/
section LINK2
variable {g : GE} {Z : Zs} {I : Nat → Nat → Int32} {L : Nat → Nat → Int64} {w h : Nat} {S : Nat → List Nat} {tx : List TX} {pa A B hb : Nat} {t : TX}
/-- filling the parts backwards -/
theorem lk_98 (hwh : wh w h) (hE : PEz Z pa (4 * (w * h))) (hX : XF Z pa) (hAB : (A = pa + 3 ∧ B = pa + 4) ∨ (A = pa + 5 ∧ B = pa + 6)) (htx : tx[hb]? = some t) {lc : Nat → Nat} (hlc : ∀ p, lc p = (sgF (tgF w h S t) (4 * (4 * (w * h))) p).length) (hsum : sm (4 * (w * h)) lc ≤ 4 * (4 * (w * h))) : ∀ (d e : Nat) (I : Nat → Nat → Int32), e + d = 4 * (4 * (w * h)) → CL Z I w h S tx → I pa 2 = nI (4 * (w * h)) → (∀ p, p ≤ 4 * (w * h) → I A p = nI (sm (p + 1) lc - (sgF (tgF w h S t) e p).length)) → (∀ p j, p < 4 * (w * h) → j < (sgF (tgF w h S t) e p).length → I B (sm (p + 1) lc - (sgF (tgF w h S t) e p).length + j) = nI ((sgF (tgF w h S t) e p).getD j 0)) →
    ∃ I1, Lp_X0_link_98 g 6 pa (nI hb) A B (nI e) (Z, I, L) none (Z, I1, L) ∧ CL Z I1 w h S tx ∧ LKz I1 A B (4 * (w * h)) (tgF w h S t) ∧ ∀ a, ¬ nowA a → a ≠ A → a ≠ B → I1 a = I a := by
  have hm := hwh.mul
  obtain ⟨e0, e1, e2, e3, ⟨a1, a2, a3⟩, ⟨b1, b2, b3⟩, ⟨c1, c2, c3⟩, ⟨d1, d2, d3⟩, ⟨f1, f2, f3⟩, ⟨g1, g2, g3⟩⟩ := id hE
  have kA : KM Z A 13 := by rcases hAB with ⟨rfl, rfl⟩ | ⟨rfl, rfl⟩; exact c2; exact f2
  have kB : KM Z B 13 := by rcases hAB with ⟨rfl, rfl⟩ | ⟨rfl, rfl⟩; exact d2; exact g2
  have nA' : Z.2.2.1 A = 4 * (w * h) + 1 := by rcases hAB with ⟨rfl, rfl⟩ | ⟨rfl, rfl⟩; exact c3; exact f3
  have nB' : Z.2.2.1 B = 4 * (4 * (w * h)) := by rcases hAB with ⟨rfl, rfl⟩ | ⟨rfl, rfl⟩; exact d3; exact g3
  have sS : ∀ p, sm (p + 1) lc = sm p lc + lc p := fun _ => rfl
  have lle : ∀ e p, e ≤ 4 * (4 * (w * h)) → (sgF (tgF w h S t) e p).length ≤ lc p := fun e p he => by
    rw [hlc p]
    have := sg_le (tgF w h S t) p (4 * (4 * (w * h)) - e) e
    rw [show e + (4 * (4 * (w * h)) - e) = 4 * (4 * (w * h)) by omega] at this
    exact this
  intro d
  induction d with
  | zero =>
    intro e I he cl hI2 hA hB
    have he : e = 4 * (4 * (w * h)) := he
    subst he
    have elc : (fun q => (sgF (tgF w h S t) (4 * (4 * (w * h))) q).length) = lc := funext (fun q => (hlc q).symm)
    refine ⟨I, wp_X0_link_98 e1 kA kB e2 (cl.1.1.k 18 8 (by decide) (by decide)) e3 (cl.1.1.k 66 3 (by decide) (by decide)) ⟨fun _ => ⟨rfl, rfl⟩, fun z => ?_⟩, cl, ⟨fun p hp => ?_, fun p j hp hj => ?_⟩, fun _ _ _ _ => rfl⟩
    · rw [hI2, show (4 : Int32) * nI (4 * (w * h)) = nI (4 * (4 * (w * h))) from pk_mul 4 _] at z
      exact absurd (nI_le (Nat.le_refl _) (by omega)) z
    · rw [elc, hA p hp, ← hlc p, sS, Nat.add_sub_cancel]
    · rw [elc]
      have := hB p j hp hj
      rw [← hlc p, sS, Nat.add_sub_cancel] at this
      exact this
  | succ d ih =>
    intro e I he cl hI2 hA hB
    obtain ⟨k, hW, -⟩ := id cl
    have ge : ¬ (4 : Int32) * I pa 2 ≤ nI e := by
      rw [hI2, show (4 : Int32) * nI (4 * (w * h)) = nI (4 * (4 * (w * h))) from pk_mul 4 _]
      exact nI_ge (by omega) (by omega)
    have ed : nI e / 4 = nI (e / 4) := pk_div (d := 4) (by omega) (by decide) (by decide)
    have em : nI e - nI (e / 4) * 4 = nI (e % 4) := by
      have := pk_rem (a := e) (d := 4) (by omega) (by decide) (by decide)
      rw [← this]
      show nI e - nI (e / 4) * 4 = nI e - nI e / 4 * 4
      rw [ed]
    obtain ⟨bb, cb, hbb⟩ := sp_isPose (g := g) (L := L) k hW (nI (e / 4))
    have wp := fun (R : Option Value) (M' : Mem) => @wp_X0_link_98 g Z I L R M' pa (nI hb) A B (nI e) 18 66 e1 kA kB e2 (k.1.k 18 8 (by decide) (by decide)) e3 (k.1.k 66 3 (by decide) (by decide))
    by_cases hP : isP w h S (e / 4)
    · have hbt : bb = true := hbb.mpr ⟨_, rfl, hP⟩
      have tge : tgF w h S t e = some (stepF w h (S 0) t (e / 4) (e % 4) % 200) := by unfold tgF; rw [pB_t hP]; rfl
      obtain ⟨q, hq⟩ : ∃ q, q = stepF w h (S 0) t (e / 4) (e % 4) % 200 := ⟨_, rfl⟩
      rw [← hq] at tge
      have hqN : q < 4 * (w * h) := (tg_lt hwh hW tge).1
      have hst := stepF_lt (K := S 0) (t := t) (tap := e % 4) hwh hP.1
      obtain ⟨I2, s1, s2, s3⟩ := sp_step (g := g) (L := L) cl htx hP.1 (show e % 4 < 4 by omega)
      have po := sp_poseOf (g := g) (Z := Z) (I := I2) (L := L) (n := stepF w h (S 0) t (e / 4) (e % 4)) (by omega)
      have e2A : I2 A = I A := s3 A (by omega) (by omega) (by omega) (by omega)
      have e2B : I2 B = I B := s3 B (by omega) (by omega) (by omega) (by omega)
      have e2p : I2 pa = I pa := s3 pa (by omega) (by omega) (by omega) (by omega)
      have sgq : sgF (tgF w h S t) (e + 1) q = (e / 4) :: sgF (tgF w h S t) e q := by rw [sg_S, tge, if_pos rfl]
      have sgo : ∀ p, p ≠ q → sgF (tgF w h S t) (e + 1) p = sgF (tgF w h S t) e p := fun p hp => by rw [sg_S, tge, if_neg (fun z => hp (Option.some.inj z).symm)]
      have l1 := lle (e + 1) q (by omega)
      rw [sgq, List.length_cons] at l1
      have sq := sS q
      obtain ⟨x, hx⟩ : ∃ x, x + 1 = sm (q + 1) lc - (sgF (tgF w h S t) e q).length := ⟨sm (q + 1) lc - (sgF (tgF w h S t) e q).length - 1, by omega⟩
      have hxq : sm q lc ≤ x ∧ x < sm (q + 1) lc := by omega
      have sqN : sm (q + 1) lc ≤ sm (4 * (w * h)) lc := sm_mono (by omega)
      obtain ⟨J1, q1⟩ : ∃ J, J = rw1 I2 A (upd (I2 A) q (nI x)) := ⟨_, rfl⟩
      obtain ⟨J2, q2⟩ : ∃ J, J = rw1 J1 B (upd (J1 B) x (nI (e / 4))) := ⟨_, rfl⟩
      have jA : J2 A = upd (I A) q (nI x) := by rw [q2, rw1_n _ _ (by omega), q1, rw1_s, e2A]
      have jB : J2 B = upd (I B) x (nI (e / 4)) := by rw [q2, rw1_s, q1, rw1_n _ _ (by omega), e2B]
      have jO : ∀ a, a ≠ A → a ≠ B → J2 a = I2 a := fun a h1 h2 => by rw [q2, rw1_n _ _ h2, q1, rw1_n _ _ h1]
      have clJ : CL Z J2 w h S tx := s2.xa hE hX (fun a ha => jO a (by omega) (by omega))
      obtain ⟨I1, t1, t2, t3, t4⟩ := ih (e + 1) J2 (by omega) clJ (by rw [jO pa (by omega) (by omega), e2p]; exact hI2) (fun p hp => by
        rw [jA]
        by_cases hpq : p = q
        · rw [hpq, upd_s, sgq, List.length_cons]
          congr 1
          omega
        · rw [upd_n _ _ hpq, sgo p hpq]; exact hA p hp) (fun p j hp hj => by
        rw [jB]
        by_cases hpq : p = q
        · subst hpq
          rw [sgq, List.length_cons] at hj ⊢
          rw [show sm (p + 1) lc - ((sgF (tgF w h S t) e p).length + 1) + j = x + j by omega]
          cases j with
          | zero => rw [Nat.add_zero, upd_s]; rfl
          | succ j =>
            rw [upd_n _ _ (by omega)]
            have := hB p j hp (by omega)
            rw [show sm (p + 1) lc - (sgF (tgF w h S t) e p).length + j = x + (j + 1) by omega] at this
            rw [this]; rfl
        · rw [sgo p hpq] at hj ⊢
          have l2 := lle e p (by omega)
          have sp := sS p
          have : sm (p + 1) lc - (sgF (tgF w h S t) e p).length + j ≠ x := by
            rcases Nat.lt_or_ge p q with hlt | hge
            · have : sm (p + 1) lc ≤ sm q lc := sm_mono (by omega)
              omega
            · have : sm (q + 1) lc ≤ sm p lc := sm_mono (by omega)
              omega
          rw [upd_n _ _ this]
          exact hB p j hp hj)
      refine ⟨I1, wp _ _ ⟨fun z => absurd z ge, fun _ => ?_⟩, t2, t3, fun a h1 h2 h3 => by rw [t4 a h1 h2 h3, jO a h2 h3, s3 a (by unfold nowA at h1; omega) (by unfold nowA at h1; omega) (by unfold nowA at h1; omega) (by unfold nowA at h1; omega)]⟩
      rw [ed, em]
      refine ⟨_, cb, fun z => absurd z (b2i_1 hbt), fun _ => ⟨_, I2, L, s1, _, po, ?_⟩⟩
      rw [← hq, nI_clamp (by omega), e2A, hA q (by omega), ← hx, nI_pred, ← e2A]
      refine ⟨by rw [nA']; exact vp_in_nI (by omega) (by omega), by rw [nA']; exact vp_in_nI (by omega) (by omega), fun I12 h12 => ?_⟩
      rw [← q1] at h12
      have e12 : I12 A q = nI x := by rw [h12, q1, rw1_s, upd_s]
      rw [e12, nI_clamp (by omega)]
      refine ⟨by rw [nA']; exact vp_in_nI (by omega) (by omega), by rw [nB']; exact vp_in_nI (by omega) (by omega), fun I15 h15 y hy => ?_⟩
      rw [h12, ← q2] at h15
      rw [h15, hy, nI_1]
      exact t1
    · have hbf : bb = false := by
        cases hx : bb with
        | false => rfl
        | true =>
          obtain ⟨p, hp1, hp2⟩ := hbb.mp hx
          have := (nI_eq (by omega) (by have := hp2.1; omega)).mp hp1
          rw [← this] at hp2
          exact absurd hp2 hP
      have tge : tgF w h S t e = none := by unfold tgF; rw [pB_f hP]; rfl
      have sgo : ∀ p, sgF (tgF w h S t) (e + 1) p = sgF (tgF w h S t) e p := fun p => by rw [sg_S, tge, if_neg (fun z => by cases z)]
      obtain ⟨I1, t1, t2, t3, t4⟩ := ih (e + 1) I (by omega) cl hI2 (fun p hp => by rw [sgo p]; exact hA p hp) (fun p j hp hj => by rw [sgo p] at hj ⊢; exact hB p j hp hj)
      refine ⟨I1, wp _ _ ⟨fun z => absurd z ge, fun _ => ?_⟩, t2, t3, t4⟩
      rw [ed]
      refine ⟨_, cb, fun _ y hy => ?_, fun z => absurd (by rw [hbf]; rfl) z⟩
      rw [hy, nI_1]
      exact t1
theorem sp_link (cl : CL Z I w h S tx) (hE : PEz Z pa (4 * (w * h))) (hX : XF Z pa) (hAB : (A = pa + 3 ∧ B = pa + 4) ∨ (A = pa + 5 ∧ B = pa + 6)) (htx : tx[hb]? = some t) (hI2 : I pa 2 = nI (4 * (w * h))) : ∃ I1, Cl g 6 mu_X0_link [rf g pa, .int (nI hb), rf g A, rf g B] (Z, I, L) none (Z, I1, L) ∧ CL Z I1 w h S tx ∧ LKz I1 A B (4 * (w * h)) (tgF w h S t) ∧ ∀ a, ¬ nowA a → a ≠ A → a ≠ B → I1 a = I a := by
  obtain ⟨k, hW, -⟩ := id cl
  have hwh := k.2.1
  have hm := hwh.mul
  obtain ⟨e0, e1, e2, e3, ⟨a1, a2, a3⟩, ⟨b1, b2, b3⟩, ⟨c1, c2, c3⟩, ⟨d1, d2, d3⟩, ⟨f1, f2, f3⟩, ⟨g1, g2, g3⟩⟩ := id hE
  have kA : KM Z A 13 := by rcases hAB with ⟨rfl, rfl⟩ | ⟨rfl, rfl⟩; exact c2; exact f2
  have kB : KM Z B 13 := by rcases hAB with ⟨rfl, rfl⟩ | ⟨rfl, rfl⟩; exact d2; exact g2
  have nA' : Z.2.2.1 A = 4 * (w * h) + 1 := by rcases hAB with ⟨rfl, rfl⟩ | ⟨rfl, rfl⟩; exact c3; exact f3
  have fl := sp_fill (g := g) (I := I) (L := L) (v := 0) kA nA' (by omega)
  obtain ⟨J0, q0⟩ : ∃ J, J = rw1 I A (fun q => if q < 4 * (w * h) + 1 then 0 else I A q) := ⟨_, rfl⟩
  rw [← q0] at fl
  have o0 : ∀ a, a ≠ A → J0 a = I a := fun a ha => by rw [q0, rw1_n _ _ ha]
  have cl0 : CL Z J0 w h S tx := cl.xa hE hX (fun a ha => o0 a (by omega))
  obtain ⟨lc, hlc⟩ : ∃ lc : Nat → Nat, ∀ p, lc p = (sgF (tgF w h S t) (4 * (4 * (w * h))) p).length := ⟨_, fun _ => rfl⟩
  obtain ⟨J1, t1, t2, t3, t4⟩ := lk_8 (g := g) (L := L) hwh hE hX hAB htx (4 * (4 * (w * h))) 0 J0 (Nat.zero_add _) cl0 (by rw [o0 pa (by omega)]; exact hI2) (fun p hp => by rw [q0, rw1_s, if_pos (by omega)]; rfl)
  have npa : ¬ nowA pa := by unfold nowA; omega
  obtain ⟨J2, u1, u2, u3⟩ := lk_67 (g := g) (Z := Z) (L := L) (x1 := nI hb) (lc := lc) hwh hE hAB (4 * (w * h)) 1 J1 (by omega) (Nat.le_refl _) (by rw [t4 pa npa (by omega), o0 pa (by omega)]; exact hI2) (fun p hp => by
    rw [t3 p hp, ← hlc p]
    by_cases h1 : p < 1
    · rw [if_pos h1, show p = 0 by omega]
      show nI (lc 0) = nI (0 + lc 0)
      rw [Nat.zero_add]
    · rw [if_neg h1])
  have cl2 : CL Z J2 w h S tx := t2.xa hE hX (fun a ha => u3 a (by omega))
  have hsum : sm (4 * (w * h)) lc ≤ 4 * (4 * (w * h)) := by
    rw [sm_same (B := fun p => (sgF (tgF w h S t) (4 * (4 * (w * h))) p).length) (fun i _ => hlc i)]
    exact sg_sum _ (fun i q _ hq => (tg_lt hwh hW hq).1)
  obtain ⟨I1, v1, v2, v3, v4⟩ := lk_98 (g := g) (L := L) hwh hE hX hAB htx hlc hsum (4 * (4 * (w * h))) 0 J2 (Nat.zero_add _) cl2 (by rw [u3 pa (by omega), t4 pa npa (by omega), o0 pa (by omega)]; exact hI2) (fun p hp => u2 p hp) (fun p j _ hj => absurd hj (by show ¬ j < 0; omega))
  exact ⟨I1, cp_X0_link e1 kA kB ⟨J0, L, fl, t1 _ _ (u1 _ _ v1)⟩, v2, v3, fun a h1 h2 h3 => by rw [v4 a h1 h2 h3, u3 a h2, t4 a h1 h2, o0 a h2]⟩
end LINK2
