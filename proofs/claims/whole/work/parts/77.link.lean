/-! the class's chase: pursuer(), link() -/
def tgF (w h : Nat) (S : Nat → List Nat) (t : TX) (e : Nat) : Option Nat := if pB w h S (e / 4) then some (stepF w h (S 0) t (e / 4) (e % 4) % 200) else none
/-- whence one comes to p, of the first e edges, the last first -/
def sgF (tg : Nat → Option Nat) : Nat → Nat → List Nat
  | 0, _ => []
  | e + 1, p => if tg e = some p then (e / 4) :: sgF tg e p else sgF tg e p
def ctL (q : Nat) : List Nat → Nat
  | [] => 0
  | a :: l => (if a = q then 1 else 0) + ctL q l
def c4F (b : Nat → Bool) : Nat := (if b 0 then 1 else 0) + (if b 1 then 1 else 0) + (if b 2 then 1 else 0) + (if b 3 then 1 else 0)
theorem sg_S (tg : Nat → Option Nat) (e p : Nat) : sgF tg (e + 1) p = if tg e = some p then (e / 4) :: sgF tg e p else sgF tg e p := rfl
theorem sg_le (tg : Nat → Option Nat) (p : Nat) : ∀ (d e : Nat), (sgF tg e p).length ≤ (sgF tg (e + d) p).length := by
  intro d
  induction d with
  | zero => intro e; exact Nat.le_refl _
  | succ d ih =>
    intro e
    refine Nat.le_trans (ih e) ?_
    rw [← Nat.add_assoc, sg_S]
    split
    · rw [List.length_cons]; omega
    · exact Nat.le_refl _
theorem sg_0 {tg : Nat → Option Nat} {N p : Nat} (hp : N ≤ p) : ∀ (e : Nat), (∀ i q, i < e → tg i = some q → q < N) → sgF tg e p = [] := by
  intro e
  induction e with
  | zero => intro _; rfl
  | succ e ih =>
    intro h
    rw [sg_S, if_neg (fun z => by have := h e p (by omega) z; omega)]
    exact ih (fun i q hi => h i q (by omega))
theorem sm_mono {f : Nat → Nat} : ∀ {a b : Nat}, a ≤ b → sm a f ≤ sm b f := by
  intro a b hab
  induction b with
  | zero => rw [show a = 0 by omega]; exact Nat.le_refl _
  | succ b ih =>
    by_cases he : a = b + 1
    · rw [he]; exact Nat.le_refl _
    · have := ih (by omega)
      show _ ≤ sm b f + f b
      omega
theorem sg_sum {tg : Nat → Option Nat} {N : Nat} : ∀ (e : Nat), (∀ i q, i < e → tg i = some q → q < N) → sm N (fun p => (sgF tg e p).length) ≤ e := by
  intro e
  induction e with
  | zero => intro _; show sm N (fun _ => 0) ≤ 0; rw [sm_zero]; exact Nat.le_refl _
  | succ e ih =>
    intro h
    have i1 := ih (fun i q hi => h i q (by omega))
    cases hq : tg e with
    | none =>
      have : sm N (fun p => (sgF tg (e + 1) p).length) = sm N (fun p => (sgF tg e p).length) := sm_same (fun p _ => by show (sgF tg (e + 1) p).length = _; rw [sg_S, hq, if_neg (fun z => by cases z)])
      omega
    | some q =>
      have hqN := h e q (by omega) hq
      have : sm N (fun p => (sgF tg (e + 1) p).length) = sm N (addF (fun p => (sgF tg e p).length) q 1) := sm_same (fun p _ => by
        show (sgF tg (e + 1) p).length = _
        rw [sg_S, hq]
        unfold addF
        by_cases he : p = q
        · rw [he, if_pos rfl, rw1_s, List.length_cons]
        · rw [if_neg (fun z => he (Option.some.inj z).symm), rw1_n _ _ he])
      rw [this, sm_add hqN]
      omega
theorem sg_ct (tg : Nat → Option Nat) (p q : Nat) : ∀ (m : Nat), ctL q (sgF tg (4 * m) p) = if q < m then c4F (fun tap => decide (tg (4 * q + tap) = some p)) else 0 := by
  intro m
  induction m with
  | zero => rfl
  | succ m ih =>
    have one : ∀ e, e / 4 = m → ctL q (sgF tg (e + 1) p) = (if m = q then (if decide (tg e = some p) then 1 else 0) else 0) + ctL q (sgF tg e p) := fun e he => by
      rw [sg_S]
      by_cases h1 : tg e = some p
      · rw [if_pos h1, decide_eq_true h1, he]
        show (if m = q then 1 else 0) + _ = _
        by_cases h2 : m = q
        · rw [if_pos h2, if_pos h2]; rfl
        · rw [if_neg h2, if_neg h2]
      · rw [if_neg h1, decide_eq_false h1]
        by_cases h2 : m = q
        · rw [if_pos h2]
          show _ = 0 + _
          omega
        · rw [if_neg h2]
          omega
    rw [show 4 * (m + 1) = 4 * m + 0 + 1 + 1 + 1 + 1 by omega, one _ (by omega), one _ (by omega), one _ (by omega), one _ (by omega), Nat.add_zero, ih]
    by_cases h2 : m = q
    · subst h2
      simp only [if_true, if_neg (Nat.lt_irrefl m), if_pos (Nat.lt_succ_self m)]
      show _ = (if decide (tg (4 * m + 0) = some p) then 1 else 0) + (if decide (tg (4 * m + 1) = some p) then 1 else 0) + (if decide (tg (4 * m + 2) = some p) then 1 else 0) + (if decide (tg (4 * m + 3) = some p) then 1 else 0)
      rw [show 4 * m + 1 + 1 = 4 * m + 2 by omega, show 4 * m + 2 + 1 = 4 * m + 3 by omega]
      simp only [Nat.add_zero, Nat.lt_irrefl, if_false]
      omega
    · rw [if_neg h2, if_neg h2, if_neg h2, if_neg h2]
      by_cases h3 : q < m
      · rw [if_pos h3, if_pos (by omega)]; omega
      · rw [if_neg h3, if_neg (by omega)]
section LINK
variable {g : GE} {Z : Zs} {I : Nat → Nat → Int32} {L : Nat → Nat → Int64} {w h : Nat} {S : Nat → List Nat} {tx : List TX}
theorem tg_lt {t : TX} (hwh : wh w h) (hW : WF w h S tx) {e q : Nat} (hq : tgF w h S t e = some q) : q < 4 * (w * h) ∧ isP w h S (e / 4) ∧ q = stepF w h (S 0) t (e / 4) (e % 4) % 200 := by
  unfold tgF at hq
  cases hb : pB w h S (e / 4) with
  | false => rw [hb] at hq; cases hq
  | true =>
    rw [hb] at hq
    have hp : isP w h S (e / 4) := by
      unfold pB at hb
      rw [Bool.and_eq_true, decide_eq_true_iff, Bool.not_eq_true', decide_eq_false_iff_not] at hb
      exact hb
    have : stepF w h (S 0) t (e / 4) (e % 4) % 200 = q := Option.some.inj hq
    exact ⟨by rw [← this]; exact (step_isP hwh hW hp).1, hp, this.symm⟩
/-- the class's cells stay while link() writes into A and B -/
theorem CL.xa {I1 : Nat → Nat → Int32} {pa N : Nat} (cl : CL Z I w h S tx) (hE : PEz Z pa N) (hX : XF Z pa) (hf : ∀ a, ¬ (pa ≤ a ∧ a ≤ pa + 6) → I1 a = I a) : CL Z I1 w h S tx := by
  obtain ⟨⟨k0, k1, k2, k3, k4, k5, k6, k7, k8⟩, hW, hm, hN, hK⟩ := cl
  have e0 := hE.1
  have e18 : I1 18 = I 18 := hf 18 (by omega)
  refine ⟨⟨k0, k1, by rw [e18]; exact k2, by rw [e18]; exact k3, k4, fun f hf2 => ?_, by rw [e18]; exact k6, k7, fun j t hj => ?_⟩, hW, hm.kept (by rw [hf 13 (by omega)]) (hf 15 (by omega)), hN, by rw [hf 67 (by omega)]; exact hK⟩
  · obtain ⟨b1, b2, b3⟩ := nA_in f hf2
    exact (k5 f hf2).kept (by rw [hf _ (by omega)]) (fun q _ => by rw [hf _ (by omega)])
  · obtain ⟨sc, h1, h2⟩ := k8 j t hj
    exact ⟨sc, h1, h2.xk (hE.no6 h2.2.1) (fun ar har => hX sc ar h2.2.1 har) (fun a _ ha => hf a ha)⟩
/-- the links of a habit: where each pose's part starts, and what it holds -/
def LKz (I : Nat → Nat → Int32) (A B N : Nat) (tg : Nat → Option Nat) : Prop := (∀ p, p ≤ N → I A p = nI (sm p (fun q => (sgF tg (4 * N) q).length))) ∧ ∀ p j, p < N → j < (sgF tg (4 * N) p).length → I B (sm p (fun q => (sgF tg (4 * N) q).length) + j) = nI ((sgF tg (4 * N) p).getD j 0)
theorem LKz.kept {I1 : Nat → Nat → Int32} {A B N : Nat} {tg : Nat → Option Nat} (k : LKz I A B N tg) (h1 : I1 A = I A) (h2 : I1 B = I B) : LKz I1 A B N tg := by
  unfold LKz at k ⊢
  rw [h1, h2]; exact k
variable {pa A B hb : Nat} {t : TX}
/-- counting -/
theorem lk_8 (hwh : wh w h) (hE : PEz Z pa (4 * (w * h))) (hX : XF Z pa) (hAB : (A = pa + 3 ∧ B = pa + 4) ∨ (A = pa + 5 ∧ B = pa + 6)) (htx : tx[hb]? = some t) : ∀ (d e : Nat) (I : Nat → Nat → Int32), e + d = 4 * (4 * (w * h)) → CL Z I w h S tx → I pa 2 = nI (4 * (w * h)) → (∀ p, p ≤ 4 * (w * h) → I A p = nI (sgF (tgF w h S t) e p).length) →
    ∃ I1, (∀ r M', Lp_X0_link_67 g 6 pa (nI hb) A B 1 (Z, I1, L) r M' → Lp_X0_link_8 g 6 pa (nI hb) A B (nI e) (Z, I, L) r M') ∧ CL Z I1 w h S tx ∧ (∀ p, p ≤ 4 * (w * h) → I1 A p = nI (sgF (tgF w h S t) (4 * (4 * (w * h))) p).length) ∧ ∀ a, ¬ nowA a → a ≠ A → I1 a = I a := by
  have hm := hwh.mul
  obtain ⟨e0, e1, e2, e3, ⟨a1, a2, a3⟩, ⟨b1, b2, b3⟩, ⟨c1, c2, c3⟩, ⟨d1, d2, d3⟩, ⟨f1, f2, f3⟩, ⟨g1, g2, g3⟩⟩ := id hE
  have kA : KM Z A 13 := by rcases hAB with ⟨rfl, rfl⟩ | ⟨rfl, rfl⟩; exact c2; exact f2
  have kB : KM Z B 13 := by rcases hAB with ⟨rfl, rfl⟩ | ⟨rfl, rfl⟩; exact d2; exact g2
  have nA' : Z.2.2.1 A = 4 * (w * h) + 1 := by rcases hAB with ⟨rfl, rfl⟩ | ⟨rfl, rfl⟩; exact c3; exact f3
  intro d
  induction d with
  | zero =>
    intro e I he cl hI2 hA
    have he : e = 4 * (4 * (w * h)) := he
    subst he
    refine ⟨I, fun r M' hc => wp_X0_link_8 e1 kA kB e2 (cl.1.1.k 18 8 (by decide) (by decide)) e3 (cl.1.1.k 66 3 (by decide) (by decide)) ⟨fun _ => hc, fun z => ?_⟩, cl, hA, fun _ _ _ => rfl⟩
    rw [hI2, show (4 : Int32) * nI (4 * (w * h)) = nI (4 * (4 * (w * h))) from pk_mul 4 _] at z
    exact absurd (nI_le (Nat.le_refl _) (by omega)) z
  | succ d ih =>
    intro e I he cl hI2 hA
    obtain ⟨k, hW, -⟩ := id cl
    have ge : ¬ (4 : Int32) * I pa 2 ≤ nI e := by
      rw [hI2, show (4 : Int32) * nI (4 * (w * h)) = nI (4 * (4 * (w * h))) from pk_mul 4 _]
      exact nI_ge (by omega) (by omega)
    have ed : nI e / 4 = nI (e / 4) := pk_div (d := 4) (by omega) (by decide) (by decide)
    have em : nI e - nI (e / 4) * 4 = nI (e % 4) := by
      have := pk_rem (a := e) (d := 4) (by omega) (by decide) (by decide)
      rw [← this]
      show nI e - nI (e / 4) * 4 = nI e - nI e / 4 * 4
      rw [ed]
    obtain ⟨bb, cb, hbb⟩ := sp_isPose (g := g) (L := L) k hW (nI (e / 4))
    have wp := fun (R : Option Value) (M' : Mem) => @wp_X0_link_8 g Z I L R M' pa (nI hb) A B (nI e) 18 66 e1 kA kB e2 (k.1.k 18 8 (by decide) (by decide)) e3 (k.1.k 66 3 (by decide) (by decide))
    by_cases hP : isP w h S (e / 4)
    · have hbt : bb = true := hbb.mpr ⟨_, rfl, hP⟩
      have tge : tgF w h S t e = some (stepF w h (S 0) t (e / 4) (e % 4) % 200) := by unfold tgF; rw [pB_t hP]; rfl
      obtain ⟨q, hq⟩ : ∃ q, q = stepF w h (S 0) t (e / 4) (e % 4) % 200 := ⟨_, rfl⟩
      rw [← hq] at tge
      have hqN : q < 4 * (w * h) := (tg_lt hwh hW tge).1
      have hst := stepF_lt (K := S 0) (t := t) (tap := e % 4) hwh hP.1
      obtain ⟨I2, s1, s2, s3⟩ := sp_step (g := g) (L := L) cl htx hP.1 (show e % 4 < 4 by omega)
      have po := sp_poseOf (g := g) (Z := Z) (I := I2) (L := L) (n := stepF w h (S 0) t (e / 4) (e % 4)) (by omega)
      have e2A : I2 A = I A := s3 A (by omega) (by omega) (by omega) (by omega)
      have e2p : I2 pa = I pa := s3 pa (by omega) (by omega) (by omega) (by omega)
      obtain ⟨J, hJ⟩ : ∃ J, J = rw1 I2 A (upd (I2 A) q (nI ((sgF (tgF w h S t) e q).length + 1))) := ⟨_, rfl⟩
      have clJ : CL Z J w h S tx := s2.xa hE hX (fun a ha => by rw [hJ, rw1_n _ _ (by omega)])
      obtain ⟨I1, t1, t2, t3, t4⟩ := ih (e + 1) J (by omega) clJ (by rw [hJ, rw1_n _ _ (by omega), e2p]; exact hI2) (fun p hp => by
        rw [hJ, rw1_s, sg_S, tge]
        by_cases hpq : p = q
        · rw [hpq, upd_s, if_pos rfl, List.length_cons]
        · rw [upd_n _ _ hpq, if_neg (fun z => hpq (Option.some.inj z).symm), e2A]; exact hA p hp)
      refine ⟨I1, fun r M' hc => wp r M' ⟨fun z => absurd z ge, fun _ => ?_⟩, t2, t3, fun a h1 h2 => by rw [t4 a h1 h2, hJ, rw1_n _ _ h2, s3 a (by unfold nowA at h1; omega) (by unfold nowA at h1; omega) (by unfold nowA at h1; omega) (by unfold nowA at h1; omega)]⟩
      rw [ed, em]
      refine ⟨_, cb, fun z => absurd z (b2i_1 hbt), fun _ => ⟨_, I2, L, s1, _, po, ?_⟩⟩
      rw [← hq, nI_clamp (by omega), e2A, hA q (by omega), nI_1, ← e2A]
      refine ⟨by rw [nA']; exact vp_in_nI (by omega) (by omega), by rw [nA']; exact vp_in_nI (by omega) (by omega), fun I12 h12 y hy => ?_⟩
      rw [← hJ] at h12
      rw [h12, hy, nI_1]
      exact t1 r M' hc
    · have hbf : bb = false := by
        cases hx : bb with
        | false => rfl
        | true =>
          obtain ⟨p, hp1, hp2⟩ := hbb.mp hx
          have := (nI_eq (by omega) (by have := hp2.1; omega)).mp hp1
          rw [← this] at hp2
          exact absurd hp2 hP
      have tge : tgF w h S t e = none := by unfold tgF; rw [pB_f hP]; rfl
      obtain ⟨I1, t1, t2, t3, t4⟩ := ih (e + 1) I (by omega) cl hI2 (fun p hp => by rw [sg_S, tge, if_neg (fun z => by cases z)]; exact hA p hp)
      refine ⟨I1, fun r M' hc => wp r M' ⟨fun z => absurd z ge, fun _ => ?_⟩, t2, t3, t4⟩
      rw [ed]
      refine ⟨_, cb, fun _ y hy => ?_, fun z => absurd (by rw [hbf]; rfl) z⟩
      rw [hy, nI_1]
      exact t1 r M' hc
/-- the parts' ends -/
theorem lk_67 (hwh : wh w h) (hE : PEz Z pa (4 * (w * h))) (hAB : (A = pa + 3 ∧ B = pa + 4) ∨ (A = pa + 5 ∧ B = pa + 6)) {x1 : Int32} {lc : Nat → Nat} : ∀ (d j : Nat) (I : Nat → Nat → Int32), j + d = 4 * (w * h) + 1 → 1 ≤ j → I pa 2 = nI (4 * (w * h)) → (∀ p, p ≤ 4 * (w * h) → I A p = nI (if p < j then sm (p + 1) lc else lc p)) →
    ∃ I1, (∀ r M', Lp_X0_link_98 g 6 pa x1 A B 0 (Z, I1, L) r M' → Lp_X0_link_67 g 6 pa x1 A B (nI j) (Z, I, L) r M') ∧ (∀ p, p ≤ 4 * (w * h) → I1 A p = nI (sm (p + 1) lc)) ∧ ∀ a, a ≠ A → I1 a = I a := by
  have hm := hwh.mul
  obtain ⟨e0, e1, e2, e3, ⟨a1, a2, a3⟩, ⟨b1, b2, b3⟩, ⟨c1, c2, c3⟩, ⟨d1, d2, d3⟩, ⟨f1, f2, f3⟩, ⟨g1, g2, g3⟩⟩ := id hE
  have kA : KM Z A 13 := by rcases hAB with ⟨rfl, rfl⟩ | ⟨rfl, rfl⟩; exact c2; exact f2
  have kB : KM Z B 13 := by rcases hAB with ⟨rfl, rfl⟩ | ⟨rfl, rfl⟩; exact d2; exact g2
  have nA' : Z.2.2.1 A = 4 * (w * h) + 1 := by rcases hAB with ⟨rfl, rfl⟩ | ⟨rfl, rfl⟩; exact c3; exact f3
  intro d
  induction d with
  | zero =>
    intro j I hj h1 hI2 hA
    have hj : j = 4 * (w * h) + 1 := hj
    subst hj
    refine ⟨I, fun r M' hc => wp_X0_link_67 e1 kA kB ⟨fun _ => hc, fun z => ?_⟩, fun p hp => by rw [hA p hp, if_pos (by omega)], fun _ _ => rfl⟩
    rw [hI2] at z
    exact absurd (nI_lt (Nat.lt_succ_self _) (by omega)) z
  | succ d ih =>
    intro j I hj h1 hI2 hA
    have es : nI j - 1 = nI (j - 1) := pk_sub (b := 1) (by omega)
    have s1 : sm j lc + lc j = sm (j + 1) lc := rfl
    obtain ⟨J, hJ⟩ : ∃ J, J = rw1 I A (upd (I A) j (nI (sm (j + 1) lc))) := ⟨_, rfl⟩
    obtain ⟨I1, t1, t2, t3⟩ := ih (j + 1) J (by omega) (by omega) (by rw [hJ, rw1_n _ _ (by omega)]; exact hI2) (fun p hp => by
      rw [hJ, rw1_s]
      by_cases he : p = j
      · rw [he, upd_s, if_pos (by omega)]
      · rw [upd_n _ _ he, hA p hp]
        by_cases hpj : p < j
        · rw [if_pos hpj, if_pos (by omega)]
        · rw [if_neg hpj, if_neg (by omega)])
    refine ⟨I1, fun r M' hc => wp_X0_link_67 e1 kA kB ⟨fun z => ?_, fun _ => ?_⟩, t2, fun a ha => by rw [t3 a ha, hJ, rw1_n _ _ ha]⟩
    · rw [hI2] at z
      have := (nI_ltI (by omega) (by omega)).mp z
      omega
    · rw [es, nI_clamp (by omega), nI_clamp (by omega), hA j (by omega), if_neg (by omega), hA (j - 1) (by omega), if_pos (by omega), show j - 1 + 1 = j by omega, nI_add, show lc j + sm j lc = sm (j + 1) lc by omega, nA']
      refine ⟨vp_in_nI (by omega) (by omega), vp_in_nI (by omega) (by omega), vp_in_nI (by omega) (by omega), fun I4 h4 y hy => ?_⟩
      rw [← hJ] at h4
      rw [h4, hy, nI_1]
      exact t1 r M' hc
end LINK
