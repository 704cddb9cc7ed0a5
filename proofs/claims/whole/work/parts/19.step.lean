/-! Legs.workOut and Legs.step -/
def cl4 (x : Int32) : Nat := if x < 0 then 0 else if 4 < x then 4 else x.toNatClampNeg
theorem cl4_eq (x : Int32) : (if 0 < (if x < 4 then x else 4) then (if x < 4 then x else 4) else 0) = nI (cl4 x) ∧ cl4 x ≤ 4 := by
  unfold cl4
  by_cases h0 : x < 0
  · rw [if_pos (show x < 4 from Int32.lt_trans h0 (by decide)), if_neg (fun e => Int32.lt_irrefl (Int32.lt_trans e h0)), if_pos h0]
    exact ⟨rfl, by decide⟩
  · obtain ⟨j, hj, rfl⟩ := nI_of h0
    rw [if_neg h0, nI_clamp hj]
    by_cases h4 : j < 4
    · rw [if_pos (show nI j < 4 from (nI_ltI (b := 4) hj (by decide)).mpr h4)]
      rw [if_neg (show ¬ 4 < nI j from fun e => absurd ((nI_ltI (a := 4) (by decide) hj).mp e) (by omega))]
      by_cases hz : 0 < j
      · rw [if_pos (show 0 < nI j from (nI_ltI (a := 0) (by decide) hj).mpr hz)]; exact ⟨rfl, by omega⟩
      · rw [if_neg (show ¬ 0 < nI j from fun e => hz ((nI_ltI (a := 0) (by decide) hj).mp e))]
        have : j = 0 := by omega
        subst this
        exact ⟨rfl, by decide⟩
    · rw [if_neg (show ¬ nI j < 4 from fun e => h4 ((nI_ltI (b := 4) hj (by decide)).mp e)), if_pos (show (0 : Int32) < 4 by decide)]
      by_cases h5 : 4 < j
      · rw [if_pos (show 4 < nI j from (nI_ltI (a := 4) (by decide) hj).mpr h5)]; exact ⟨rfl, by decide⟩
      · rw [if_neg (show ¬ 4 < nI j from fun e => h5 ((nI_ltI (a := 4) (by decide) hj).mp e))]
        have : j = 4 := by omega
        subst this
        exact ⟨rfl, by decide⟩
/-- the cache of steps -/
def KC (Z : Zs) (I : Nat → Nat → Int32) (w h : Nat) (S : Nat → List Nat) (tx : List TX) : Prop := Z.2.2.1 67 = 64 * (w * h) ∧ ∀ hb p tap, hb < 4 → p < 4 * (w * h) → tap < 4 → I 67 ((hb * (4 * (w * h)) + p) * 4 + tap) = -1 ∨ ∃ t, tx[hb]? = some t ∧ I 67 ((hb * (4 * (w * h)) + p) * 4 + tap) = nI (stepF w h (S 0) t p tap)
/-- the class, ready for steps -/
def CL (Z : Zs) (I : Nat → Nat → Int32) (w h : Nat) (S : Nat → List Nat) (tx : List TX) : Prop := CS Z I w h S tx ∧ WF w h S tx ∧ MQ0 Z I ∧ KC Z I w h S tx
theorem stepF_lt {w h p tap : Nat} {K : List Nat} {t : TX} (k : wh w h) (hp : p < 4 * (w * h)) : stepF w h K t p tap < 600 := by
  have hm := k.mul
  unfold stepF
  split
  · omega
  unfold deedF turnF
  split
  · split
    · omega
    · cases ha : ahd w h p with
      | none => simp; omega
      | some c => have := ahd_lt k.1 k.2.2.1 hp ha; simp; omega
  split
  · omega
  split
  · omega
  split
  · omega
  · omega
section STEP
variable {g : GE} {Z : Zs} {I : Nat → Nat → Int32} {L : Nat → Nat → Int64} {w h : Nat} {S : Nat → List Nat} {tx : List TX}
theorem sp_scriptOf (k : CS Z I w h S tx) {hb : Nat} {t : TX} (ht : tx[hb]? = some t) : ∃ sc, Cl g 1 mu_X8_scriptOf [rf g 18, .int (nI hb)] (Z, I, L) (some (rv g (some sc))) (Z, I, L) ∧ TC Z I sc t := by
  obtain ⟨sc, h1, h2⟩ := k.2.2.2.2.2.2.2.2 hb t ht
  have hl := (List.getElem?_eq_some_iff.mp ht).1
  have h4 := k.2.2.2.2.2.2.2.1
  have hN := k.1.n 39 4 (by decide)
  refine ⟨sc, cp_X8_scriptOf (k.1.k 18 8 (by decide) (by decide)) (k.1.r 18 13 39 (by decide)) (k.1.k 39 16 (by decide) (by decide)) ?_, h2⟩
  rw [k.2.2.2.2.2.2.1, hN, nI_clamp (by omega), h1]
  refine ⟨fun e => absurd e (nI_pos (by omega)), fun _ => ⟨fun e => absurd e (nI_ge hl (by omega)), fun _ => ⟨fun e => absurd e (nI_ge (by omega) (by decide)), fun _ => ⟨vp_in_nI (by omega) (by decide), fun e => (by cases e), fun b hb => ?_⟩⟩⟩⟩
  obtain rfl := Option.some.inj hb
  exact ⟨h2.2.1, rfl, rfl⟩
theorem wo_126 (k : wh w h) {p : Nat} (hp : p < 4 * (w * h)) (x : Int32) : Lp_X3_workOut_126 g 4 (nI p) (oI (ahd w h p)) (nI (kah w h (S 0) p)) x (Z, I, L) (some (.int (nI (deedF w h p (kah w h (S 0) p) (cl4 x))))) (Z, I, L) ∨ ¬ kah w h (S 0) p < 100 := by
  by_cases hka : kah w h (S 0) p < 100
  · left
    have hm := k.mul
    refine wp_X3_workOut_126 ?_
    obtain ⟨e1, e2⟩ := cl4_eq x
    rw [e1]
    obtain ⟨c, hc⟩ : ∃ c, cl4 x = c := ⟨_, rfl⟩
    rw [hc] at e2 ⊢
    have er : nI p - nI p / 4 * 4 = nI (p % 4) := pk_rem (d := 4) (by omega) (by decide) (by decide)
    have ne : ∀ j : Nat, j < 10 → c ≠ j → ¬ nI c = nI j := fun j hj h e => h ((nI_eq (by omega) (by omega)).mp e)
    have cs : c = 0 ∨ c = 1 ∨ c = 2 ∨ c = 3 ∨ c = 4 := by omega
    rcases cs with rfl | rfl | rfl | rfl | rfl
    · exact ⟨fun _ => ⟨rfl, rfl⟩, fun e => absurd e (by decide), fun e => absurd e (by decide), fun e => absurd e (by decide), fun e => absurd e (by decide)⟩
    · refine ⟨fun e => absurd e (by decide), fun _ => ⟨fun e => ⟨?_, rfl⟩, fun e => ⟨?_, rfl⟩⟩, fun e => absurd e (by decide), fun e => absurd e (by decide), fun e => absurd e (by decide)⟩
      · have hk1 : ¬ kah w h (S 0) p = 1 := fun z => e (by rw [z]; rfl)
        unfold deedF
        rw [if_pos rfl, if_neg hk1]
        cases ha : ahd w h p with
        | none => exact absurd (by unfold kah; rw [ha]) hk1
        | some c =>
          rw [er, show (4 : Int32) * oI (some c) = nI (4 * c) from pk_mul 4 c, nI_add]; rfl
      · have hk1 : kah w h (S 0) p = 1 := (nI_eq (b := 1) (by omega) (by decide)).mp e
        unfold deedF
        rw [if_pos rfl, if_pos hk1, show nI p + 200 = nI (p + 200) from nI_add p 200]
    · exact ⟨fun e => absurd e (by decide), fun e => absurd e (by decide), fun _ => ⟨_, sp_turned (q := 3) (by omega) (by decide), rfl, rfl⟩, fun e => absurd e (by decide), fun e => absurd e (by decide)⟩
    · exact ⟨fun e => absurd e (by decide), fun e => absurd e (by decide), fun e => absurd e (by decide), fun _ => ⟨_, sp_turned (q := 1) (by omega) (by decide), rfl, rfl⟩, fun e => absurd e (by decide)⟩
    · exact ⟨fun e => absurd e (by decide), fun e => absurd e (by decide), fun e => absurd e (by decide), fun e => absurd e (by decide), fun _ => ⟨_, sp_turned (q := 2) (by omega) (by decide), rfl, rfl⟩⟩
  · exact Or.inr hka
theorem kah_le {p : Nat} (hW : WF w h S tx) : kah w h (S 0) p ≤ 3 := by
  unfold kah
  cases ahd w h p with
  | none => exact (by decide : (1 : Nat) ≤ 3)
  | some c => exact getD_le hW.2.1 c
/-- a clause is worth what its text says -/
theorem cr_val {J : Nat → Nat → Int32} {ar : Nat} {ords : List Nat} {start : Int32} {f : EF} {env : Nat → Int32} (hS : Sh Z) (hm : MS Z J 13 14 15 []) (har : 99 ≤ ar) (hA : OA Z J ar ords) (hc : CR ords start (some f)) (henv : ∀ j, j < 11 → J 14 j = env j) : ¬ start = -1 ∧ ∃ J1, Cl g 3 mu_X4_value [rf g 13, rf g ar, .int start] (Z, J, L) (some (.int (f env))) (Z, J1, L) ∧ MS Z J1 13 14 15 [] ∧ ∀ a, a ≠ 13 → a ≠ 15 → J1 a = J a := by
  obtain ⟨p, hp, rfl, hc⟩ := hc
  obtain ⟨n, e, h1, h2, h3⟩ := hc env
  have hb := hA.2.2.1
  exact ⟨nI_ne_m1 (by omega), sp_value (by omega) h2 h3 h1 hA hm henv⟩
theorem wo_91 {J : Nat → Nat → Int32} {sc p tap : Nat} {t : TX} (hS : Sh Z) (k : wh w h) (hp : p < 4 * (w * h)) (htap : tap < 4) (hW : WF w h S tx) (hok : TXok t) (hm : MS Z J 13 14 15 []) (hT : TC Z J sc t) (henv : ∀ j, j < 6 → J 14 j = envS w (S 0) p tap (kah w h (S 0) p) j) :
    ∃ J1, Lp_X3_workOut_91 g 4 66 (nI p) (nI tap) sc (oI (ahd w h p)) (nI (kah w h (S 0) p)) (Z, J, L) (some (.int (nI (deedF w h p (kah w h (S 0) p) (wishF t (envS w (S 0) p tap (kah w h (S 0) p)) tap))))) (Z, J1, L) ∧ MS Z J1 13 14 15 [] ∧ ∀ a, a ≠ 13 → a ≠ 15 → J1 a = J a := by
  obtain ⟨t1, t2, ar, ords, t3, t4, t5, t6, t7, t8⟩ := hT
  have hka := kah_le (p := p) hW
  cases hd : t.1 with
  | none =>
    rw [hd] at t6
    have e0 : J sc 1 = -1 := t6
    refine ⟨J, wp_X3_workOut_91 (hS.k 66 3 (by decide) (by decide)) t2 (hS.r 66 1 13 (by decide)) (hS.k 13 4 (by decide) (by decide)) t4 t5.1 ⟨fun e => absurd e0 e, fun _ => ⟨_, sp_plainDeed htap, ?_⟩⟩, hm, fun _ _ _ => rfl⟩
    rcases wo_126 (g := g) (Z := Z) (I := J) (L := L) (S := S) k hp (nI (if tap = 3 then 0 else tap + 1)) with q | q
    · have e1 : cl4 (nI (if tap = 3 then 0 else tap + 1)) = wishF t (envS w (S 0) p tap (kah w h (S 0) p)) tap := by
        unfold wishF
        rw [hd]
        show cl4 (nI (if tap = 3 then 0 else tap + 1)) = (if tap = 3 then 0 else tap + 1)
        have cs : tap = 0 ∨ tap = 1 ∨ tap = 2 ∨ tap = 3 := by omega
        rcases cs with rfl | rfl | rfl | rfl <;> decide
      rw [e1] at q
      exact q
    · omega
  | some f =>
    rw [hd] at t6
    obtain ⟨c1, J1, c2, c3, c4⟩ := cr_val (g := g) (L := L) (env := fun j => J 14 j) hS hm t3 t5 t6 (fun _ _ => rfl)
    have ef : f (fun j => J 14 j) = f (envS w (S 0) p tap (kah w h (S 0) p)) := hok.1 f hd _ _ henv
    rw [ef] at c2
    refine ⟨J1, wp_X3_workOut_91 (hS.k 66 3 (by decide) (by decide)) t2 (hS.r 66 1 13 (by decide)) (hS.k 13 4 (by decide) (by decide)) t4 t5.1 ⟨fun _ => ⟨_, J1, L, c2, ?_⟩, fun e => absurd e c1⟩, c3, c4⟩
    rcases wo_126 (g := g) (Z := Z) (I := J1) (L := L) (S := S) k hp (f (envS w (S 0) p tap (kah w h (S 0) p))) with q | q
    · have e1 : cl4 (f (envS w (S 0) p tap (kah w h (S 0) p))) = wishF t (envS w (S 0) p tap (kah w h (S 0) p)) tap := by
        unfold wishF cl4
        rw [hd]
      rw [e1] at q
      exact q
    · omega
theorem sp_workOut (k : CS Z I w h S tx) (hW : WF w h S tx) (hm : MQ0 Z I) {hb p tap : Nat} {t : TX} (ht : tx[hb]? = some t) (hp : p < 4 * (w * h)) (htap : tap < 4) : ∃ I1, Cl g 4 mu_X3_workOut [rf g 66, .int (nI hb), .int (nI p), .int (nI tap)] (Z, I, L) (some (.int (nI (stepF w h (S 0) t p tap)))) (Z, I1, L) ∧ MQ0 Z I1 ∧ ∀ a, a ≠ 13 → a ≠ 14 → a ≠ 15 → I1 a = I a := by
  have hm2 := k.2.1.mul
  obtain ⟨sc, s1, s2⟩ := sp_scriptOf (g := g) (L := L) k ht
  have hok : TXok t := hW.2.2.2.2.2.2.2.2.2.2.2.2.2.2.2.2 hb t ht
  obtain ⟨J, j1, j2, j3⟩ := sp_lookAround (g := g) (L := L) (tap := tap) (ka := kah w h (S 0) p) k hm hp
  have hmJ : MS Z J 13 14 15 [] := hm.kept (by rw [j3 13 (by decide)]) (j3 15 (by decide))
  have hTJ : TC Z J sc t := s2.kept (fun a h1 _ => j3 a (by omega))
  obtain ⟨t1, t2, ar, ords, t3, t4, t5, t6, t7, t8⟩ := id hTJ
  -- the frame from 48 on
  have main : ∃ I1, Lp_X3_workOut_48 g 4 66 (nI p) (nI tap) sc (oI (ahd w h p)) (nI (kah w h (S 0) p)) (Z, I, L) (some (.int (nI (stepF w h (S 0) t p tap)))) (Z, I1, L) ∧ MQ0 Z I1 ∧ ∀ a, a ≠ 13 → a ≠ 14 → a ≠ 15 → I1 a = I a := by
    cases hfe : t.2.1 with
    | none =>
      have e0 : J sc 2 = -1 := by rw [hfe] at t7; exact t7
      obtain ⟨J1, q1, q2, q3⟩ := wo_91 (g := g) (L := L) k.1 k.2.1 hp htap hW hok hmJ hTJ j2
      have ef : fearF t (envS w (S 0) p tap (kah w h (S 0) p)) = false := by unfold fearF; rw [hfe]
      refine ⟨J1, wp_X3_workOut_48 (k.1.k 66 3 (by decide) (by decide)) t2 (k.1.r 66 1 13 (by decide)) (k.1.k 13 4 (by decide) (by decide)) t4 t5.1 ⟨J, L, j1, fun _ => ?_, fun e => absurd e0 e⟩, q2, fun a h1 h2 h3 => (q3 a h1 h3).trans (j3 a h2)⟩
      unfold stepF
      rw [ef]
      exact q1
    | some b =>
      rw [hfe] at t7
      obtain ⟨c1, J1, c2, c3, c4⟩ := cr_val (g := g) (L := L) (env := fun j => J 14 j) k.1 hmJ t3 t5 t7 (fun _ _ => rfl)
      have eb : b (fun j => J 14 j) = b (envS w (S 0) p tap (kah w h (S 0) p)) := hok.2.1 b hfe _ _ j2
      replace c2 : Cl g 3 mu_X4_value [rf g 13, rf g ar, .int (J sc 2)] (Z, J, L) (some (.int (b2i (b (fun j => J 14 j))))) (Z, J1, L) := c2
      rw [eb] at c2
      have ef : fearF t (envS w (S 0) p tap (kah w h (S 0) p)) = b (envS w (S 0) p tap (kah w h (S 0) p)) := by unfold fearF; rw [hfe]
      cases hv : b (envS w (S 0) p tap (kah w h (S 0) p)) with
      | true =>
        rw [hv] at c2
        refine ⟨J1, wp_X3_workOut_48 (k.1.k 66 3 (by decide) (by decide)) t2 (k.1.r 66 1 13 (by decide)) (k.1.k 13 4 (by decide) (by decide)) t4 t5.1 ⟨J, L, j1, fun e => absurd e c1, fun _ => ⟨_, J1, L, c2, fun e => absurd e (by decide), fun _ => ⟨?_, rfl⟩⟩⟩, c3, fun a h1 h2 h3 => (c4 a h1 h3).trans (j3 a h2)⟩
        unfold stepF
        rw [ef, hv, if_pos rfl, show nI p + 400 = nI (p + 400) from nI_add p 400]
      | false =>
        rw [hv] at c2
        obtain ⟨J2, q1, q2, q3⟩ := wo_91 (g := g) (L := L) k.1 k.2.1 hp htap hW hok c3 (hTJ.kept (fun a h1 _ => c4 a (by omega) (by omega))) (fun j hj => by rw [c4 14 (by decide) (by decide)]; exact j2 j hj)
        refine ⟨J2, wp_X3_workOut_48 (k.1.k 66 3 (by decide) (by decide)) t2 (k.1.r 66 1 13 (by decide)) (k.1.k 13 4 (by decide) (by decide)) t4 t5.1 ⟨J, L, j1, fun e => absurd e c1, fun _ => ⟨_, J1, L, c2, fun _ => ?_, fun e => absurd rfl e⟩⟩, q2, fun a h1 h2 h3 => (q3 a h1 h3).trans ((c4 a h1 h3).trans (j3 a h2))⟩
        unfold stepF
        rw [ef, hv]
        exact q1
  obtain ⟨I1, m1, m2, m3⟩ := main
  refine ⟨I1, cp_X3_workOut (k.1.k 66 3 (by decide) (by decide)) (k.1.r 66 0 18 (by decide)) (k.1.k 18 8 (by decide) (by decide)) (k.1.r 18 2 40 (by decide)) (k.1.k 40 2 (by decide) (by decide)) ⟨_, s1, fun e => (by cases e), fun b3 hb3 => ?_⟩, m2, m3⟩
  obtain rfl := Option.some.inj hb3
  refine ⟨t2, _, sp_cellAhead k hp, ?_⟩
  cases ha : ahd w h p with
  | none =>
    refine ⟨fun e => absurd rfl e, fun _ => ?_⟩
    have e1 : kah w h (S 0) p = 1 := by unfold kah; rw [ha]
    rw [ha, e1] at m1
    exact m1
  | some c =>
    have hcl := ahd_lt k.2.1.1 k.2.1.2.2.1 hp ha
    have e1 : kah w h (S 0) p = (S 0).getD c 0 := by unfold kah; rw [ha]
    refine ⟨fun _ => ⟨_, sp_at (k.il 0 (by decide)) _, ?_⟩, fun e => absurd e (nI_ne_m1 (by omega))⟩
    rw [show atL (S 0) (oI (some c)) = nI ((S 0).getD c 0) from atL_n _ (by omega), ← e1]
    rw [ha] at m1
    exact m1
/-- a step, and what it leaves -/
theorem sp_step (c : CL Z I w h S tx) {hb p tap : Nat} {t : TX} (ht : tx[hb]? = some t) (hp : p < 4 * (w * h)) (htap : tap < 4) : ∃ I1, Cl g 5 mu_X3_step [rf g 66, .int (nI hb), .int (nI p), .int (nI tap)] (Z, I, L) (some (.int (nI (stepF w h (S 0) t p tap)))) (Z, I1, L) ∧ CL Z I1 w h S tx ∧ ∀ a, a ≠ 13 → a ≠ 14 → a ≠ 15 → a ≠ 67 → I1 a = I a := by
  obtain ⟨k, hW, hm, hKN, hK⟩ := c
  have hm2 := k.2.1.mul
  have hl := (List.getElem?_eq_some_iff.mp ht).1
  have hx4 := k.2.2.2.2.2.2.2.1
  have hst := stepF_lt (K := S 0) (t := t) (tap := tap) k.2.1 hp
  obtain ⟨q, hq⟩ : ∃ q, q = (hb * (4 * (w * h)) + p) * 4 + tap := ⟨_, rfl⟩
  have hql : q < 64 * (w * h) := by
    have h1 : hb * (4 * (w * h)) ≤ 3 * (4 * (w * h)) := Nat.mul_le_mul_right _ (by omega)
    omega
  have eq3 : (((nI hb * nI (4 * (w * h))) + nI p) * 4) + nI tap = nI q := by
    rw [pk_mul, nI_add, show nI (hb * (4 * (w * h)) + p) * 4 = nI ((hb * (4 * (w * h)) + p) * 4) from pk_mul _ 4, nI_add, hq]
  have k66 := k.1.k 66 3 (by decide) (by decide)
  have k67 := k.1.k 67 13 (by decide) (by decide)
  have fin : ∀ v : Int32, I 67 q = v → (¬ v = -1 → v = nI (stepF w h (S 0) t p tap)) → ∃ I1, Cl g 5 mu_X3_step [rf g 66, .int (nI hb), .int (nI p), .int (nI tap)] (Z, I, L) (some (.int (nI (stepF w h (S 0) t p tap)))) (Z, I1, L) ∧ CL Z I1 w h S tx ∧ ∀ a, a ≠ 13 → a ≠ 14 → a ≠ 15 → a ≠ 67 → I1 a = I a := by
    intro v hv hvs
    by_cases hv1 : v = -1
    · obtain ⟨J, j1, j2, j3⟩ := sp_workOut (g := g) (L := L) k hW hm ht hp htap
      refine ⟨rw1 J 67 (upd (J 67) q (nI (stepF w h (S 0) t p tap))), cp_X3_step k66 (k.1.r 66 0 18 (by decide)) (k.1.k 18 8 (by decide) (by decide)) (k.1.r 66 2 67 (by decide)) k67 ⟨_, sp_posesInAll k, fun y3 hy3 => ?_⟩, ⟨?_, hW, ?_, hKN, fun hb' p' tap' h1 h2 h3 => ?_⟩, fun a h1 h2 h3 h4 => ?_⟩
      · rw [eq3] at hy3
        subst hy3
        rw [hKN, nI_clamp (by omega), hv]
        refine ⟨fun e => absurd e (nI_pos (by omega)), fun _ => ⟨fun _ => ⟨vp_in_nI hql (by omega), fun e => absurd hv1 e, fun _ => ⟨_, J, L, j1, vp_in_nI hql (by omega), fun I11 hI11 => ⟨vp_in_nI hql (by omega), ?_, by rw [hI11]⟩⟩⟩, fun e => absurd (nI_lt hql (by omega)) e⟩⟩
        rw [hI11, rw1_s]
        simp [upd]
      · refine k.kept (fun a ha => ?_)
        rw [rw1_n _ _ (by rcases ha with ha | ha; (unfold stA at ha; omega); omega)]
        exact j3 a (by rcases ha with ha | ha; (unfold stA at ha; omega); omega) (by rcases ha with ha | ha; (unfold stA at ha; omega); omega) (by rcases ha with ha | ha; (unfold stA at ha; omega); omega)
      · exact j2.kept (by rw [rw1_n _ _ (by decide)]) (rw1_n _ _ (by decide))
      · rw [rw1_s]
        unfold upd
        by_cases hqq : (hb' * (4 * (w * h)) + p') * 4 + tap' = q
        · rw [if_pos hqq]
          right
          -- the place tells the three
          have e1 : tap' = tap := by omega
          have e2 : hb' * (4 * (w * h)) + p' = hb * (4 * (w * h)) + p := by omega
          have e3 : hb' = hb := by
            have a1 : (hb' * (4 * (w * h)) + p') / (4 * (w * h)) = hb' := by
              rw [Nat.mul_comm, Nat.mul_add_div (by omega), Nat.div_eq_of_lt h2, Nat.add_zero]
            have a2 : (hb * (4 * (w * h)) + p) / (4 * (w * h)) = hb := by
              rw [Nat.mul_comm, Nat.mul_add_div (by omega), Nat.div_eq_of_lt hp, Nat.add_zero]
            rw [← a1, ← a2, e2]
          subst e3
          have e4 : p' = p := by omega
          subst e4
          subst e1
          exact ⟨t, ht, rfl⟩
        · rw [if_neg hqq, j3 67 (by decide) (by decide) (by decide)]
          exact hK hb' p' tap' h1 h2 h3
      · rw [rw1_n _ _ h4]; exact j3 a h1 h2 h3
    · have hvv := hvs hv1
      refine ⟨I, cp_X3_step k66 (k.1.r 66 0 18 (by decide)) (k.1.k 18 8 (by decide) (by decide)) (k.1.r 66 2 67 (by decide)) k67 ⟨_, sp_posesInAll k, fun y3 hy3 => ?_⟩, ⟨k, hW, hm, hKN, hK⟩, fun _ _ _ _ _ => rfl⟩
      rw [eq3] at hy3
      subst hy3
      rw [hKN, nI_clamp (by omega), hv]
      exact ⟨fun e => absurd e (nI_pos (by omega)), fun _ => ⟨fun _ => ⟨vp_in_nI hql (by omega), fun _ => ⟨vp_in_nI hql (by omega), by rw [hvv], rfl⟩, fun e => absurd e hv1⟩, fun e => absurd (nI_lt hql (by omega)) e⟩⟩
  rcases hK hb p tap (by omega) hp htap with h1 | ⟨t', h1, h2⟩
  · rw [← hq] at h1
    exact fin (-1) h1 (fun e => absurd rfl e)
  · rw [← hq] at h2
    rw [ht] at h1
    obtain rfl := Option.some.inj h1
    exact fin _ h2 (fun _ => rfl)
end STEP
