/-! the class's chase(), hunt() -/
def mvF (w h : Nat) (S : Nat → List Nat) (tx : List TX) (a : Nat) : Nat → Nat → Nat := fun c tap => stepF w h (S 0) (ttF tx [a] 0) c tap % 200
def vCha (w h : Nat) (S : Nat → List Nat) (tx : List TX) (x1 x2 x3 x4 : Int32) : Prop := (∃ a, x1 = nI a ∧ a < tx.length) ∧ (∃ p, x2 = nI p ∧ isP w h S p) ∧ (∃ b, x3 = nI b ∧ b < tx.length) ∧ ∃ q, x4 = nI q ∧ isP w h S q
section CHASE
variable {g : GE} {Z : Zs} {I : Nat → Nat → Int32} {L : Nat → Nat → Int64} {w h : Nat} {S K : Nat → List Nat} {tx tk : List TX} {pa : Nat}
theorem tt_one {a : Nat} (ha : a < tx.length) : tx[a]? = some (ttF tx [a] 0) := by
  unfold ttF
  show tx[a]? = some ((tx[a]?).getD (none, none, none))
  rw [List.getElem?_eq_getElem ha]; rfl
/-- what stands behind turns() -/
def TNz (w h : Nat) (S : Nat → List Nat) (I : Nat → Nat → Int32) (pa : Nat) (f e : Nat → Nat → Nat) (p0 q0 : Nat) (r : Int32) : Prop := ∃ Q V C d, GIz (isP w h S) f e Q d V ∧ QMz I pa (4 * (w * h)) Q V C none ∧ ∀ t, r = nI t → t < 2 ^ 30 → (0, p0, q0) ∈ Q ∧ V (0, p0, q0) = t
theorem mv_P (hwh : wh w h) (hW : WF w h S tx) (a : Nat) : ∀ c tap, isP w h S c → isP w h S (mvF w h S tx a c tap) := fun _ _ hc => step_isP hwh hW hc
theorem sp_turns (cl : CL Z I w h S tx) (hE : PEz Z pa (4 * (w * h))) (hX : XF Z pa) (hI2 : I pa 2 = nI (4 * (w * h))) (hI3 : I pa 3 = nI (4 * (w * h) * (4 * (w * h)))) {a b p0 q0 : Nat} (ha : a < tx.length) (hb : b < tx.length) (hp0 : isP w h S p0) (hq0 : isP w h S q0) : ∃ r I1, Cl g 7 mu_X0_turns [rf g pa, .int (nI a), .int (nI p0), .int (nI b), .int (nI q0)] (Z, I, L) (some (.int r)) (Z, I1, L) ∧ CAz (mvF w h S tx a) (mvF w h S tx b) p0 q0 r ∧ TNz w h S I1 pa (mvF w h S tx a) (mvF w h S tx b) p0 q0 r ∧ CL Z I1 w h S tx ∧ (∀ a, ¬ nowA a → ¬ (pa ≤ a ∧ a ≤ pa + 6) → I1 a = I a) ∧ ∀ k, k ≠ 6 → I1 pa k = I pa k := by
  obtain ⟨k, hW, -⟩ := id cl
  have hwh := k.2.1
  have hm := hwh.mul
  obtain ⟨N, hN⟩ : ∃ N, N = 4 * (w * h) := ⟨_, rfl⟩
  have hNN : N * N ≤ 100 * 100 := Nat.mul_le_mul (by omega) (by omega)
  obtain ⟨e0, e1, e2, e3, ⟨a1, a2, a3⟩, ⟨b1, b2, b3⟩, ⟨c1, c2, c3⟩, ⟨d1, d2, d3⟩, ⟨f1, f2, f3⟩, ⟨g1, g2, g3⟩⟩ := id hE
  have npa : ¬ nowA pa := by unfold nowA; omega
  have nw : ∀ j, ¬ nowA (pa + j) := fun j => by unfold nowA; omega
  obtain ⟨J1, l1, l2, l3, l4⟩ := sp_link (g := g) (L := L) cl hE hX (Or.inl ⟨rfl, rfl⟩) (tt_one ha) hI2
  obtain ⟨J2, m1, m2, m3, m4⟩ := sp_link (g := g) (L := L) l2 hE hX (Or.inr ⟨rfl, rfl⟩) (tt_one hb) (by rw [l4 pa npa (by omega) (by omega)]; exact hI2)
  have p2 : J2 pa = I pa := by rw [m4 pa npa (by omega) (by omega), l4 pa npa (by omega) (by omega)]
  obtain ⟨J3, Q0, n1, n2, n3, n4, n5, n6⟩ := sp_begin (g := g) (L := L) (f := mvF w h S tx a) (e := mvF w h S tx b) hE hX m2 (by rw [p2]; exact hI2) (by rw [p2]; exact hI3)
  have lk1 : LKz J3 (pa + 3) (pa + 4) (4 * (w * h)) (tgF w h S (ttF tx [a] 0)) := (l3.kept (m4 _ (nw 3) (by omega) (by omega)) (m4 _ (nw 4) (by omega) (by omega))).kept (n5 _ (by omega) (by omega) (by omega)) (n5 _ (by omega) (by omega) (by omega))
  have lk2 : LKz J3 (pa + 5) (pa + 6) (4 * (w * h)) (tgF w h S (ttF tx [b] 0)) := m3.kept (n5 _ (by omega) (by omega) (by omega)) (n5 _ (by omega) (by omega) (by omega))
  have i2 : J3 pa 2 = nI (4 * (w * h)) := by rw [n6 2 (by decide), p2]; exact hI2
  have i3 : J3 pa 3 = nI (4 * (w * h) * (4 * (w * h))) := by rw [n6 3 (by decide), p2]; exact hI3
  have sums : ∀ t, sm (4 * (w * h)) (fun q => (sgF (tgF w h S t) (4 * (4 * (w * h))) q).length) ≤ 4 * (4 * (w * h)) := fun t => sg_sum _ (fun i q _ hq => (tg_lt hwh hW hq).1)
  obtain ⟨r, I1, Q1, V1, K1, h1, t1, t2, t3, t4, t5, t6, t7⟩ := tn_run (g := g) (L := L) (P := isP w h S) (f := mvF w h S tx a) (e := mvF w h S tx b) hE (by omega) (fun c hc => hc.1) (mv_P hwh hW a) (mv_P hwh hW b) (tg_ok hwh hW) (tg_ok hwh hW) (sums _) (sums _) hp0 hq0 (2 * (4 * (w * h) * (4 * (w * h)))) 0 J3 Q0 (fun _ => 0) (fun _ => 0) (Nat.zero_add _) lk1 lk2 i2 i3 n3 n4 (fun c q _ _ _ => by
    unfold TTz
    rw [c4_same (d := fun _ => false) (fun tap _ => decide_eq_false (fun z => by cases z))]; rfl)
  have cl4 : CL Z I1 w h S tx := n2.xa hE hX (fun a ha => t5 a (by omega) (by omega) (by omega))
  have hp1 := hp0.1
  have hq1 := hq0.1
  have l0 := ix_lt1 hp1 hq1
  have ei : ixT (4 * (w * h)) (0, p0, q0) = p0 * (4 * (w * h)) + q0 := by show 0 * (4 * (w * h) * (4 * (w * h))) + (p0 * (4 * (w * h)) + q0) = _; omega
  refine ⟨r, I1, cp_X0_turns e1 c1 c2 d1 d2 f1 f2 g1 g2 ⟨J1, L, l1, J2, L, m1, J3, L, n1, fun y hy => ?_⟩, t2, ⟨Q1, V1, K1, h1, t3, t4, t7⟩, cl4, fun a h1 h2 => by rw [t5 a (by omega) (by omega) (by omega), n5 a (by omega) (by omega) (by omega), m4 a h1 (by omega) (by omega), l4 a h1 (by omega) (by omega)], fun k hk => by rw [t6 k hk, n6 k hk, p2]⟩
  rw [i2, pk_mul, nI_add, ← ei] at hy
  rw [hy, i3]
  rw [← hN] at ei l0 t1 ⊢
  exact ⟨fun z => absurd z (nI_pos (by omega)), fun _ => ⟨fun _ => t1, fun z => absurd (nI_lt (by omega) (by omega)) z⟩⟩
theorem ft_run (hE : PEz Z pa (4 * (w * h))) (hX : XF Z pa) {a p0 q0 t : Nat} {e : Nat → Nat → Nat} (he : ∀ c tap, isP w h S c → isP w h S (e c tap)) (ha : a < tx.length) (hp0 : isP w h S p0) (hq0 : isP w h S q0) {Q : List TR} {V C : TR → Nat} {hd : Nat} (hG : GIz (isP w h S) (mvF w h S tx a) e Q hd V) (hm0 : (0, p0, q0) ∈ Q) (hv0 : V (0, p0, q0) = t + 1) (ht : t < 2 ^ 30) : ∀ (d tap : Nat) (I : Nat → Nat → Int32), tap + d = 4 → CL Z I w h S tx → I pa 2 = nI (4 * (w * h)) → I pa 3 = nI (4 * (w * h) * (4 * (w * h))) → QMz I pa (4 * (w * h)) Q V C none → (∀ o, o < tap → ¬ isV (mvF w h S tx a) e (1, mvF w h S tx a p0 o, q0) t) →
    ∃ r I1, Lp_X0_firstTap_3 g 6 pa (nI a) (nI p0) (nI q0) (nI (t + 1)) (nI tap) (Z, I, L) (some (.int r)) (Z, I1, L) ∧ HAz (mvF w h S tx a) e p0 q0 r ∧ CL Z I1 w h S tx ∧ ∀ a, ¬ nowA a → I1 a = I a := by
  obtain ⟨e0, e1, e2, e3, ⟨a1, a2, a3⟩, rest⟩ := id hE
  have isv0 := (hG.2.1 _ hm0).2.2.2
  rw [hv0] at isv0
  intro d
  induction d with
  | zero =>
    intro tap I htap cl hI2 hI3 hQ hno
    exfalso
    have htap : tap = 4 := htap
    subst htap
    rcases isv0.1 with hw | ⟨-, tap, h4, hw⟩ | ⟨hw, -⟩
    · exact isv0.2 t (by omega) hw
    · exact hno tap h4 ⟨hw, fun n hn hwn => isv0.2 (n + 1) (by omega) (Or.inr (Or.inl ⟨rfl, tap, h4, hwn⟩))⟩
    · exact hw rfl
  | succ d ih =>
    intro tap I htap cl hI2 hI3 hQ hno
    obtain ⟨k, hW, -⟩ := id cl
    have hwh := k.2.1
    have hm := hwh.mul
    have hNN : 4 * (w * h) * (4 * (w * h)) ≤ 100 * 100 := Nat.mul_le_mul (by omega) (by omega)
    have g4 : ¬ (4 : Int32) ≤ nI tap := fun z => absurd ((nI_leI (a := 4) (by decide) (by omega)).mp z) (by omega)
    obtain ⟨I2, s1, s2, s3⟩ := sp_step (g := g) (L := L) cl (tt_one ha) hp0.1 (show tap < 4 by omega)
    have hst := stepF_lt (K := S 0) (t := ttF tx [a] 0) (tap := tap) hwh hp0.1
    have po := sp_poseOf (g := g) (Z := Z) (I := I2) (L := L) (n := stepF w h (S 0) (ttF tx [a] 0) p0 tap) (by omega)
    have fo : ∀ q, ¬ nowA q → I2 q = I q := fun q hq => s3 q (by unfold nowA at hq; omega) (by unfold nowA at hq; omega) (by unfold nowA at hq; omega) (by unfold nowA at hq; omega)
    have npa : ∀ j, ¬ nowA (pa + j) := fun j => by unfold nowA; omega
    have hc1 : isP w h S (mvF w h S tx a p0 tap) := mv_P hwh hW a p0 tap hp0
    have ok1 : okT (4 * (w * h)) (1, mvF w h S tx a p0 tap, q0) := ⟨Nat.one_lt_two, hc1.1, hq0.1⟩
    have ix1 := ix_lt ok1
    have eIx : (I pa 3 + nI (stepF w h (S 0) (ttF tx [a] 0) p0 tap % 200) * I2 pa 2) + nI q0 = nI (ixT (4 * (w * h)) (1, mvF w h S tx a p0 tap, q0)) := by
      rw [fo pa (npa 0), hI2, hI3, pk_mul, nI_add, nI_add]
      congr 1
      show _ = 1 * (4 * (w * h) * (4 * (w * h))) + (mvF w h S tx a p0 tap * (4 * (w * h)) + q0)
      unfold mvF
      omega
    have hQ2 : QMz I2 pa (4 * (w * h)) Q V C none := by
      obtain ⟨q1, q2, q3, q4, q5⟩ := hQ
      exact ⟨by rw [fo pa (npa 0)]; exact q1, by rw [fo (pa + 2) (npa 2)]; exact q2, by rw [fo (pa + 1) (npa 1)]; exact q3, q4, q5⟩
    obtain ⟨qa, qb⟩ := hQ2.2.2.1 _ ok1 (fun z => by cases z)
    have et : nI (t + 1) - 1 = nI t := nI_pred t
    have wp := fun (R : Option Value) (M' : Mem) => @wp_X0_firstTap_3 g Z I L R M' pa (nI a) (nI p0) (nI q0) (nI (t + 1)) (nI tap) 66 (pa + 1) e1 e3 (k.1.k 66 3 (by decide) (by decide)) a1 a2
    by_cases hyes : isV (mvF w h S tx a) e (1, mvF w h S tx a p0 tap, q0) t
    · have hin : (1, mvF w h S tx a p0 tap, q0) ∈ Q := by
        by_cases hh : hd < Q.length
        · have hle : t ≤ V (Q.getD hd (0, 0, 0)) := by
            obtain ⟨i, hi, hi2⟩ := mem_idx hm0
            have := hG.2.2.2.1 i hi hh
            rw [hi2, hv0] at this
            omega
          exact hG.all (mv_P hwh hW a) he (hG.below hh) t 1 _ _ hle Nat.one_lt_two hc1 hq0 hyes.1
        · exact hG.all (mv_P hwh hW a) he (b := t) (fun s hs _ => by rw [List.take_of_length_le (by omega)]; exact hs) t 1 _ _ (Nat.le_refl _) Nat.one_lt_two hc1 hq0 hyes.1
      have hVt : V (1, mvF w h S tx a p0 tap, q0) = t := (hG.2.1 _ hin).2.2.2.uniq hyes
      have hL := qa hin
      rw [hVt] at hL
      refine ⟨nI tap, I2, wp _ _ ⟨fun z => absurd z g4, fun _ => ⟨_, I2, L, s1, _, po, fun y hy => ?_⟩⟩, Or.inl ⟨t, isv0, tap, by omega, rfl, hyes, hno⟩, s2, fo⟩
      rw [eIx] at hy
      rw [hy, a3, nI_clamp (by omega), hL, et]
      exact ⟨fun z => absurd z (nI_ge ix1 (by omega)), fun _ => ⟨vp_in_nI ix1 (by omega), fun z => absurd rfl z, fun _ => ⟨rfl, rfl⟩⟩⟩
    · obtain ⟨r, I1, r1, r2, r3, r4⟩ := ih (tap + 1) I2 (by omega) s2 (by rw [fo pa (npa 0)]; exact hI2) (by rw [fo pa (npa 0)]; exact hI3) hQ2 (fun o ho => by
        by_cases hot : o = tap
        · rw [hot]; exact hyes
        · exact hno o (by omega))
      refine ⟨r, I1, wp _ _ ⟨fun z => absurd z g4, fun _ => ⟨_, I2, L, s1, _, po, fun y hy => ?_⟩⟩, r2, r3, fun q hq => by rw [r4 q hq, fo q hq]⟩
      rw [eIx] at hy
      rw [hy, a3, nI_clamp (by omega), et]
      refine ⟨fun z => absurd z (nI_ge ix1 (by omega)), fun _ => ⟨vp_in_nI ix1 (by omega), fun _ y2 hy2 => by rw [hy2, nI_1]; exact r1, fun z => ?_⟩⟩
      exfalso
      by_cases hin : (1, mvF w h S tx a p0 tap, q0) ∈ Q
      · rw [qa hin] at z
        have hb : V (1, mvF w h S tx a p0 tap, q0) < 2 ^ 31 := by
          obtain ⟨i', hi1, hi2⟩ := mem_idx hin
          have := hG.2.2.2.2.2.2.2.2 i' hi1
          rw [hi2] at this
          have := hQ.len
          omega
        have := (nI_eq hb (by omega)).mp z
        have hv := (hG.2.1 _ hin).2.2.2
        rw [this] at hv
        exact hyes hv
      · obtain ⟨h3, hL⟩ := qb hin
        rw [hL] at z
        have cs : C (1, mvF w h S tx a p0 tap, q0) = 0 ∨ C (1, mvF w h S tx a p0 tap, q0) = 1 ∨ C (1, mvF w h S tx a p0 tap, q0) = 2 ∨ C (1, mvF w h S tx a p0 tap, q0) = 3 := by omega
        have hn : ¬ nI t < 0 := nI_pos (by omega)
        rw [← z] at hn
        rcases cs with y | y | y | y <;> rw [y] at hn <;> exact hn (by decide)
end CHASE
