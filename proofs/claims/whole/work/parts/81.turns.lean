/-! the class's chase: begin(), turns() -/
def BGz (P : Nat → Prop) (c hd : Nat) (Q : List TR) : Prop := (∀ s : TR, s ∈ Q ↔ s.1 < 2 ∧ P s.2.1 ∧ s.2.2 / 4 = s.2.1 / 4 ∧ (s.2.1 < c ∨ (s.2.1 = c ∧ s.2.2 % 4 < hd))) ∧ ∀ i j, i < j → j < Q.length → Q.getD i (0, 0, 0) ≠ Q.getD j (0, 0, 0)
theorem nd_app {Q : List TR} {s : TR} (hn : s ∉ Q) (h : ∀ i j, i < j → j < Q.length → Q.getD i (0, 0, 0) ≠ Q.getD j (0, 0, 0)) : ∀ i j, i < j → j < (Q ++ [s]).length → (Q ++ [s]).getD i (0, 0, 0) ≠ (Q ++ [s]).getD j (0, 0, 0) := fun i j hij hj => by
  rw [List.length_append, List.length_singleton] at hj
  rw [getD_app, if_pos (by omega), getD_app]
  by_cases h2 : j < Q.length
  · rw [if_pos h2]; exact h i j hij h2
  · rw [if_neg h2, if_pos (by omega)]
    intro z
    exact hn (by rw [← z]; exact getD_mem (by omega))
theorem isP4 {w h : Nat} {S : Nat → List Nat} {c hd : Nat} (hp : isP w h S c) (hh : hd < 4) : isP w h S (c / 4 * 4 + hd) := by
  obtain ⟨h1, h2⟩ := hp
  refine ⟨by omega, ?_⟩
  rw [show (c / 4 * 4 + hd) / 4 = c / 4 by omega]
  exact h2
theorem tg_ok {w h : Nat} {S : Nat → List Nat} {tx : List TX} {t : TX} (hwh : wh w h) (hW : WF w h S tx) : TGz (isP w h S) (fun c tap => stepF w h (S 0) t c tap % 200) (tgF w h S t) := by
  refine ⟨fun i q hq => ⟨(tg_lt hwh hW hq).2.1, (tg_lt hwh hW hq).2.2⟩, fun c tap hc ht => ?_⟩
  unfold tgF
  rw [show (4 * c + tap) / 4 = c by omega, show (4 * c + tap) % 4 = tap by omega, pB_t hc]; rfl
section TURNS
variable {g : GE} {Z : Zs} {I : Nat → Nat → Int32} {L : Nat → Nat → Int64} {w h : Nat} {S : Nat → List Nat} {tx : List TX} {pa : Nat} {f e : Nat → Nat → Nat}
theorem bg_26 (hE : PEz Z pa (4 * (w * h))) (hX : XF Z pa) {c : Nat} (hcN : c < 4 * (w * h)) : ∀ (d hd : Nat) (I : Nat → Nat → Int32) (Q : List TR), hd + d = 4 → CL Z I w h S tx → I pa 2 = nI (4 * (w * h)) → I pa 3 = nI (4 * (w * h) * (4 * (w * h))) → BGz (isP w h S) c hd Q → QMz I pa (4 * (w * h)) Q (fun _ => 0) (fun _ => 0) none →
    ∃ I1 Q1, (∀ r M', Lp_X0_begin_16 g 3 pa (nI (c + 1)) (Z, I1, L) r M' → Lp_X0_begin_26 g 3 pa (nI c) (nI hd) (Z, I, L) r M') ∧ CL Z I1 w h S tx ∧ BGz (isP w h S) (c + 1) 0 Q1 ∧ QMz I1 pa (4 * (w * h)) Q1 (fun _ => 0) (fun _ => 0) none ∧ (∀ a, a ≠ pa → a ≠ pa + 1 → a ≠ pa + 2 → I1 a = I a) ∧ ∀ k, k ≠ 6 → I1 pa k = I pa k := by
  obtain ⟨e0, e1, e2, e3, rest⟩ := id hE
  intro d
  induction d with
  | zero =>
    intro hd I Q hhd cl hI2 hI3 hB hQ
    have hhd : hd = 4 := hhd
    subst hhd
    refine ⟨I, Q, fun r M' hc => wp_X0_begin_26 e1 e2 (cl.1.1.k 18 8 (by decide) (by decide)) ⟨fun _ y hy => by rw [hy, nI_1]; exact hc, fun z => absurd (nI_le (Nat.le_refl 4) (by decide)) z⟩, cl, ⟨fun s => ?_, hB.2⟩, hQ, fun _ _ _ _ => rfl, fun _ _ => rfl⟩
    rw [hB.1 s]
    refine ⟨fun ⟨a1, a2, a3, a4⟩ => ⟨a1, a2, a3, by omega⟩, fun ⟨a1, a2, a3, a4⟩ => ⟨a1, a2, a3, by omega⟩⟩
  | succ d ih =>
    intro hd I Q hhd cl hI2 hI3 hB hQ
    obtain ⟨k, hW, -⟩ := id cl
    have hm := k.2.1.mul
    have hNN : 4 * (w * h) * (4 * (w * h)) ≤ 100 * 100 := Nat.mul_le_mul (by omega) (by omega)
    have g4 : ¬ (4 : Int32) ≤ nI hd := fun z => absurd ((nI_leI (a := 4) (by decide) (by omega)).mp z) (by omega)
    obtain ⟨bb, cb, hbb⟩ := sp_isPose (g := g) (L := L) k hW (nI c)
    by_cases hP : isP w h S c
    · have hbt : bb = true := hbb.mpr ⟨_, rfl, hP⟩
      obtain ⟨q, hq⟩ : ∃ q, q = c / 4 * 4 + hd := ⟨_, rfl⟩
      have hPq : isP w h S q := by rw [hq]; exact isP4 hP (by omega)
      have hq4 : q / 4 = c / 4 := by omega
      have hqm : q % 4 = hd := by omega
      have ok0 : okT (4 * (w * h)) (0, c, q) := ⟨Nat.zero_lt_two, hcN, hPq.1⟩
      have ok1 : okT (4 * (w * h)) (1, c, q) := ⟨Nat.one_lt_two, hcN, hPq.1⟩
      have n0 : (0, c, q) ∉ Q := fun z => by
        obtain ⟨-, -, -, z4⟩ := (hB.1 _).mp z
        have z4 : c < c ∨ (c = c ∧ q % 4 < hd) := z4
        omega
      have n1 : (1, c, q) ∉ Q ++ [((0 : Nat), c, q)] := fun z => by
        rcases List.mem_append.mp z with z | z
        · obtain ⟨-, -, -, z4⟩ := (hB.1 _).mp z
          have z4 : c < c ∨ (c = c ∧ q % 4 < hd) := z4
          omega
        · have := List.mem_singleton.mp z
          cases this
      have eV : ∀ (s u : TR), (fun _ : TR => 0) u = if u = s then 0 else (fun _ : TR => 0) u := fun s u => by split <;> rfl
      obtain ⟨J1, s1, s2, s3, s4⟩ := sp_settle (g := g) (L := L) (v := 0) hE (by omega) ok0 n0 (Or.inl rfl) hQ (eV (0, c, q))
      obtain ⟨J2, t1, t2, t3, t4⟩ := sp_settle (g := g) (L := L) (v := 0) hE (by omega) ok1 n1 (Or.inl rfl) s2 (eV (1, c, q))
      have clJ : CL Z J2 w h S tx := cl.xa hE hX (fun a ha => by rw [t3 a (by omega) (by omega) (by omega), s3 a (by omega) (by omega) (by omega)])
      have hB2 : BGz (isP w h S) c (hd + 1) (Q ++ [((0 : Nat), c, q)] ++ [((1 : Nat), c, q)]) := by
        refine ⟨fun s => ?_, nd_app n1 (nd_app n0 hB.2)⟩
        rw [List.mem_append, List.mem_append, List.mem_singleton, List.mem_singleton, hB.1 s]
        constructor
        · rintro ((⟨a1, a2, a3, a4⟩ | z) | z)
          · exact ⟨a1, a2, a3, by omega⟩
          · rw [z]; exact ⟨Nat.zero_lt_two, hP, hq4, Or.inr ⟨rfl, by show q % 4 < hd + 1; omega⟩⟩
          · rw [z]; exact ⟨Nat.one_lt_two, hP, hq4, Or.inr ⟨rfl, by show q % 4 < hd + 1; omega⟩⟩
        · rintro ⟨a1, a2, a3, a4⟩
          by_cases hx : s.2.1 < c ∨ (s.2.1 = c ∧ s.2.2 % 4 < hd)
          · exact Or.inl (Or.inl ⟨a1, a2, a3, hx⟩)
          · have y1 : s.2.1 = c := by omega
            have y2 : s.2.2 = q := by rw [y1] at a3; omega
            obtain ⟨s0, s1', s2'⟩ := s
            have y1 : s1' = c := y1
            have y2 : s2' = q := y2
            have a1 : s0 < 2 := a1
            subst y1
            subst y2
            have cs : s0 = 0 ∨ s0 = 1 := by omega
            rcases cs with rfl | rfl
            · exact Or.inl (Or.inr rfl)
            · exact Or.inr rfl
      obtain ⟨I1, Q1, r1, r2, r3, r4, r5, r6⟩ := ih (hd + 1) J2 _ (by omega) clJ (by rw [t4 2 (by decide), s4 2 (by decide)]; exact hI2) (by rw [t4 3 (by decide), s4 3 (by decide)]; exact hI3) hB2 t2
      refine ⟨I1, Q1, fun r M' hc => wp_X0_begin_26 e1 e2 (k.1.k 18 8 (by decide) (by decide)) ⟨fun z => absurd z g4, fun _ => ⟨_, cb, fun z => absurd z (b2i_1 hbt), fun _ y5 hy5 => ⟨J1, L, ?_, J2, L, ?_, fun y hy => by rw [hy, nI_1]; exact r1 r M' hc⟩⟩⟩, r2, r3, r4, fun a h1 h2 h3 => by rw [r5 a h1 h2 h3, t3 a h1 h2 h3, s3 a h1 h2 h3], fun k hk => by rw [r6 k hk, t4 k hk, s4 k hk]⟩
      · have : y5 = nI (ixT (4 * (w * h)) (0, c, q)) := by
          rw [hy5, hI2, pk_mul, show nI c / 4 = nI (c / 4) from pk_div (d := 4) (by omega) (by decide) (by decide), show nI (c / 4) * (4 : Int32) = nI (c / 4 * 4) from pk_mul _ 4, nI_add, nI_add]
          congr 1
          show _ = 0 * (4 * (w * h) * (4 * (w * h))) + (c * (4 * (w * h)) + q)
          omega
        rw [this]; exact s1
      · have : J1 pa 3 + y5 = nI (ixT (4 * (w * h)) (1, c, q)) := by
          rw [s4 3 (by decide), hI3, hy5, hI2, pk_mul, show nI c / 4 = nI (c / 4) from pk_div (d := 4) (by omega) (by decide) (by decide), show nI (c / 4) * (4 : Int32) = nI (c / 4 * 4) from pk_mul _ 4, nI_add, nI_add, nI_add]
          congr 1
          show _ = 1 * (4 * (w * h) * (4 * (w * h))) + (c * (4 * (w * h)) + q)
          omega
        rw [this]; exact t1
    · have hbf : bb = false := by
        cases hx : bb with
        | false => rfl
        | true =>
          obtain ⟨p, hp1, hp2⟩ := hbb.mp hx
          have := (nI_eq (by omega) (by have := hp2.1; omega)).mp hp1
          rw [← this] at hp2
          exact absurd hp2 hP
      refine ⟨I, Q, fun r M' hc => wp_X0_begin_26 e1 e2 (k.1.k 18 8 (by decide) (by decide)) ⟨fun z => absurd z g4, fun _ => ⟨_, cb, fun _ y hy => by rw [hy, nI_1]; exact hc, fun z => absurd (by rw [hbf]; rfl) z⟩⟩, cl, ⟨fun s => ?_, hB.2⟩, hQ, fun _ _ _ _ => rfl, fun _ _ => rfl⟩
      rw [hB.1 s]
      refine ⟨fun ⟨a1, a2, a3, a4⟩ => ⟨a1, a2, a3, by omega⟩, fun ⟨a1, a2, a3, a4⟩ => ⟨a1, a2, a3, ?_⟩⟩
      by_cases hx : s.2.1 = c
      · rw [hx] at a2; exact absurd a2 hP
      · omega
theorem bg_16 (hE : PEz Z pa (4 * (w * h))) (hX : XF Z pa) : ∀ (d c : Nat) (I : Nat → Nat → Int32) (Q : List TR), c + d = 4 * (w * h) → CL Z I w h S tx → I pa 2 = nI (4 * (w * h)) → I pa 3 = nI (4 * (w * h) * (4 * (w * h))) → BGz (isP w h S) c 0 Q → QMz I pa (4 * (w * h)) Q (fun _ => 0) (fun _ => 0) none →
    ∃ I1 Q1, Lp_X0_begin_16 g 3 pa (nI c) (Z, I, L) none (Z, I1, L) ∧ CL Z I1 w h S tx ∧ BGz (isP w h S) (4 * (w * h)) 0 Q1 ∧ QMz I1 pa (4 * (w * h)) Q1 (fun _ => 0) (fun _ => 0) none ∧ (∀ a, a ≠ pa → a ≠ pa + 1 → a ≠ pa + 2 → I1 a = I a) ∧ ∀ k, k ≠ 6 → I1 pa k = I pa k := by
  obtain ⟨e0, e1, e2, e3, rest⟩ := id hE
  intro d
  induction d with
  | zero =>
    intro c I Q hc cl hI2 hI3 hB hQ
    have hm := cl.1.2.1.mul
    have hc : c = 4 * (w * h) := hc
    subst hc
    refine ⟨I, Q, wp_X0_begin_16 e1 ⟨fun _ => ⟨rfl, rfl⟩, fun z => ?_⟩, cl, hB, hQ, fun _ _ _ _ => rfl, fun _ _ => rfl⟩
    rw [hI2] at z
    exact absurd (nI_le (Nat.le_refl _) (by omega)) z
  | succ d ih =>
    intro c I Q hc cl hI2 hI3 hB hQ
    have hm := cl.1.2.1.mul
    obtain ⟨J, Q2, r1, r2, r3, r4, r5, r6⟩ := bg_26 (g := g) (L := L) (tx := tx) hE hX (show c < 4 * (w * h) by omega) 4 0 I Q (Nat.zero_add _) cl hI2 hI3 hB hQ
    obtain ⟨I1, Q1, t1, t2, t3, t4, t5, t6⟩ := ih (c + 1) J Q2 (by omega) r2 (by rw [r6 2 (by decide)]; exact hI2) (by rw [r6 3 (by decide)]; exact hI3) r3 r4
    refine ⟨I1, Q1, wp_X0_begin_16 e1 ⟨fun z => ?_, fun _ => r1 _ _ t1⟩, t2, t3, t4, fun a h1 h2 h3 => by rw [t5 a h1 h2 h3, r5 a h1 h2 h3], fun k hk => by rw [t6 k hk, r6 k hk]⟩
    rw [hI2] at z
    exact absurd z (nI_ge (by omega) (by omega))
theorem sp_begin (hE : PEz Z pa (4 * (w * h))) (hX : XF Z pa) (cl : CL Z I w h S tx) (hI2 : I pa 2 = nI (4 * (w * h))) (hI3 : I pa 3 = nI (4 * (w * h) * (4 * (w * h)))) : ∃ I1 Q1, Cl g 3 mu_X0_begin [rf g pa] (Z, I, L) none (Z, I1, L) ∧ CL Z I1 w h S tx ∧ GIz (isP w h S) f e Q1 0 (fun _ => 0) ∧ QMz I1 pa (4 * (w * h)) Q1 (fun _ => 0) (fun _ => 0) none ∧ (∀ a, a ≠ pa → a ≠ pa + 1 → a ≠ pa + 2 → I1 a = I a) ∧ ∀ k, k ≠ 6 → I1 pa k = I pa k := by
  have hm := cl.1.2.1.mul
  have hNN : 4 * (w * h) * (4 * (w * h)) ≤ 100 * 100 := Nat.mul_le_mul (by omega) (by omega)
  obtain ⟨e0, e1, e2, e3, ⟨a1, a2, a3⟩, rest⟩ := id hE
  have fl := sp_fill (g := g) (I := I) (L := L) (v := -4) a2 a3 (by omega)
  obtain ⟨J0, q0⟩ : ∃ J, J = rw1 I (pa + 1) (fun q => if q < 2 * (4 * (w * h) * (4 * (w * h))) then -4 else I (pa + 1) q) := ⟨_, rfl⟩
  rw [← q0] at fl
  obtain ⟨J1, q1⟩ : ∃ J, J = rw1 J0 pa (upd (J0 pa) 6 0) := ⟨_, rfl⟩
  have p0 : J0 pa = I pa := by rw [q0, rw1_n _ _ (by omega)]
  have o1 : ∀ a, a ≠ pa → a ≠ pa + 1 → J1 a = I a := fun a h1 h2 => by rw [q1, rw1_n _ _ h1, q0, rw1_n _ _ h2]
  have u1 : ∀ k, k ≠ 6 → J1 pa k = I pa k := fun k hk => by rw [q1, rw1_s, upd_n _ _ hk, p0]
  have cl1 : CL Z J1 w h S tx := cl.xa hE hX (fun a ha => o1 a (by omega) (by omega))
  have hQ0 : QMz J1 pa (4 * (w * h)) [] (fun _ => 0) (fun _ => 0) none := by
    refine ⟨by rw [q1, rw1_s, upd_s]; rfl, fun j hj => absurd hj (by show ¬ j < 0; omega), fun s hs _ => ⟨(fun z => by cases z), fun _ => ⟨Nat.zero_le 3, ?_⟩⟩, fun s hs => (by cases hs), ?_⟩
    · rw [q1, rw1_n _ _ (by omega), q0, rw1_s, if_pos (ix_lt hs)]
      show (-4 : Int32) = nI 0 - 4
      decide
    · rw [sm_same (B := fun _ => 0) (fun i _ => if_neg (fun z => by cases z)), sm_zero]; rfl
  obtain ⟨I1, Q1, r1, r2, r3, r4, r5, r6⟩ := bg_16 (g := g) (L := L) (tx := tx) hE hX (4 * (w * h)) 0 J1 [] (Nat.zero_add _) cl1 (by rw [u1 2 (by decide)]; exact hI2) (by rw [u1 3 (by decide)]; exact hI3) ⟨fun s => ⟨(fun z => by cases z), fun ⟨_, _, _, z⟩ => by omega⟩, fun i j _ hj => absurd hj (by show ¬ j < 0; omega)⟩ hQ0
  refine ⟨I1, Q1, cp_X0_begin e1 a1 a2 ⟨J0, L, fl, fun I4 h4 => ?_⟩, r2, ⟨fun k c p h1 h2 h3 h4 => ?_, fun s hs => ?_, fun _ _ _ _ => Nat.le_refl _, fun _ _ _ => Nat.zero_le _, fun c p _ _ _ tap _ z => ?_, fun c p _ _ _ => ⟨0, by decide, fun z => ?_⟩, r3.2, Nat.zero_le _, fun _ _ => Nat.zero_le _⟩, r4, fun a h1 h2 h3 => by rw [r5 a h1 h2 h3, o1 a h1 h2], fun k hk => by rw [r6 k hk, u1 k hk]⟩
  · rw [← q1] at h4
    rw [h4]; exact r1
  · exact (r3.1 _).mpr ⟨h1, h2, h4.symm, Or.inl h2.1⟩
  · obtain ⟨z1, z2, z3, z4⟩ := (r3.1 s).mp hs
    refine ⟨z1, z2, ?_, ⟨z3.symm, fun n hn => absurd hn (Nat.not_lt_zero n)⟩⟩
    obtain ⟨y1, y2⟩ := z2
    exact ⟨by omega, by rw [z3]; exact y2⟩
  · cases z
  · cases z
end TURNS
