/-! the class's search: the start, the answer -/
section CSEARCH2
variable {g : GE} {Z : Zs} {I : Nat → Nat → Int32} {L : Nat → Nat → Int64} {w h : Nat} {S : Nat → List Nat} {tx : List TX} {sa n : Nat} {T : List Nat} {tt : Nat → TX} {goal : Option Nat}
theorem sok0 {p : Nat} (hn : 1 ≤ n) (h3 : n ≤ 3) (hp : isP w h S p) : sok w h S n ([r0F n p], [0], [0]) := by
  refine ⟨fun r hr => ?_, rfl, rfl, by show 1 ≤ 1; omega, by show 1 ≤ 3000; omega, fun j h0 hj => ?_, fun j => ?_⟩
  · rw [List.mem_singleton.mp hr]; exact r0F_ok hn h3 hp
  · have hj : j < 1 := hj
    omega
  · show ([0] : List Nat).getD j 0 < 4
    rw [List.getD_eq_getElem?_getD]
    cases j with
    | zero => exact (by decide : (0 : Nat) < 4)
    | succ j => exact (by decide : (0 : Nat) < 4)
theorem se_17 (hE : SE Z sa) (hI : IL Z I (sa + 1) (sa + 2) 3 T) (hl : T.length = n) (h3 : n ≤ 3) {p : Nat} {r : Option Value} {M' : Mem} (hend : Lp_X7_seek_17 g 7 sa (nI p) (nI (encF (fun _ => p) n)) (nI n) (Z, I, L) r M') : ∀ (d j : Nat), j + d = n → Lp_X7_seek_17 g 7 sa (nI p) (nI (encF (fun _ => p) j)) (nI j) (Z, I, L) r M' := by
  obtain ⟨e0, e1, e2, ⟨t1, t2, t3, t4, t5⟩, e4, e5, e6, e7⟩ := id hE
  have sz := sp_size (g := g) (L := L) hI
  rw [hl] at sz
  intro d
  induction d with
  | zero =>
    intro j hj
    have hj : j = n := hj
    subst hj
    exact hend
  | succ d ih =>
    intro j hj
    refine wp_X7_seek_17 e1 t1 t2 ⟨_, sz, fun e => absurd e (nI_ge (by omega) (by omega)), fun _ y hy y2 hy2 => ?_⟩
    rw [hy, hy2, nI_1, show nI (encF (fun _ => p) j) * (100 : Int32) = nI (encF (fun _ => p) j * 100) from pk_mul _ 100, nI_add]
    exact ih (j + 1) (by omega)
theorem sp_seek (cl : CL Z I w h S tx) (hE : SE Z sa) (hX : XF Z sa) (hI : IL Z I (sa + 1) (sa + 2) 3 T) (hl : T.length = n) (hn : 1 ≤ n) (h3 : n ≤ 3) (hT : ∀ i, i < n → tx[T.getD i 0]? = some (tt i)) (hg : I sa 7 = oI goal) (hgl : ∀ c, goal = some c → c < 100) (h2 : goal = none → n = 2) {p : Nat} (hp : isP w h S p) : ∃ I1, Cl g 7 mu_X7_seek [rf g sa, .int (nI p)] (Z, I, L) (some (.int (ckI (skF w h (S 0) n tt goal p)))) (Z, I1, L) ∧ CL Z I1 w h S tx ∧ PO w h S I1 sa n (skF w h (S 0) n tt goal p) ∧ ∀ a, ¬ nowA a → ¬ (a = sa ∨ (sa + 3 ≤ a ∧ a ≤ sa + 6)) → I1 a = I a := by
  obtain ⟨kc, hW, -⟩ := id cl
  have hm := kc.2.1.mul
  have hp1 := hp.1
  obtain ⟨e0, e1, e2, ⟨t1, t2, t3, t4, t5⟩, ⟨r1, r2, r3⟩, e5, e6, ⟨s1, s2, s3⟩⟩ := id hE
  have fl := sp_fill (g := g) (I := I) (L := L) (v := 0) s2 s3 (by decide)
  obtain ⟨J1, q1⟩ : ∃ J, J = rw1 I (sa + 6) (fun q => if q < 8192 then 0 else I (sa + 6) q) := ⟨_, rfl⟩
  rw [← q1] at fl
  obtain ⟨J2, q2⟩ : ∃ J, J = rw1 J1 sa (upd (J1 sa) 6 0) := ⟨_, rfl⟩
  have f2 : ∀ a, a ≠ sa → a ≠ sa + 6 → J2 a = I a := fun a h1 h2 => by rw [q2, rw1_n _ _ h1, q1, rw1_n _ _ h2]
  have j6 : J2 (sa + 6) = fun q => if q < 8192 then 0 else I (sa + 6) q := by rw [q2, rw1_n _ _ (by omega), q1, rw1_s]
  have j66 : J2 sa 6 = nI 0 := by rw [q2, rw1_s]; rfl
  have j67 : J2 sa 7 = oI goal := by
    rw [q2, rw1_s]
    unfold upd
    rw [if_neg (by decide), q1, rw1_n _ _ (by omega)]; exact hg
  have hI2 : IL Z J2 (sa + 1) (sa + 2) 3 T := hI.kept (by rw [f2 _ (by omega) (by omega)]) (fun q _ => by rw [f2 _ (by omega) (by omega)])
  have cl2 : CL Z J2 w h S tx := cl.xw hE hX (fun a ha => f2 a (by omega) (by omega))
  have hs0 : HS Z J2 sa n T goal ([], [], []) := ⟨hI2, hl, j67, j66, fun k hk => absurd hk (by show ¬ k < 0; omega), fun k _ hk => absurd hk (by show ¬ k < 0; omega), by rw [j6]; exact HT.empty (fun q hq => if_pos hq)⟩
  have ec : encF (fun _ => p) n = encF (pr (r0F n p)) n := encF_same (fun i hi => by rw [r0F_pr hn (by omega), if_pos hi])
  have hok0 := r0F_ok (n := n) hn h3 hp
  have h100 : ∀ i, i < n → pr (r0F n p) i < 100 := fun i hi => by have := (hok0.1 i hi).1; omega
  have hlt : encF (pr (r0F n p)) n < 100 ^ n := encF_lt h100
  have hpw : 100 ^ n ≤ 100 ^ 3 := Nat.pow_le_pow_right (by decide) (by omega)
  obtain ⟨q, u1, u2, u3⟩ := sp_slotOf (g := g) (I := J2) (L := L) (C := []) (c := encF (pr (r0F n p)) n) hE hs0.2.2.2.2.2.2 (fun k hk => absurd hk (by show ¬ k < 0; omega)) (by show 0 ≤ 3001; omega) (fun k hk => absurd hk (by show ¬ k < 0; omega)) (by omega)
  have hfs : FS (J2 (sa + 6)) (encF (pr (r0F n p)) n) q := by
    rcases u3 with u | u
    · exact u.1
    · cases u.2
  obtain ⟨J3, c1, c2, c3, c4, c5, c6, c7⟩ := sp_keep (g := g) (L := L) (x1 := nI (encF (pr (r0F n p)) n)) (x3 := -1) (x4 := -1) hE (show 0 < 3001 by decide) j66 u1
  have hs3 : HS Z J3 sa n T goal ([r0F n p], [0], [0]) := HS.put (s := ([], [], [])) (hd := 0) (tap := 0) hs0 (by show 0 < 3001; decide) (fun z => absurd z (by show ¬ 0 < 0; omega)) rfl rfl hfs c2 c3 c4 c5 c6 c7
  have cl3 : CL Z J3 w h S tx := cl2.xw hE hX (fun a ha => c7 a (by omega) (by omega) (by omega) (by omega) (by omega))
  have ith := sp_isThere (g := g) (L := L) (r := r0F n p) hE hs3.1 hl hn h3 h100 hs3.2.2.1 hgl h2
  have fr3 : ∀ a, ¬ (a = sa ∨ (sa + 3 ≤ a ∧ a ≤ sa + 6)) → J3 a = I a := fun a h2 => by rw [c7 a (by omega) (by omega) (by omega) (by omega) (by omega), f2 a (by omega) (by omega)]
  have sz := sp_size (g := g) (L := L) hI2
  rw [hl] at sz
  have fin : ∀ (v : Int32) (I1 : Nat → Nat → Int32), Lp_X7_seek_17 g 7 sa (nI p) (nI (encF (fun _ => p) n)) (nI n) (Z, J2, L) (some (.int v)) (Z, I1, L) → Cl g 7 mu_X7_seek [rf g sa, .int (nI p)] (Z, I, L) (some (.int v)) (Z, I1, L) := fun v I1 hv => by
    refine cp_X7_seek e1 s1 s2 ⟨J1, L, fl, fun I4 h4 => ?_⟩
    rw [← q2] at h4
    rw [h4]
    exact se_17 hE hI2 hl h3 hv n 0 (Nat.zero_add _)
  by_cases hth : thB n goal (r0F n p) = true
  · have es : skF w h (S 0) n tt goal p = (some (some 0), ([r0F n p], [0], [0])) := by unfold skF; rw [if_pos hth]
    rw [es]
    rw [hth] at ith
    refine ⟨J3, fin _ _ (wp_X7_seek_17 e1 t1 t2 ⟨_, sz, fun _ => ⟨_, by rw [ec]; exact u2, J3, L, by rw [ec]; exact c1, _, by rw [ec]; exact ith, fun e => absurd e (by decide), fun _ => ⟨rfl, rfl⟩⟩, fun e => absurd (nI_le (Nat.le_refl _) (by omega)) e⟩), cl3, fun j hj => ?_, fun a _ h2 => fr3 a h2⟩
    have : 0 = j := Option.some.inj (Option.some.inj hj)
    subst this
    exact ⟨by rw [c2]; rfl, rfl, sok0 hn h3 hp, fun k h0 hk => absurd hk (by omega)⟩
  · have es : skF w h (S 0) n tt goal p = bfF w h (S 0) n tt goal 20000 0 0 ([r0F n p], [0], [0]) := by unfold skF; rw [if_neg hth]
    have hthf : thB n goal (r0F n p) = false := by cases hx : thB n goal (r0F n p) with
      | true => exact absurd hx hth
      | false => rfl
    rw [es]
    rw [hthf] at ith
    obtain ⟨I1, f1, f2', f3, f4⟩ := sk_run (g := g) (L := L) hE hX hn h3 hT hgl h2 20000 0 0 _ J3 cl3 hs3 (sok0 hn h3 hp) (by show 0 < 1; omega) (by omega) (by omega)
    refine ⟨I1, fin _ _ (wp_X7_seek_17 e1 t1 t2 ⟨_, sz, fun _ => ⟨_, by rw [ec]; exact u2, J3, L, by rw [ec]; exact c1, _, by rw [ec]; exact ith, fun _ => ?_, fun e => absurd rfl e⟩, fun e => absurd (nI_le (Nat.le_refl _) (by omega)) e⟩), f2', f3, fun a h1 h2 => by rw [f4 a h1 h2, fr3 a h2]⟩
    refine wp_X7_seek_65 e1 ⟨fun e => ?_, fun _ => ⟨fun e => absurd e (by decide), fun _ => f1⟩⟩
    rw [show J3 sa 6 = nI 1 from by rw [c2]; rfl] at e
    exact absurd e (by decide)
theorem ta_run (hE : SE Z sa) {F B : List Nat} {m x : Nat} (hm : m ≤ 3001) (hF : ∀ k, 0 < k → k < m → I (sa + 4) k = nI (F.getD k 0) ∧ F.getD k 0 < k ∧ I (sa + 5) k = nI (B.getD k 0)) : ∀ (d e j : Nat), x + d = e → j < m → dpF F 3001 j = e + 1 → Lp_X7_tapAt_12 g 1 sa (nI x) (nI j) (nI e) (Z, I, L) (some (.int (nI (B.getD (upF F d j) 0)))) (Z, I, L) := by
  obtain ⟨e0, e1, e2, e3, e4, ⟨b1, b2, b3⟩, ⟨p1, p2, p3⟩, e7⟩ := hE
  have hle : ∀ j, j < m → dpF F 3001 j ≤ j := fun j hj => dp_le 3001 j (fun i h0 hi => (hF i h0 (by omega)).2.1)
  intro d
  induction d with
  | zero =>
    intro e j hx hj hdp
    have := hle j hj
    have h0 : 0 < j := by omega
    obtain ⟨z1, z2, z3⟩ := hF j h0 hj
    refine wp_X7_tapAt_12 e1 p1 p2 b1 b2 ⟨fun _ => ⟨fun e => absurd e (nI_nle h0 (by omega)), fun _ => ?_⟩, fun e' => absurd (nI_le (show e ≤ x by omega) (by omega)) e'⟩
    rw [nI_clamp (by omega), z3]
    exact ⟨by rw [p3]; exact vp_in_nI (by omega) (by decide), rfl, rfl⟩
  | succ d ih =>
    intro e j hx hj hdp
    have hlj := hle j hj
    have h0 : 0 < j := by omega
    obtain ⟨z1, z2, z3⟩ := hF j h0 hj
    have hd2 : dpF F 3001 (F.getD j 0) = (e - 1) + 1 := by
      have e1' : dpF F 3001 j = dpF F 3000 (F.getD j 0) + 1 := by
        show (if j = 0 then 0 else dpF F 3000 (F.getD j 0) + 1) = _
        rw [if_neg (by omega)]
      rw [dp_more 3001 3000 (F.getD j 0) (by omega) (by omega) (fun i h0 hi => (hF i h0 (by omega)).2.1)]
      omega
    have hle2 := hle (F.getD j 0) (by omega)
    refine wp_X7_tapAt_12 e1 p1 p2 b1 b2 ⟨fun e' => absurd ((nI_leI (by omega) (by omega)).mp e') (by omega), fun _ => ⟨fun e' => absurd e' (nI_nle h0 (by omega)), fun _ => ?_⟩⟩
    rw [nI_clamp (by omega), z1]
    refine ⟨by rw [b3]; exact vp_in_nI (by omega) (by decide), fun y hy y2 hy2 => ?_⟩
    rw [hy, hy2, neg1, show nI e - 1 = nI (e - 1) from by rw [show e = (e - 1) + 1 by omega, nI_pred]; rfl]
    exact ih (e - 1) (F.getD j 0) (by omega) (by omega) hd2
theorem sp_tapOrCount (hE : SE Z sa) {o : Option (Option Nat) × ST} (hP : PO w h S I sa n o) {x : Int32} (hx : -1 ≤ x) : Cl g 2 mu_X11_tapOrCount [rf g sa, .int (ckI o), .int x] (Z, I, L) (some (.int (saF o x))) (Z, I, L) := by
  refine cp_X11_tapOrCount hE.2.1 ?_
  obtain ⟨o1, s⟩ := o
  cases o1 with
  | none => exact ⟨fun _ => ⟨rfl, rfl⟩, fun e => absurd (show (-1 : Int32) < 0 by decide) e⟩
  | some o2 =>
    cases o2 with
    | none => exact ⟨fun _ => ⟨rfl, rfl⟩, fun e => absurd (show (-2 : Int32) < 0 by decide) e⟩
    | some j =>
      obtain ⟨h6, hlen, hsk, hF⟩ := hP j rfl
      have hlen : s.1.length = j + 1 := hlen
      have h5 := hsk.2.2.2.2.1
      have h5 : s.1.length ≤ 3000 := h5
      have hdl : dpF s.2.1 3001 j ≤ j := dp_le 3001 j (fun i h0 hi => hsk.2.2.2.2.2.1 i h0 (by show i < s.1.length; omega))
      rw [show ckI (some (some j), s) = nI (dpF s.2.1 3001 j) from rfl]
      refine ⟨fun e => absurd e (nI_pos (by omega)), fun _ => ⟨fun hx1 => ?_, fun hx1 => ⟨?_, rfl⟩⟩⟩
      · have hx0 : ¬ x < 0 := fun z => hx1 (by
          have h1 := Int32.le_iff_toInt_le.mp hx
          have h2 := Int32.lt_iff_toInt_lt.mp z
          rw [show (-1 : Int32).toInt = -1 by decide] at h1
          rw [show (0 : Int32).toInt = 0 by decide] at h2
          apply Int32.toInt_inj.mp
          rw [show (-1 : Int32).toInt = -1 by decide]
          omega)
        obtain ⟨xi, hxi, rfl⟩ := nI_of hx0
        refine ⟨fun e => ⟨?_, rfl⟩, fun e => ⟨nI (s.2.2.getD (upF s.2.1 (dpF s.2.1 3001 j - 1 - xi) j) 0), cp_X7_tapAt hE.2.1 (fun y hy y2 hy2 => ?_), ?_, rfl⟩⟩
        · show _ = some (Value.int (-1))
          unfold saF
          show some (Value.int (if nI xi = -1 then _ else if nI xi < nI (dpF s.2.1 3001 j) then _ else -1)) = _
          rw [if_neg hx1, if_neg (fun z => absurd z (Int32.not_lt.mpr e))]
        · have hlt : xi < dpF s.2.1 3001 j := by
            rw [nI_leI (by omega) hxi] at e
            omega
          rw [h6, nI_pred] at hy
          rw [show nI (dpF s.2.1 3001 j) - 1 = nI (dpF s.2.1 3001 j - 1) from by rw [show dpF s.2.1 3001 j = (dpF s.2.1 3001 j - 1) + 1 by omega, nI_pred]; rfl] at hy2
          rw [hy, hy2]
          exact ta_run (g := g) (L := L) (F := s.2.1) (B := s.2.2) hE (show j + 1 ≤ 3001 by omega) (fun k h0 hk => ⟨(hF k h0 hk).1, hsk.2.2.2.2.2.1 k h0 (by show k < s.1.length; omega), (hF k h0 hk).2⟩) (dpF s.2.1 3001 j - 1 - xi) (dpF s.2.1 3001 j - 1) j (by omega) (by omega) (by omega)
        · have hlt : nI xi < nI (dpF s.2.1 3001 j) := Int32.not_le.mp e
          unfold saF
          show some (Value.int (if nI xi = -1 then _ else if nI xi < nI (dpF s.2.1 3001 j) then nI (s.2.2.getD (upF s.2.1 (dpF s.2.1 3001 j - 1 - (nI xi).toNatClampNeg) j) 0) else -1)) = _
          rw [if_neg hx1, if_pos hlt, nI_clamp hxi]
      · unfold saF
        show some (Value.int (if x = -1 then nI (dpF s.2.1 3001 j) else _)) = _
        rw [if_pos hx1]
end CSEARCH2
