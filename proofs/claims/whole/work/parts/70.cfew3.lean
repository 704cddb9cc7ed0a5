/-! the class's fewest(), tells(), whole -/
section CFEW3
variable {g : GE} {Z : Zs} {I : Nat → Nat → Int32} {L : Nat → Nat → Int64} {w h : Nat} {S K : Nat → List Nat} {tx tk : List TX} {sa : Nat}
theorem GSz.cl {Z1 : Zs} (gs : GSz Z Z1) (c : CL Z I w h S tx) {J : Nat → Nat → Int32} (fJ : ∀ a, a < Z.2.2.2.1 → J a = I a) : CL Z1 J w h S tx := by
  have h99 := c.1.1.1
  obtain ⟨k, hW, hm, hN, hK⟩ := c
  have c1 : CL Z J w h S tx := ⟨k.kept (fun a ha => fJ a (by
    rcases ha with ha | ha
    · unfold stA at ha; omega
    · exact ha.2)), hW, hm.kept (by rw [fJ 13 (by omega)]) (fJ 15 (by omega)), hN, by rw [fJ 67 (by omega)]; exact hK⟩
  exact c1.g gs.1 (fun q _ => by rw [gs.2.1])
theorem op_fewest (c : CL Z I w h S tx) (hi : SIz Z) (hx : SXz Z I) (b : SS Z I 24 w h K tk) {n p q : Nat} {x4 : Int32} (h0 : 0 < n) (hn : n < 2 ^ tx.length) (hb : bnF n ≤ 3) (hp : isP w h S p) (hc : q < w * h) (h4 : -1 ≤ x4) : ∃ Z1 I1 L1, Cl g 8 mu_X11_fewest [rf g 0, .int (nI n), .int (nI p), .int (nI q), .int x4] (Z, I, L) (some (.int (fewF w h S tx n p q x4))) (Z1, I1, L1) ∧ GSz Z Z1 ∧ Z1.2.1 0 13 = Z.2.1 0 13 ∧ CL Z1 I1 w h S tx ∧ SIz Z1 ∧ SXz Z1 I1 ∧ SS Z1 I1 24 w h K tk ∧ SFr Z I I1 := by
  obtain ⟨k, hW, -⟩ := id c
  have hm := k.2.1.mul
  have hx4 := k.2.2.2.2.2.2.2.1
  have e14 : I 18 14 = nI tx.length := k.2.2.2.2.2.2.1
  have hp1 := hp.1
  have hpw : 2 ^ tx.length ≤ 2 ^ 4 := Nat.pow_le_pow_right (by decide) hx4
  have hn16 : n < 16 := by omega
  have hlen1 := set_len tx.length (by omega) n hn h0 hb
  have hlen3 := set_bc n hn16 hb tx.length (by omega)
  obtain ⟨sa, Z1, J0, L1, s1, gs, sE, sX, s12, s13, ⟨m, hm3, hm1⟩, fJ⟩ := sp_searcher (g := g) (L := L) c hi hx
  have c1 : CL Z1 J0 w h S tx := gs.cl c fJ
  have k1 := c1.1
  obtain ⟨J1, g1, -, g3, g4, g5⟩ := sp_goal (g := g) (L := L1) sE hm3 hm1 (some q)
  have c2 : CL Z1 J1 w h S tx := c1.xw sE sX (fun a ha => g5 a (by omega) (by omega))
  obtain ⟨J2, f1, f2, f3, f4⟩ := fw_run (g := g) (L := L1) (x2 := nI p) (x4 := x4) sE sX hn16 hb tx.length 0 J1 (Nat.zero_add _) c2 g3
  have hT : ∀ i, i < (setF n tx.length).length → tx[(setF n tx.length).getD i 0]? = some (ttF tx (setF n tx.length) i) := fun i hi => tt_ok (fun t ht => set_lt ht) hi
  have h7 : J2 sa 7 = oI (some q) := by rw [f4 sa (by omega) (by omega)]; exact g4
  obtain ⟨I1, d1, d2, d3, d4⟩ := sp_seek (g := g) (L := L1) f2 sE sX f3 rfl hlen1 (by omega) hT h7 (fun c hc' => by cases hc'; omega) (fun z => by cases z) hp
  have tc := sp_tapOrCount (g := g) (L := L1) sE d3 h4
  have fr : ∀ a, ¬ nowA a → ¬ (sa ≤ a ∧ a ≤ sa + 6) → I1 a = J0 a := fun a h1 h2 => by rw [d4 a h1 (by omega), f4 a (by omega) (by omega), g5 a (by omega) (by omega)]
  have hz : I1 (sa + 1) 1 = nI (setF n tx.length).length := by
    rw [d4 (sa + 1) (by have := sE.1; unfold nowA; omega) (by omega)]; exact f3.2.2.2.2.2.2.1
  obtain ⟨z1, z2, z3, z4⟩ := sx_end gs hi k.1 sE sX s12 fJ b fr (T := setF n tx.length) (by omega) hz
  refine ⟨Z1, I1, L1, cp_X11_fewest (M := (Z, I, L)) (k.1.k 0 11 (by decide) (by decide)) ⟨fun e => ?_, fun _ => ⟨18, k.1.r 0 0 18 (by decide), k.1.k 18 8 (by decide) (by decide), fun e => ?_, fun _ => ⟨_, (Z, I, L), sp_bits hn16, fun _ => ?_, fun e => ?_⟩⟩⟩, gs, s13, d2, z1, z2, z3, z4⟩
  · exact absurd e (nI_nle h0 (by omega))
  · have e : (1 : Int32) <<< (I 18 14 &&& 31) ≤ nI n := e
    rw [e14, shl1 (by omega)] at e
    exact absurd e (nI_ge hn (by omega))
  · obtain ⟨bb, cb, hbb⟩ := sp_isPose (g := g) (L := L) k hW (nI p)
    have ic := sp_isCell (g := g) (L := L) k (nI q)
    rw [if_pos (nI_in0 hc (by omega))] at ic
    have hbt : bb = true := hbb.mpr ⟨p, rfl, hp⟩
    refine ⟨18, k.1.r 0 0 18 (by decide), k.1.k 18 8 (by decide) (by decide), _, (Z, I, L), cb, fun e => absurd e (b2i_1 hbt), fun _ => ⟨18, k.1.r 0 0 18 (by decide), k.1.k 18 8 (by decide) (by decide), _, (Z, I, L), ic, fun e => absurd e (by decide), fun _ => ⟨fun _ => ⟨sa, (Z1, J0, L1), s1, sE.2.1, (Z1, J1, L1), g1 q rfl, f1 _ _ ?_⟩, fun e => absurd h4 e⟩⟩⟩
    refine wp_X11_fewest_72 (M := (Z1, J2, L1)) (k1.1.k 0 11 (by decide) (by decide)) sE.2.1 ⟨18, k1.1.r 0 0 18 (by decide), k1.1.k 18 8 (by decide) (by decide), fun _ => ⟨_, (Z1, I1, L1), d1, _, (Z1, I1, L1), tc, rfl, rfl⟩, fun e => ?_⟩
    have e : ¬ J2 18 14 ≤ nI tx.length := e
    rw [f2.1.2.2.2.2.2.2.1] at e
    exact absurd (nI_le (Nat.le_refl _) (by omega)) e
  · have : nI (bnF n) ≤ 3 := (nI_leI (b := 3) (by omega) (by decide)).mpr hb
    exact absurd this e
theorem op_fewestN (c : CL Z I w h S tx) {x1 x2 x3 x4 : Int32} (hv : ¬ vFew w h S tx x1 x2 x3 x4) : Cl g 8 mu_X11_fewest [rf g 0, .int x1, .int x2, .int x3, .int x4] (Z, I, L) (some (.int (-1))) (Z, I, L) := by
  obtain ⟨k, hW, -⟩ := id c
  have hm := k.2.1.mul
  have hx4 := k.2.2.2.2.2.2.2.1
  have e14 : I 18 14 = nI tx.length := k.2.2.2.2.2.2.1
  have hpw : 2 ^ tx.length ≤ 2 ^ 4 := Nat.pow_le_pow_right (by decide) hx4
  refine cp_X11_fewest (M := (Z, I, L)) (k.1.k 0 11 (by decide) (by decide)) ⟨fun e => ⟨rfl, rfl⟩, fun e1 => ⟨18, k.1.r 0 0 18 (by decide), k.1.k 18 8 (by decide) (by decide), fun e => ⟨rfl, rfl⟩, fun e2 => ?_⟩⟩
  have e2 : ¬ (1 : Int32) <<< (I 18 14 &&& 31) ≤ x1 := e2
  rw [e14, shl1 (by omega)] at e2
  have n0 : ¬ x1 < 0 := fun z => e1 (Int32.le_of_lt z)
  obtain ⟨n, hn, rfl⟩ := nI_of n0
  rw [nI_leI (by omega) hn] at e2
  have h0 : 0 < n := Classical.byContradiction (fun z => e1 (by rw [show n = 0 by omega]; decide))
  refine ⟨_, (Z, I, L), sp_bits (by omega), fun e3 => ?_, fun _ => ⟨rfl, rfl⟩⟩
  have hb : bnF n ≤ 3 := (nI_leI (b := 3) (by unfold bnF; omega) (by decide)).mp e3
  obtain ⟨bb, cb, hbb⟩ := sp_isPose (g := g) (L := L) k hW x2
  refine ⟨18, k.1.r 0 0 18 (by decide), k.1.k 18 8 (by decide) (by decide), _, (Z, I, L), cb, fun _ => ⟨rfl, rfl⟩, fun e4 => ?_⟩
  have hbt : bb = true := Classical.byContradiction (fun z => e4 (b2i_f z))
  refine ⟨18, k.1.r 0 0 18 (by decide), k.1.k 18 8 (by decide) (by decide), _, (Z, I, L), sp_isCell k x3, fun _ => ⟨rfl, rfl⟩, fun e5 => ⟨fun e6 => ?_, fun _ => ⟨rfl, rfl⟩⟩⟩
  have h5 : ¬ x3 < 0 ∧ x3 < nI (w * h) := Classical.byContradiction (fun z => e5 (if_neg z))
  exact absurd ⟨⟨n, rfl, h0, by omega, hb⟩, hbb.mp hbt, (in_text (by omega)).mp h5, e6⟩ hv
theorem op_tells (c : CL Z I w h S tx) (hi : SIz Z) (hx : SXz Z I) (b : SS Z I 24 w h K tk) {o1 o2 p : Nat} {x4 : Int32} (h1 : o1 < tx.length) (h2 : o2 < tx.length) (hp : isP w h S p) (h4 : -1 ≤ x4) : ∃ Z1 I1 L1, Cl g 8 mu_X11_tells [rf g 0, .int (nI o1), .int (nI o2), .int (nI p), .int x4] (Z, I, L) (some (.int (telF w h S tx o1 o2 p x4))) (Z1, I1, L1) ∧ GSz Z Z1 ∧ Z1.2.1 0 13 = Z.2.1 0 13 ∧ CL Z1 I1 w h S tx ∧ SIz Z1 ∧ SXz Z1 I1 ∧ SS Z1 I1 24 w h K tk ∧ SFr Z I I1 := by
  obtain ⟨k, hW, -⟩ := id c
  have hm := k.2.1.mul
  have hx4 := k.2.2.2.2.2.2.2.1
  have hp1 := hp.1
  obtain ⟨sa, Z1, J0, L1, s1, gs, sE, sX, s12, s13, ⟨m, hm3, hm1⟩, fJ⟩ := sp_searcher (g := g) (L := L) c hi hx
  have c1 : CL Z1 J0 w h S tx := gs.cl c fJ
  obtain ⟨J1, -, g2, g3, g4, g5⟩ := sp_goal (g := g) (L := L1) sE hm3 hm1 none
  have c2 : CL Z1 J1 w h S tx := c1.xw sE sX (fun a ha => g5 a (by omega) (by omega))
  obtain ⟨J2, f1, f2, f3⟩ := sp_sadd (g := g) (L := L1) sE g3 (by decide) o1
  have c3 : CL Z1 J2 w h S tx := c2.xw sE sX (fun a ha => f3 a (by omega) (by omega))
  obtain ⟨J3, l1, l2, l3⟩ := sp_sadd (g := g) (L := L1) sE f2 (by show 1 < 3; decide) o2
  have c4 : CL Z1 J3 w h S tx := c3.xw sE sX (fun a ha => l3 a (by omega) (by omega))
  have l2 : IL Z1 J3 (sa + 1) (sa + 2) 3 [o1, o2] := l2
  have hT : ∀ i, i < 2 → tx[([o1, o2] : List Nat).getD i 0]? = some (ttF tx [o1, o2] i) := fun i hi => tt_ok (fun t ht => by
    rcases List.mem_cons.mp ht with e | ht
    · rw [e]; exact h1
    · rw [List.mem_singleton.mp ht]; exact h2) hi
  have h7 : J3 sa 7 = oI none := by rw [l3 sa (by omega) (by omega), f3 sa (by omega) (by omega)]; exact g4
  obtain ⟨I1, d1, d2, d3, d4⟩ := sp_seek (g := g) (L := L1) c4 sE sX l2 rfl (by show 1 ≤ 2; decide) (by show 2 ≤ 3; decide) hT h7 (fun c hc' => by cases hc') (fun _ => rfl) hp
  have tc := sp_tapOrCount (g := g) (L := L1) sE d3 h4
  have fr : ∀ a, ¬ nowA a → ¬ (sa ≤ a ∧ a ≤ sa + 6) → I1 a = J0 a := fun a h1 h2 => by rw [d4 a h1 (by omega), l3 a (by omega) (by omega), f3 a (by omega) (by omega), g5 a (by omega) (by omega)]
  have hz : I1 (sa + 1) 1 = nI ([o1, o2] : List Nat).length := by
    rw [d4 (sa + 1) (by have := sE.1; unfold nowA; omega) (by omega)]; exact l2.2.2.2.2.2.2.1
  obtain ⟨z1, z2, z3, z4⟩ := sx_end gs hi k.1 sE sX s12 fJ b fr (T := [o1, o2]) (by show 2 ≤ 3; decide) hz
  have t1 := sp_isText (g := g) (L := L) k (nI o1)
  rw [if_pos (nI_in0 h1 (by omega))] at t1
  have t2 := sp_isText (g := g) (L := L) k (nI o2)
  rw [if_pos (nI_in0 h2 (by omega))] at t2
  obtain ⟨bb, cb, hbb⟩ := sp_isPose (g := g) (L := L) k hW (nI p)
  have hbt : bb = true := hbb.mpr ⟨p, rfl, hp⟩
  exact ⟨Z1, I1, L1, cp_X11_tells (M := (Z, I, L)) (k.1.k 0 11 (by decide) (by decide)) ⟨18, k.1.r 0 0 18 (by decide), k.1.k 18 8 (by decide) (by decide), _, (Z, I, L), t1, fun e => absurd e (by decide), fun _ => ⟨18, k.1.r 0 0 18 (by decide), k.1.k 18 8 (by decide) (by decide), _, (Z, I, L), t2, fun e => absurd e (by decide), fun _ => ⟨18, k.1.r 0 0 18 (by decide), k.1.k 18 8 (by decide) (by decide), _, (Z, I, L), cb, fun e => absurd e (b2i_1 hbt), fun _ => ⟨fun _ => ⟨sa, (Z1, J0, L1), s1, sE.2.1, (Z1, J1, L1), g2 rfl, (Z1, J2, L1), f1, (Z1, J3, L1), l1, _, (Z1, I1, L1), d1, _, (Z1, I1, L1), tc, rfl, rfl⟩, fun e => absurd h4 e⟩⟩⟩⟩, gs, s13, d2, z1, z2, z3, z4⟩
theorem op_tellsN (c : CL Z I w h S tx) {x1 x2 x3 x4 : Int32} (hv : ¬ vTel w h S tx x1 x2 x3 x4) : Cl g 8 mu_X11_tells [rf g 0, .int x1, .int x2, .int x3, .int x4] (Z, I, L) (some (.int (-1))) (Z, I, L) := by
  obtain ⟨k, hW, -⟩ := id c
  have hx4 := k.2.2.2.2.2.2.2.1
  obtain ⟨bb, cb, hbb⟩ := sp_isPose (g := g) (L := L) k hW x3
  refine cp_X11_tells (M := (Z, I, L)) (k.1.k 0 11 (by decide) (by decide)) ⟨18, k.1.r 0 0 18 (by decide), k.1.k 18 8 (by decide) (by decide), _, (Z, I, L), sp_isText k x1, fun _ => ⟨rfl, rfl⟩, fun e1 => ⟨18, k.1.r 0 0 18 (by decide), k.1.k 18 8 (by decide) (by decide), _, (Z, I, L), sp_isText k x2, fun _ => ⟨rfl, rfl⟩, fun e2 => ⟨18, k.1.r 0 0 18 (by decide), k.1.k 18 8 (by decide) (by decide), _, (Z, I, L), cb, fun _ => ⟨rfl, rfl⟩, fun e3 => ⟨fun e4 => ?_, fun _ => ⟨rfl, rfl⟩⟩⟩⟩⟩
  have h1 : ¬ x1 < 0 ∧ x1 < nI tx.length := Classical.byContradiction (fun z => e1 (if_neg z))
  have h2 : ¬ x2 < 0 ∧ x2 < nI tx.length := Classical.byContradiction (fun z => e2 (if_neg z))
  have hbt : bb = true := Classical.byContradiction (fun z => e3 (b2i_f z))
  exact absurd ⟨(in_text (by omega)).mp h1, (in_text (by omega)).mp h2, hbb.mp hbt, e4⟩ hv
end CFEW3
