/-! both sides of each call: feed, end, text, fewest, tells, chase, hunt, image, back -/
section AGREE2
variable {g : GE} {Z Z1 : Zs} {I I1 I2 : Nat → Nat → Int32} {L L1 L2 : Nat → Nat → Int64} {w h : Nat} {S K S1 K1 : Nat → List Nat} {tx tk tx1 tk1 : List TX} {tp tp1 : List Nat} {ts ts1 : List (Nat × Nat × Nat)}
theorem Jv.tpz (j : Jv Z I w h S K tx tk tp ts) (hI : IL Z I2 1 2 300 tp1) (h8 : T8 tp1) (hM : MT I2 tp1) (f : ∀ a, a ≠ 1 → a ≠ 2 → a ≠ 76 → a ≠ 80 → I2 a = I a) (f7 : ∀ k, k ≠ 6 → I2 76 k = I 76 k) : Jv Z I2 w h S K tx tk tp1 ts := by
  obtain ⟨j1, j2, j3, j4, j5, j6, j7, j8, j9, j10, j11, j12, j13, j14, j15, j16⟩ := j
  refine ⟨j1.kept (fun a ha => f a (by unfold stA at ha; omega) (by unfold stA at ha; omega) (by unfold stA at ha; omega) (by unfold stA at ha; omega)), j2.w (f7 2 (by decide)) (f7 3 (by decide)) (f 77 (by decide) (by decide) (by decide) (by decide)) (f 79 (by decide) (by decide) (by decide) (by decide)) (f 82 (by decide) (by decide) (by decide) (by decide)), j3.kept (fun a ha => f a (by unfold stS at ha; omega) (by unfold stS at ha; omega) (by unfold stS at ha; omega) (by unfold stS at ha; omega)), j4, j5, j6.fz (f 78 (by decide) (by decide) (by decide) (by decide)), j7, j8, j9.fz (fun a ha => f a (by omega) (by omega) (by omega) (by omega)), j10.fz (fun a ha => f a (by omega) (by omega) (by omega) (by omega)), j11.kept (fun a a1 a2 => f a (by omega) (by omega) (by omega) (by omega)), hI, h8, hM, ?_, ?_⟩
  · rw [f 0 (by decide) (by decide) (by decide) (by decide), f7 7 (by decide)]; exact j15
  · rw [f 0 (by decide) (by decide) (by decide) (by decide), f7 8 (by decide)]; exact j16
theorem byte_lt (x : Int32) (s : Nat) : byteF x s < 256 := by
  unfold byteF
  rw [BitVec.toNat_and]
  exact Nat.lt_of_le_of_lt Nat.and_le_right (by decide)
theorem T8.feed (h : T8 tp) (x1 x2 x3 x4 x5 : Int32) : T8 (tp ++ feedL x1 x2 x3 x4 x5) := by
  intro k v hv
  have hm := List.mem_of_getElem? hv
  rcases List.mem_append.mp hm with h1 | h1
  · obtain ⟨i, hi⟩ := List.mem_iff_getElem?.mp h1
    exact h i v hi
  · unfold feedL fourL at h1
    simp only [List.mem_append, List.mem_cons, List.not_mem_nil, or_false] at h1
    rcases h1 with ((((h1 | h1 | h1 | h1) | h1 | h1 | h1 | h1) | h1 | h1 | h1 | h1) | h1 | h1 | h1 | h1) | h1 | h1 | h1 | h1 <;> rw [h1] <;> exact byte_lt _ _
theorem T8.take (h : T8 tp) (n : Nat) : T8 (tp.take n) := by
  intro k v hv
  obtain ⟨i, hi⟩ := List.mem_iff_getElem?.mp (List.mem_of_mem_take (List.mem_of_getElem? hv))
  exact h i v hi
theorem ag_feed (j : Jv Z I w h S K tx tk tp ts) (x1 x2 x3 x4 x5 : Int32) : AgI g 3 2 mu_X11_feed mu_X12_feed [.int x1, .int x2, .int x3, .int x4, .int x5] (Z, I, L) w h := by
  obtain ⟨j1, j2, j3, j4, j5, j6, j7, j8, j9, j10, j11, j12, j13, j14, j15, j16⟩ := id j
  by_cases hl : tp.length + 20 ≤ 300
  · obtain ⟨I1, c1, c2, c3⟩ := op_feed (g := g) (L := L) j1.1.1 j12 x1 x2 x3 x4 x5 hl
    obtain ⟨I2, m1, m2, m3, m4⟩ := mo_feed (g := g) (L := L) j1.1.1 (j14.fz (I1 := I1) (by rw [c3 76 (by decide) (by decide)]) (c3 80 (by decide) (by decide))) x1 x2 x3 x4 x5 hl
    refine ⟨_, _, _, c1, m1, ⟨S, K, tx, tk, _, ts, j.tpz (c2.kept (congrFun (m3 1 (by decide) (by decide)) 1) (fun k _ => congrFun (m3 2 (by decide) (by decide)) k)) (j13.feed x1 x2 x3 x4 x5) m2 (fun a a1 a2 a3 a4 => (m3 a a3 a4).trans (c3 a a1 a2)) (fun k hk => (m4 k hk).trans (by rw [c3 76 (by decide) (by decide)]))⟩, Nat.le_add_right _ _, Nat.le_add_right _ _⟩
  · exact ag_no j (op_feedN j1.1.1 j12 x1 x2 x3 x4 x5 hl) (mo_feedN j1.1.1 j14 x1 x2 x3 x4 x5 hl)
theorem ag_end (j : Jv Z I w h S K tx tk tp ts) (x : Int32) : AgI g 3 2 mu_X11_end mu_X12_end [.int x] (Z, I, L) w h := by
  obtain ⟨j1, j2, j3, j4, j5, j6, j7, j8, j9, j10, j11, j12, j13, j14, j15, j16⟩ := id j
  by_cases hv : ∃ n, x = nI n ∧ n ≤ tp.length
  · obtain ⟨n, rfl, hn⟩ := hv
    obtain ⟨I1, c1, c2, c3⟩ := op_end (g := g) (L := L) j1.1.1 j12 hn
    obtain ⟨I2, m1, m2, m3, m4⟩ := mo_end (g := g) (L := L) j1.1.1 (j14.fz (I1 := I1) (by rw [c3 76 (by decide) (by decide)]) (c3 80 (by decide) (by decide))) hn
    refine ⟨_, _, _, c1, m1, ⟨S, K, tx, tk, _, ts, j.tpz (c2.kept (congrFun (m3 1 (by decide) (by decide)) 1) (fun k _ => congrFun (m3 2 (by decide) (by decide)) k)) (j13.take n) m2 (fun a a1 a2 a3 a4 => (m3 a a3 a4).trans (c3 a a1 a2)) (fun k hk => (m4 k hk).trans (by rw [c3 76 (by decide) (by decide)]))⟩, Nat.le_add_right _ _, Nat.le_add_right _ _⟩
  · exact ag_no j (op_endN j1.1.1 j12 hv) (mo_endN j1.1.1 j14 hv)
theorem ag_text (j : Jv Z I w h S K tx tk tp ts) : AgI g 83 9 mu_X11_text mu_X12_text [] (Z, I, L) w h := by
  obtain ⟨j1, j2, j3, j4, j5, j6, j7, j8, j9, j10, j11, j12, j13, j14, j15, j16⟩ := id j
  have hS := j1.1.1
  have h99 := hS.1
  have h77 : I 77 1 = nI tx.length := j2.1.2.2.2.2.1.2.2.1
  have h4 : tx.length ≤ 4 := j2.1.2.2.2.2.2.1
  by_cases hn : tx.length = 4
  · exact ag_no j (op_textN j1 hn) (mo_textN hS (by rw [h77, hn]; rfl))
  have hn4 : tx.length < 4 := by omega
  have o := op_text (g := g) (L := L) j1 hn4 j12 j13 j11
  have mk : ∀ (Z1 : Zs) (I1 : Nat → Nat → Int32) (L1 : Nat → Nat → Int64), Sh Z1 → I1 76 = I 76 → I1 80 = I 80 → I1 77 = I 77 → MtO g Z1 L1 tp tx.length I1 (rdF (kT (tkL tp)) (vT (tkL tp)) 3100 4 0 (none, none, none)) := fun Z1 I1 L1 s1 e6 e8 e7 =>
    mo_text (g := g) (L := L1) s1 j13 (j14.fz (I1 := I1) (by rw [e6]) e8) hn4 (by rw [e7]; exact h77)
  generalize rdF (kT (tkL tp)) (vT (tkL tp)) 3100 4 0 (none, none, none) = R at o mk
  match R, o, mk with
  | .inl q, o, mk =>
    obtain ⟨I1, c1, c2, c3, -, -, c4⟩ := o
    obtain ⟨I2, L2, m1, m2, m3⟩ := mk Z I1 L hS (c4 76 (by decide)) (c4 80 (by decide)) (c4 77 (by decide)) (by omega)
    obtain ⟨a1, a2, a3, a4, a5⟩ := c2
    have mb1 : MB Z I1 w h S tx := j2.fz (fun a ha => c4 a (by omega))
    have mb2 := m2.mbN m3 mb1 hn4
    obtain ⟨b1, b2, b3, b4, b5, b6, b7⟩ := m2
    have fo : ∀ a, 13 ≤ a → a ≠ 76 → a ≠ 77 → a ≠ 79 → a ≠ 81 → I2 a = I a := fun a h1 h2 h3 h4 h5 => (b4 a h2 h3 h4 h5).trans (c4 a h1)
    refine ⟨_, _, _, c1, m1, ⟨S, K, tx, tk, [], tkL tp, j1.kept (fun a ha => fo a (by unfold stA at ha; omega) (by unfold stA at ha; omega) (by unfold stA at ha; omega) (by unfold stA at ha; omega) (by unfold stA at ha; omega)), mb2, j3.kept (fun a ha => fo a (by unfold stS at ha; omega) (by unfold stS at ha; omega) (by unfold stS at ha; omega) (by unfold stS at ha; omega) (by unfold stS at ha; omega)), j4, j5, j6.fz (fo 78 (by decide) (by decide) (by decide) (by decide) (by decide)), j7, j8, j9.fz (fun a ha => fo a (by omega) (by omega) (by omega) (by omega) (by omega)), j10.fz (fun a ha => fo a (by omega) (by omega) (by omega) (by omega) (by omega)), a5.kept (fun a a1 a2 => b4 a (by omega) (by omega) (by omega) (by omega)), a4.kept (congrFun (b4 1 (by decide) (by decide) (by decide) (by decide)) 1) (fun k _ => congrFun (b4 2 (by decide) (by decide) (by decide) (by decide)) k), fun k v hv => by simp at hv, b3, ?_, ?_⟩, Nat.le_add_right _ _, Nat.le_add_right _ _⟩
    · show I2 0 10 = I2 76 7
      rw [b4 0 (by decide) (by decide) (by decide) (by decide), a1, b1]
    · show I2 0 11 = I2 76 8
      rw [b4 0 (by decide) (by decide) (by decide) (by decide), a2, b2]
  | .inr t, o, mk =>
    obtain ⟨gd, Z1, I1, L1, c1, c2, r⟩ := o
    have zg := r.1
    have fr : ∀ a, 13 ≤ a → a ≠ 18 → a < 99 → I1 a = I a := fun a h1 h2 h3 => r.2.2.2.2.2.2.2.2.2.1 a h1 h2 (by omega)
    obtain ⟨I2, L2, m1, m2, m3, m4⟩ := mk Z1 I1 L1 (hS.g zg) (fr 76 (by decide) (by decide) (by decide)) (fr 80 (by decide) (by decide) (by decide)) (fr 77 (by decide) (by decide) (by decide))
    obtain ⟨a1, a2, a3, a4, a5⟩ := c2
    have ok := tx_ok gd
    have mb1 : MB Z1 I1 w h S tx := (j2.g zg).fz (fun a ha => fr a (by omega) (by omega) (by omega))
    have mb2 := m2.mb m3 m4 mb1 hn4 ok
    have cl1 := r.cl j1 hn4 ok
    obtain ⟨b1, b2, b3, b4, b5, b6, b7⟩ := m2
    have pot := r.pot hS
    refine ⟨_, _, _, c1, m1, ⟨S, K, tx ++ [txE t], tk, [], tkL tp, cl1.kept (fun a ha => b4 a (by unfold stA at ha; omega) (by unfold stA at ha; omega) (by unfold stA at ha; omega) (by unfold stA at ha; omega)), mb2, (r.ss hS j3).kept (fun a ha => b4 a (by unfold stS at ha; omega) (by unfold stS at ha; omega) (by unfold stS at ha; omega) (by unfold stS at ha; omega)), j4, ?_, ?_, r.rq hS j7, r.si hS j8, (r.sx hS j9).fz (fun a ha => b4 a (by omega) (by omega) (by omega) (by omega)), (r.px hS j10).fz (fun a ha => b4 a (by omega) (by omega) (by omega) (by omega)), a5.kept (fun a a1 a2 => b4 a (by omega) (by omega) (by omega) (by omega)), a4.kept (congrFun (b4 1 (by decide) (by decide) (by decide) (by decide)) 1) (fun k _ => congrFun (b4 2 (by decide) (by decide) (by decide) (by decide)) k), fun k v hv => by simp at hv, b3, ?_, ?_⟩, by show pxZ Z1 ≤ pxZ Z + 2; omega, pot.2⟩
    · intro k t' hk
      have h1 := j5 k t' hk
      rw [List.getElem?_append_left (List.getElem?_eq_some_iff.mp h1).1]
      exact h1
    · exact j6.fz ((b4 78 (by decide) (by decide) (by decide) (by decide)).trans (fr 78 (by decide) (by decide) (by decide)))
    · show I2 0 10 = I2 76 7
      rw [b4 0 (by decide) (by decide) (by decide) (by decide), a1, b1]
    · show I2 0 11 = I2 76 8
      rw [b4 0 (by decide) (by decide) (by decide) (by decide), a2, b2]
theorem RQ.gs (q : RQ Z) (gs : GSz Z Z1) : RQ Z1 := fun a k b ha hk hb => by
  have e : Z1.2.1 a k = Z.2.1 a k := by
    rcases ha with rfl | rfl
    · rw [gs.2.1]
    · rw [gs.2.2.1]
  rw [e] at hb
  obtain ⟨h1, h2⟩ := q a k b ha hk hb
  exact ⟨h1, h2.g gs.1⟩
theorem PXz.gs (hX : PXz Z I w h) (hS : Sh Z) (gs : GSz Z Z1) (e : Z1.2.1 0 13 = Z.2.1 0 13) (fr : SFr Z I I1) : PXz Z1 I1 w h := fun pa h13 => by
  rw [e] at h13
  obtain ⟨h1, h2, h3, h4⟩ := hX pa h13
  have ei : I1 pa = I pa := fr pa h1.2.1.1 (by have := h1.1; unfold nowA; omega) (Or.inr h1.2.1.2)
  exact ⟨h1.grw gs.1, gs.xf hS.1 hS.no6 h2, by rw [ei]; exact h3, by rw [ei]; exact h4⟩
theorem SXz.gs (hX : SXz Z I) (hS : Sh Z) (gs : GSz Z Z1) (e : Z1.2.1 0 12 = Z.2.1 0 12) (fr : PFr Z I I1) : SXz Z1 I1 := fun sa h12 => by
  rw [e] at h12
  obtain ⟨h1, h2, m, h3, h4⟩ := hX sa h12
  have k1 := h1.2.2.2.1.2.1
  have ei : I1 (sa + 1) = I (sa + 1) := fr (sa + 1) k1.1 (by have := h1.1; unfold nowA; omega) (Or.inr k1.2)
  exact ⟨h1.grw gs.1, gs.xf hS.1 hS.no6 h2, m, h3, by rw [ei]; exact h4⟩
theorem Jv.grow (j : Jv Z I w h S K tx tk tp ts) (gs : GSz Z Z1) (c : CL Z1 I1 w h S tx) (i1 : SIz Z1) (x1 : SXz Z1 I1) (p1 : PXz Z1 I1 w h) (s1 : SS Z1 I1 24 w h K tk) (f : ∀ a, a < 99 → ¬ nowA a → I1 a = I a) (m : MB Z1 I2 w h S tx) (fm : ∀ a, pAz a → I2 a = I1 a) (f7 : ∀ k, k = 6 ∨ k = 7 ∨ k = 8 → I2 76 k = I1 76 k) : Jv Z1 I2 w h S K tx tk tp ts := by
  obtain ⟨j1, j2, j3, j4, j5, j6, j7, j8, j9, j10, j11, j12, j13, j14, j15, j16⟩ := id j
  have f2 : ∀ a, pAz a → a < 99 → ¬ nowA a → I2 a = I a := fun a h1 h2 h3 => (fm a h1).trans (f a h2 h3)
  refine j.mk2 gs.1 (c.pz fm) m (s1.kept (fun a ha => fm a (by unfold stS at ha; unfold pAz; omega))) j4 j5 (j6.fz (f2 78 (by unfold pAz; omega) (by decide) (by unfold nowA; omega))) (j7.gs gs) i1 (x1.fz (fun a ha => fm a (by unfold pAz; omega))) (p1.fz (fun a ha => fm a (by unfold pAz; omega))) (fun a ha => f2 a (by unfold pAz; omega) (by omega) (by unfold nowA; omega)) (fun k hk => (f7 k hk).trans (by rw [f 76 (by decide) (by unfold nowA; omega)]))
theorem ag_grow {d1 d2 : Nat} {μ ν : MD} {As : List Value} {v : Int32} (j : Jv Z I w h S K tx tk tp ts) (c0 : Cl g d1 μ (rf g 0 :: As) (Z, I, L) (some (.int v)) (Z1, I1, L1)) (gs : GSz Z Z1) (c : CL Z1 I1 w h S tx) (i1 : SIz Z1) (x1 : SXz Z1 I1) (p1 : PXz Z1 I1 w h) (s1 : SS Z1 I1 24 w h K tk) (f : ∀ a, a < 99 → ¬ nowA a → I1 a = I a) (m0 : Cl g d2 ν (rf g 76 :: As) (Z1, I1, L1) (some (.int v)) (Z1, I2, L2)) (m : MB Z1 I2 w h S tx) (fm : ∀ a, pAz a → I2 a = I1 a) (f7 : ∀ k, k = 6 ∨ k = 7 ∨ k = 8 → I2 76 k = I1 76 k) : AgI g d1 d2 μ ν As (Z, I, L) w h :=
  ⟨v, _, _, c0, m0, ⟨S, K, tx, tk, tp, ts, j.grow gs c i1 x1 p1 s1 f m fm f7⟩, Nat.le_trans gs.2.2.2.1 (Nat.le_add_right _ _), Nat.le_trans gs.2.2.2.2.1 (Nat.le_add_right _ _)⟩
theorem Jv.mbg (j : Jv Z I w h S K tx tk tp ts) (z : ZG Z Z1) (f : ∀ a, a < 99 → ¬ nowA a → I1 a = I a) : MB Z1 I1 w h S tx := (j.2.1.g z).fz (fun a ha => f a (by omega) (by unfold nowA; omega))
theorem fmM (f : MFr I I1) : (∀ a, pAz a → I1 a = I a) ∧ ∀ k, k = 6 ∨ k = 7 ∨ k = 8 → I1 76 k = I 76 k := ⟨fun a ha => f.1 a (by unfold pAz at ha; unfold modA; omega) (by unfold pAz at ha; omega), fun k hk => f.2 k (by omega) (by omega)⟩
theorem ag_fewest (j : Jv Z I w h S K tx tk tp ts) (x1 x2 x3 x4 : Int32) : AgI g 8 8 mu_X11_fewest mu_X12_fewest [.int x1, .int x2, .int x3, .int x4] (Z, I, L) w h := by
  obtain ⟨j1, j2, j3, j4, j5, j6, j7, j8, j9, j10, j11, j12, j13, j14, j15, j16⟩ := id j
  have h99 := j1.1.1.1
  by_cases hv : vFew w h S tx x1 x2 x3 x4
  · obtain ⟨⟨n, rfl, h0, hn, hb⟩, ⟨p, rfl, hp⟩, ⟨q, rfl, hc⟩, h4⟩ := hv
    obtain ⟨Z1, I1, L1, c0, gs, e13, c, i1, x1, s1, fr⟩ := op_fewest (g := g) (L := L) j1 j8 j9 j3 h0 hn hb hp hc h4
    have f : ∀ a, a < 99 → ¬ nowA a → I1 a = I a := fun a h1 h2 => fr a (by omega) h2 (Or.inl h1)
    obtain ⟨I2, L2, m0, m, fm⟩ := mo_fewest (g := g) (L := L1) (j.mbg gs.1 f) h0 hn hb hp hc h4
    exact ag_grow j c0 gs c i1 x1 (j10.gs j1.1.1 gs e13 fr) s1 f m0 m (fmM fm).1 (fmM fm).2
  · exact ag_no j (op_fewestN j1 hv) (mo_fewestN j2 hv)
theorem ag_tells (j : Jv Z I w h S K tx tk tp ts) (x1 x2 x3 x4 : Int32) : AgI g 8 8 mu_X11_tells mu_X12_tells [.int x1, .int x2, .int x3, .int x4] (Z, I, L) w h := by
  obtain ⟨j1, j2, j3, j4, j5, j6, j7, j8, j9, j10, j11, j12, j13, j14, j15, j16⟩ := id j
  have h99 := j1.1.1.1
  by_cases hv : vTel w h S tx x1 x2 x3 x4
  · obtain ⟨⟨o1, rfl, h1⟩, ⟨o2, rfl, h2⟩, ⟨p, rfl, hp⟩, h4⟩ := hv
    obtain ⟨Z1, I1, L1, c0, gs, e13, c, i1, x1, s1, fr⟩ := op_tells (g := g) (L := L) j1 j8 j9 j3 h1 h2 hp h4
    have f : ∀ a, a < 99 → ¬ nowA a → I1 a = I a := fun a h1 h2 => fr a (by omega) h2 (Or.inl h1)
    obtain ⟨I2, L2, m0, m, fm⟩ := mo_tells (g := g) (L := L1) (j.mbg gs.1 f) h1 h2 hp h4
    exact ag_grow j c0 gs c i1 x1 (j10.gs j1.1.1 gs e13 fr) s1 f m0 m (fmM fm).1 (fmM fm).2
  · exact ag_no j (op_tellsN j1 hv) (mo_tellsN j2 hv)
theorem ag_chase (j : Jv Z I w h S K tx tk tp ts) (x1 x2 x3 x4 : Int32) : AgI g 8 8 mu_X11_chase mu_X12_chase [.int x1, .int x2, .int x3, .int x4] (Z, I, L) w h := by
  obtain ⟨j1, j2, j3, j4, j5, j6, j7, j8, j9, j10, j11, j12, j13, j14, j15, j16⟩ := id j
  have h99 := j1.1.1.1
  by_cases hv : vCha w h S tx x1 x2 x3 x4
  · obtain ⟨⟨a, rfl, h1⟩, ⟨p, rfl, h2⟩, ⟨b, rfl, h3⟩, q, rfl, h4⟩ := hv
    obtain ⟨r, Z1, I1, L1, c0, hr, gs, e12, c, i1, p1, s1, fr⟩ := op_chase (g := g) (L := L) j1 j8 j10 j3 h1 h2 h3 h4
    have f : ∀ a, a < 99 → ¬ nowA a → I1 a = I a := fun a h1 h2 => fr a (by omega) h2 (Or.inl h1)
    obtain ⟨r2, I2, L2, m0, hr2, m, fm⟩ := mo_chase (g := g) (L := L1) (j.mbg gs.1 f) h1 h2 h3 h4
    cases hr.uniq hr2
    exact ag_grow j c0 gs c i1 (j9.gs j1.1.1 gs e12 fr) p1 s1 f m0 m (fmN fm).1 (fmN fm).2
  · exact ag_no j (op_chaseN j1 hv) (mo_chaseN j2 hv)
theorem ag_hunt (j : Jv Z I w h S K tx tk tp ts) (x1 x2 x3 x4 : Int32) : AgI g 8 8 mu_X11_hunt mu_X12_hunt [.int x1, .int x2, .int x3, .int x4] (Z, I, L) w h := by
  obtain ⟨j1, j2, j3, j4, j5, j6, j7, j8, j9, j10, j11, j12, j13, j14, j15, j16⟩ := id j
  have h99 := j1.1.1.1
  by_cases hv : vCha w h S tx x1 x2 x3 x4
  · obtain ⟨⟨a, rfl, h1⟩, ⟨p, rfl, h2⟩, ⟨b, rfl, h3⟩, q, rfl, h4⟩ := hv
    obtain ⟨r, Z1, I1, L1, c0, hr, gs, e12, c, i1, p1, s1, fr⟩ := op_hunt (g := g) (L := L) j1 j8 j10 j3 h1 h2 h3 h4
    have f : ∀ a, a < 99 → ¬ nowA a → I1 a = I a := fun a h1 h2 => fr a (by omega) h2 (Or.inl h1)
    obtain ⟨r2, I2, L2, m0, hr2, m, fm⟩ := mo_hunt (g := g) (L := L1) (j.mbg gs.1 f) h1 h2 h3 h4
    cases hr.uniq hr2
    exact ag_grow j c0 gs c i1 (j9.gs j1.1.1 gs e12 fr) p1 s1 f m0 m (fmN fm).1 (fmN fm).2
  · exact ag_no j (op_huntN j1 hv) (mo_huntN j2 hv)
theorem ZB.kz {c a t : Nat} (z : ZB Z Z1 c) (k : KM Z1 a t) : KM Z a t := by
  unfold KM at k ⊢
  rw [z.1, z.2.1] at k; exact k
theorem ZB.xf {c sa : Nat} (z : ZB Z Z1 c) (hS : Sh Z) (hc : c = 39 ∨ c = 63) (hX : XF Z sa) : XF Z1 sa := fun sc ar k hr => by
  have k0 := z.kz k
  have hne : sc ≠ c := fun e => hS.no6 c (by omega) (by rw [← e]; exact k0.2)
  rw [z.2.2 sc hne] at hr
  exact hX sc ar k0 hr
theorem ZB.si {c : Nat} (z : ZB Z Z1 c) (hS : Sh Z) (hc : c = 39 ∨ c = 63) (hX : SIz Z) : SIz Z1 := fun sc ar k hr => by
  have k0 := z.kz k
  have hne : sc ≠ c := fun e => hS.no6 c (by omega) (by rw [← e]; exact k0.2)
  rw [z.2.2 sc hne] at hr
  rw [z.2.1]
  exact hX sc ar k0 hr
theorem ZB.sx {c : Nat} (z : ZB Z Z1 c) (hS : Sh Z) (hc : c = 39 ∨ c = 63) (hX : SXz Z I) : SXz Z1 I := fun sa h12 => by
  rw [z.2.2 0 (by omega)] at h12
  obtain ⟨h1, h2, h3⟩ := hX sa h12
  exact ⟨h1.grw (z.zg hc), z.xf hS hc h2, h3⟩
theorem ZB.px {c : Nat} (z : ZB Z Z1 c) (hS : Sh Z) (hc : c = 39 ∨ c = 63) (hX : PXz Z I w h) : PXz Z1 I w h := fun pa h13 => by
  rw [z.2.2 0 (by omega)] at h13
  obtain ⟨h1, h2, h3⟩ := hX pa h13
  exact ⟨h1.grw (z.zg hc), z.xf hS hc h2, h3⟩
theorem ZB.pot {c : Nat} (z : ZB Z Z1 c) (hc : c = 39 ∨ c = 63) : pxZ Z1 = pxZ Z ∧ psZ Z1 = psZ Z := by
  unfold pxZ psZ
  rw [z.2.1, z.2.2 0 (by omega)]
  exact ⟨rfl, rfl⟩
theorem ag_image (j : Jv Z I w h S K tx tk tp ts) : AgI g 4 2 mu_X11_image mu_X12_image [] (Z, I, L) w h := by
  obtain ⟨j1, j2, j3, j4, j5, j6, j7, j8, j9, j10, j11, j12, j13, j14, j15, j16⟩ := id j
  have hS := j1.1.1
  obtain ⟨Z1, I1, c0, zb, rq, c, s1, fr⟩ := op_image (g := g) (L := L) j1 j7 j3
  have zg := zb.zg (Or.inr rfl)
  have f : ∀ a, ¬ (42 ≤ a ∧ a ≤ 65) → I1 a = I a := fun a ha => fr a ha
  obtain ⟨I2, m0, m, mr, fm⟩ := mo_image (g := g) (Z := Z1) (I := I1) (L := L) ((j2.g zg).fz (fun a ha => f a (by omega)))
  have pot := zb.pot (Or.inr rfl)
  refine ⟨_, _, _, c0, m0, ⟨S, S, tx, tx, tp, ts, j.mk2 zg (c.kept (fun a ha => fm a (by unfold stA at ha; omega))) m (s1.kept (fun a ha => fm a (by unfold stS at ha; omega))) j2.2.1 (fun _ _ e => e) mr rq (zb.si hS (Or.inr rfl) j8) ((zb.sx hS (Or.inr rfl) j9).fz (fun a ha => (fm a (by omega)).trans (f a (by omega)))) ((zb.px hS (Or.inr rfl) j10).fz (fun a ha => (fm a (by omega)).trans (f a (by omega)))) (fun a ha => (fm a (by omega)).trans (f a (by omega))) (fun k _ => congrFun ((fm 76 (by decide)).trans (f 76 (by omega))) k)⟩, ?_, ?_⟩
  · show pxZ Z1 ≤ pxZ Z + 2
    omega
  · show psZ Z1 ≤ psZ Z + 604
    omega
theorem ag_back (j : Jv Z I w h S K tx tk tp ts) : AgI g 4 2 mu_X11_back mu_X12_back [] (Z, I, L) w h := by
  obtain ⟨j1, j2, j3, j4, j5, j6, j7, j8, j9, j10, j11, j12, j13, j14, j15, j16⟩ := id j
  have hS := j1.1.1
  obtain ⟨Z1, I1, c0, zb, rq, c, s1, fr⟩ := op_back (g := g) (L := L) j1 j7 j3 j4
  have zg := zb.zg (Or.inl rfl)
  have fc := fcN fr
  obtain ⟨I2, m0, m, mr, fm⟩ := mo_back (g := g) (Z := Z1) (I := I1) (L := L) ((j2.g zg).fz (fun a ha => fc a (by unfold qAz; omega))) (j6.fz (fc 78 (by unfold qAz; omega))) j4 j5 j3.2.2.2.2.2.1
  have pot := zb.pot (Or.inl rfl)
  have f2 := (fmN fm).1
  have ff : ∀ a, pAz a → qAz a → I2 a = I a := fun a h1 h2 => (f2 a h1).trans (fc a h2)
  refine ⟨_, _, _, c0, m0, ⟨K, K, tk, tk, tp, ts, j.mk2 zg (c.pz f2) m (s1.kept (fun a ha => f2 a (by unfold stS at ha; unfold pAz; omega))) j4 (fun _ _ e => e) mr rq (zb.si hS (Or.inl rfl) j8) ((zb.sx hS (Or.inl rfl) j9).fz (fun a ha => ff a (by unfold pAz; omega) (by unfold qAz; omega))) ((zb.px hS (Or.inl rfl) j10).fz (fun a ha => ff a (by unfold pAz; omega) (by unfold qAz; omega))) (fun a ha => ff a (by unfold pAz; omega) (by unfold qAz; omega)) (fun k hk => ((fmN fm).2 k hk).trans (by rw [fc 76 (by unfold qAz; omega)]))⟩, ?_, ?_⟩
  · show pxZ Z1 ≤ pxZ Z + 2
    omega
  · show psZ Z1 ≤ psZ Z + 604
    omega
end AGREE2
