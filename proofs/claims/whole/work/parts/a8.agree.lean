/-! both sides of each call: they agree, and what holds between calls holds again -/
def qAz (a : Nat) : Prop := a = 0 ∨ a = 1 ∨ a = 2 ∨ (5 ≤ a ∧ a ≤ 10) ∨ (42 ≤ a ∧ a ≤ 65) ∨ (76 ≤ a ∧ a ≤ 82) ∨ 99 ≤ a
def pAz (a : Nat) : Prop := a = 0 ∨ a = 1 ∨ a = 2 ∨ (5 ≤ a ∧ a ≤ 10) ∨ (13 ≤ a ∧ a ≤ 15) ∨ (18 ≤ a ∧ a ≤ 65) ∨ a = 67 ∨ a = 78 ∨ a = 80 ∨ 99 ≤ a
def AgI (g : GE) (d1 d2 : Nat) (μ ν : MD) (As : List Value) (M : Mem) (w h : Nat) : Prop := ∃ (v : Int32) (M1 M2 : Mem), Cl g d1 μ (rf g 0 :: As) M (some (.int v)) M1 ∧ Cl g d2 ν (rf g 76 :: As) M1 (some (.int v)) M2 ∧ (∃ S K tx tk tp ts, Jv M2.1 M2.2.1 w h S K tx tk tp ts) ∧ pxZ M2.1 ≤ pxZ M.1 + 2 ∧ psZ M2.1 ≤ psZ M.1 + 604
def AgL (g : GE) (d1 d2 : Nat) (μ ν : MD) (As : List Value) (M : Mem) (w h : Nat) : Prop := ∃ (v : Int64) (M1 M2 : Mem), Cl g d1 μ (rf g 0 :: As) M (some (.long v)) M1 ∧ Cl g d2 ν (rf g 76 :: As) M1 (some (.long v)) M2 ∧ (∃ S K tx tk tp ts, Jv M2.1 M2.2.1 w h S K tx tk tp ts) ∧ pxZ M2.1 ≤ pxZ M.1 + 2 ∧ psZ M2.1 ≤ psZ M.1 + 604
section AGREE
variable {g : GE} {Z Z1 : Zs} {I I1 I2 : Nat → Nat → Int32} {L L1 L2 : Nat → Nat → Int64} {w h : Nat} {S K S1 K1 : Nat → List Nat} {tx tk tx1 tk1 : List TX} {tp tp1 : List Nat} {ts ts1 : List (Nat × Nat × Nat)}
theorem MB.fz (m : MB Z I w h S tx) (e : ∀ a, a = 76 ∨ a = 77 ∨ a = 79 ∨ a = 82 → I1 a = I a) : MB Z I1 w h S tx := m.w (by rw [e 76 (by omega)]) (by rw [e 76 (by omega)]) (e 77 (by omega)) (e 79 (by omega)) (e 82 (by omega))
theorem MR.fz {n a : Nat} (r : MR I a w h S n) (e : I1 a = I a) : MR I1 a w h S n := by
  unfold MR at r ⊢
  rw [e]; exact r
theorem SXz.fz (hX : SXz Z I) (e : ∀ a, 99 ≤ a → I1 a = I a) : SXz Z I1 := fun sa h12 => by
  obtain ⟨h1, h2, m, h3, h4⟩ := hX sa h12
  exact ⟨h1, h2, m, h3, by rw [e _ (by have := h1.1; omega)]; exact h4⟩
theorem PXz.fz (hX : PXz Z I w h) (e : ∀ a, 99 ≤ a → I1 a = I a) : PXz Z I1 w h := fun pa h13 => by
  obtain ⟨h1, h2, h3, h4⟩ := hX pa h13
  exact ⟨h1, h2, by rw [e _ h1.1]; exact h3, by rw [e _ h1.1]; exact h4⟩
theorem MT.fz (hT : MT I tp) (e6 : I1 76 6 = I 76 6) (e80 : I1 80 = I 80) : MT I1 tp := by
  unfold MT at hT ⊢
  rw [e6, e80]; exact hT
/-- the rest, where cells may have grown -/
theorem Jv.mk2 (j : Jv Z I w h S K tx tk tp ts) (z : ZG Z Z1) (c2 : CL Z1 I2 w h S1 tx1) (m2 : MB Z1 I2 w h S1 tx1) (s2 : SS Z1 I2 24 w h K1 tk1) (w2 : WF w h K1 tk1) (t2 : TP tk1 tx1) (r2 : MR I2 78 w h K1 tk1.length) (q2 : RQ Z1) (i2 : SIz Z1) (x2 : SXz Z1 I2) (p2 : PXz Z1 I2 w h) (f : ∀ a, a = 0 ∨ a = 1 ∨ a = 2 ∨ (5 ≤ a ∧ a ≤ 10) ∨ a = 80 → I2 a = I a) (f7 : ∀ k, k = 6 ∨ k = 7 ∨ k = 8 → I2 76 k = I 76 k) : Jv Z1 I2 w h S1 K1 tx1 tk1 tp ts := by
  obtain ⟨j1, j2, j3, j4, j5, j6, j7, j8, j9, j10, j11, j12, j13, j14, j15, j16⟩ := j
  have e0 := f 0 (by omega)
  refine ⟨c2, m2, s2, w2, t2, r2, q2, i2, x2, p2, ?_, ?_, j13, j14.fz (f7 6 (by omega)) (f 80 (by omega)), by rw [e0, f7 7 (by omega)]; exact j15, by rw [e0, f7 8 (by omega)]; exact j16⟩
  · have k := j11.kept (I1 := I2) (fun a a1 a2 => f a (by omega))
    exact ⟨k.1.g z (by decide) (by decide) (by decide), k.2.1.g z (by decide) (by decide) (by decide), k.2.2.g z (by decide) (by decide) (by decide)⟩
  · exact (j12.kept (I1 := I2) (by rw [f 1 (by omega)]) (fun k _ => by rw [f 2 (by omega)])).g z (by decide) (by decide) (by decide)
/-- the same cells -/
theorem Jv.st (j : Jv Z I w h S K tx tk tp ts) (c2 : CL Z I2 w h S1 tx) (m2 : MB Z I2 w h S1 tx) (f : ∀ a, a = 0 ∨ a = 1 ∨ a = 2 ∨ (5 ≤ a ∧ a ≤ 10) ∨ (42 ≤ a ∧ a ≤ 65) ∨ a = 78 ∨ a = 80 ∨ 99 ≤ a → I2 a = I a) (f7 : ∀ k, k = 6 ∨ k = 7 ∨ k = 8 → I2 76 k = I 76 k) : Jv Z I2 w h S1 K tx tk tp ts := by
  obtain ⟨j1, j2, j3, j4, j5, j6, j7, j8, j9, j10, j11, j12, j13, j14, j15, j16⟩ := id j
  refine j.mk2 (ZG.refl Z) c2 m2 (j3.kept (fun a ha => f a (by unfold stS at ha; omega))) j4 j5 (j6.fz (f 78 (by omega))) j7 j8 (j9.fz (fun a ha => f a (by omega))) (j10.fz (fun a ha => f a (by omega))) (fun a ha => f a (by omega)) f7
theorem CL.pz (c : CL Z I w h S tx) (f : ∀ a, pAz a → I1 a = I a) : CL Z I1 w h S tx := c.kept (fun a ha => f a (by unfold stA at ha; unfold pAz; omega))
theorem fcN (f : ∀ a, ¬ nowA a → I1 a = I a) : ∀ a, qAz a → I1 a = I a := fun a ha => f a (by unfold qAz at ha; unfold nowA; omega)
theorem fmN (f : ∀ a, ¬ modA a → I1 a = I a) : (∀ a, pAz a → I1 a = I a) ∧ ∀ k, k = 6 ∨ k = 7 ∨ k = 8 → I1 76 k = I 76 k := ⟨fun a ha => f a (by unfold pAz at ha; unfold modA; omega), fun k _ => by rw [f 76 (by unfold modA; omega)]⟩
theorem Jv.mb1 (j : Jv Z I w h S K tx tk tp ts) (fc : ∀ a, qAz a → I1 a = I a) : MB Z I1 w h S tx := j.2.1.fz (fun a ha => fc a (by unfold qAz; omega))
theorem Jv.two (j : Jv Z I w h S K tx tk tp ts) (c : CL Z I1 w h S1 tx) (fc : ∀ a, qAz a → I1 a = I a) (m : MB Z I2 w h S1 tx) (fm : ∀ a, pAz a → I2 a = I1 a) (f7 : ∀ k, k = 6 ∨ k = 7 ∨ k = 8 → I2 76 k = I1 76 k) : Jv Z I2 w h S1 K tx tk tp ts :=
  j.st (c.pz fm) m (fun a ha => (fm a (by unfold pAz; omega)).trans (fc a (by unfold qAz; omega))) (fun k hk => (f7 k hk).trans (by rw [fc 76 (by unfold qAz; omega)]))
theorem ag_no {d1 d2 : Nat} {μ ν : MD} {As : List Value} {v : Int32} (j : Jv Z I w h S K tx tk tp ts) (c : Cl g d1 μ (rf g 0 :: As) (Z, I, L) (some (.int v)) (Z, I, L)) (m : Cl g d2 ν (rf g 76 :: As) (Z, I, L) (some (.int v)) (Z, I, L)) : AgI g d1 d2 μ ν As (Z, I, L) w h := ⟨v, _, _, c, m, ⟨S, K, tx, tk, tp, ts, j⟩, Nat.le_add_right _ _, Nat.le_add_right _ _⟩
theorem ag_two {d1 d2 : Nat} {μ ν : MD} {As : List Value} {v : Int32} (j : Jv Z I w h S K tx tk tp ts) (c : Cl g d1 μ (rf g 0 :: As) (Z, I, L) (some (.int v)) (Z, I1, L1)) (k : CL Z I1 w h S1 tx) (fc : ∀ a, qAz a → I1 a = I a) (m : Cl g d2 ν (rf g 76 :: As) (Z, I1, L1) (some (.int v)) (Z, I2, L2)) (k2 : MB Z I2 w h S1 tx) (fm : (∀ a, pAz a → I2 a = I1 a) ∧ ∀ k, k = 6 ∨ k = 7 ∨ k = 8 → I2 76 k = I1 76 k) : AgI g d1 d2 μ ν As (Z, I, L) w h := ⟨v, _, _, c, m, ⟨S1, K, tx, tk, tp, ts, j.two k fc k2 fm.1 fm.2⟩, Nat.le_add_right _ _, Nat.le_add_right _ _⟩
theorem txat {hb : Nat} (h : hb < tx.length) : ∃ t, tx[hb]? = some t := ⟨_, List.getElem?_eq_getElem h⟩
theorem Jv.hab (j : Jv Z I w h S K tx tk tp ts) {q : Nat} (hq : q < (S 1).length) : ∃ t, tx[(S 2).getD q 0]? = some t := by
  have hW := j.2.1.2.1
  have hl : q < (S 2).length := by rw [← hW.2.2.1]; exact hq
  refine txat (hW.2.2.2.2.1 q _ ?_)
  rw [List.getD_eq_getElem?_getD, List.getElem?_eq_getElem hl]; rfl
theorem ag_cell (j : Jv Z I w h S K tx tk tp ts) (x1 x2 : Int32) : AgI g 4 3 mu_X11_cell mu_X12_cell [.int x1, .int x2] (Z, I, L) w h := by
  by_cases hv : vCell w h S x1 x2
  · obtain ⟨⟨p, rfl, hp⟩, ⟨kind, rfl, hk⟩, hn⟩ := hv
    have hn' : ¬ (kind = 1 ∧ hasP S (nI p) = true) := fun e => hn ⟨by rw [e.1]; rfl, e.2⟩
    obtain ⟨I1, c1, c2, c3⟩ := op_cell (g := g) (L := L) j.1 hp hk hn'
    obtain ⟨I2, m1, m2, m3⟩ := mo_cell (g := g) (L := L) (j.mb1 (fcN c3)) hp hk hn'
    exact ag_two j c1 c2 (fcN c3) m1 m2 (fmN m3)
  · exact ag_no j (op_cellN j.1 hv) (mo_cellN j.2.1 hv)
theorem ag_pair (j : Jv Z I w h S K tx tk tp ts) (x1 x2 : Int32) : AgI g 3 3 mu_X11_pair mu_X12_pair [.int x1, .int x2] (Z, I, L) w h := by
  by_cases hv : vPair w h S tx x1 x2
  · obtain ⟨⟨p, rfl, hp⟩, ⟨hb, rfl, hh⟩, hl⟩ := hv
    obtain ⟨I1, c1, c2, c3⟩ := op_pair (g := g) (L := L) j.1 hp hh hl
    obtain ⟨I2, m1, m2, m3⟩ := mo_pair (g := g) (L := L) (j.mb1 (fcN c3)) hp hh hl
    exact ag_two j c1 c2 (fcN c3) m1 m2 (fmN m3)
  · exact ag_no j (op_pairN j.1 hv) (mo_pairN j.2.1 hv)
theorem ag_fault (j : Jv Z I w h S K tx tk tp ts) (x : Int32) : AgI g 1 1 mu_X11_fault mu_X12_fault [.int x] (Z, I, L) w h := by
  have m := mo_fault (g := g) (I := I) (L := L) j.1.1.1 x
  rw [← j.2.2.2.2.2.2.2.2.2.2.2.2.2.2.1, ← j.2.2.2.2.2.2.2.2.2.2.2.2.2.2.2] at m
  exact ag_no j (op_fault j.1.1.1 x) m
theorem ag_goes (j : Jv Z I w h S K tx tk tp ts) (x1 x2 x3 : Int32) : AgI g 6 6 mu_X11_goes mu_X12_goes [.int x1, .int x2, .int x3] (Z, I, L) w h := by
  by_cases hv : vGoes w h S tx x1 x2 x3
  · obtain ⟨⟨hb, rfl, hh⟩, ⟨p, rfl, hp⟩, tap, rfl, ht⟩ := hv
    obtain ⟨t, htx⟩ := txat hh
    obtain ⟨I1, c1, c2, c3⟩ := op_goes (g := g) (L := L) j.1 htx hp ht
    obtain ⟨I2, L2, m1, m2, m3, -⟩ := mo_goes (g := g) (L := L) (j.mb1 (fcN c3)) htx hp ht
    exact ag_two j c1 c2 (fcN c3) m1 m2 (fmN m3)
  · exact ag_no j (op_goesN j.1 hv) (mo_goesN j.2.1 hv)
theorem ag_tap (j : Jv Z I w h S K tx tk tp ts) (x1 x2 : Int32) : AgI g 6 6 mu_X11_tap mu_X12_tap [.int x1, .int x2] (Z, I, L) w h := by
  by_cases hv : vTap S x1 x2
  · obtain ⟨⟨q, rfl, hq⟩, tap, rfl, ht⟩ := hv
    obtain ⟨t, htx⟩ := j.hab hq
    obtain ⟨I1, c1, c2, c3⟩ := op_tap (g := g) (L := L) j.1 hq ht htx
    obtain ⟨I2, L2, m1, m2, m3, -⟩ := mo_tap (g := g) (L := L) (j.mb1 (fcN c3)) hq ht htx
    exact ag_two j c1 c2 (fcN c3) m1 m2 (fmN m3)
  · exact ag_no j (op_tapN j.1 hv) (mo_tapN j.2.1 hv)
theorem ag_row (j : Jv Z I w h S K tx tk tp ts) (x : Int32) : AgI g 3 2 mu_X11_row mu_X12_row [.int x] (Z, I, L) w h := by
  by_cases h1 : x = -1
  · subst h1
    obtain ⟨I1, c1, c2, c3⟩ := op_row0 (g := g) (L := L) j.1
    obtain ⟨I2, m1, m2, m3⟩ := mo_row0 (g := g) (L := L) (j.mb1 (fcN c3))
    exact ag_two j c1 c2 (fcN c3) m1 m2 (fmN m3)
  by_cases hv : (∃ tap, x = nI tap ∧ tap < 4) ∧ (S 3).length < 16
  · obtain ⟨⟨tap, rfl, ht⟩, hl⟩ := hv
    obtain ⟨I1, c1, c2, c3⟩ := op_row (g := g) (L := L) j.1 ht hl
    obtain ⟨I2, m1, m2, m3⟩ := mo_row (g := g) (L := L) (j.mb1 (fcN c3)) ht hl
    exact ag_two j c1 c2 (fcN c3) m1 m2 (fmN m3)
  · exact ag_no j (op_rowN j.1 h1 hv) (mo_rowN j.2.1 h1 hv)
theorem ag_walk (j : Jv Z I w h S K tx tk tp ts) (x : Int32) : AgI g 6 6 mu_X11_walk mu_X12_walk [.int x] (Z, I, L) w h := by
  by_cases hv : ∃ q, x = nI q ∧ q < (S 1).length
  · obtain ⟨q, rfl, hq⟩ := hv
    obtain ⟨t, htx⟩ := j.hab hq
    obtain ⟨I1, c1, c2, c3⟩ := op_walk (g := g) (L := L) j.1 hq htx
    obtain ⟨I2, L2, m1, m2, m3, -⟩ := mo_walk (g := g) (L := L) (j.mb1 (fcN c3)) hq htx
    exact ag_two j c1 c2 (fcN c3) m1 m2 (fmN m3)
  · exact ag_no j (op_walkN j.1 hv) (mo_walkN j.2.1 hv)
theorem ag_undo (j : Jv Z I w h S K tx tk tp ts) : AgI g 3 1 mu_X11_undo mu_X12_undo [] (Z, I, L) w h := by
  by_cases hv : (S 4).length = 0
  · exact ag_no j (op_undoN j.1 hv) (mo_undoN j.2.1 hv)
  · obtain ⟨I1, c1, c2, c3⟩ := op_undo (g := g) (L := L) j.1 (by omega)
    obtain ⟨I2, m1, m2, m3⟩ := mo_undo (g := g) (L := L) (j.mb1 (fcN c3)) (by omega)
    exact ag_two j c1 c2 (fcN c3) m1 m2 (fmN m3)
theorem ag_of (j : Jv Z I w h S K tx tk tp ts) (x1 x2 : Int32) : AgI g 3 3 mu_X11_of mu_X12_of [.int x1, .int x2] (Z, I, L) w h := ag_no j (op_of j.1 x1 x2) (mo_of j.2.1 x1 x2)
theorem ag_seen (j : Jv Z I w h S K tx tk tp ts) (x1 x2 x3 : Int32) : AgI g 3 3 mu_X11_seen mu_X12_seen [.int x1, .int x2, .int x3] (Z, I, L) w h := by
  by_cases hv : vSeen w h S x1 x2 x3
  · obtain ⟨⟨p, rfl, hp⟩, ⟨tap, rfl, ht⟩, ⟨q, rfl, hq⟩, hl⟩ := hv
    obtain ⟨I1, c1, c2, c3⟩ := op_seen (g := g) (L := L) j.1 hp ht hq hl
    obtain ⟨I2, m1, m2, m3⟩ := mo_seen (g := g) (L := L) (j.mb1 (fcN c3)) hp ht hq hl
    exact ag_two j c1 c2 (fcN c3) m1 m2 (fmN m3)
  · exact ag_no j (op_seenN j.1 hv) (mo_seenN j.2.1 hv)
theorem ag_holds (j : Jv Z I w h S K tx tk tp ts) : AgI g 7 6 mu_X11_holds mu_X12_holds [] (Z, I, L) w h := by
  obtain ⟨I1, c1, c2, c3⟩ := op_holds (g := g) (L := L) j.1
  obtain ⟨I2, L2, m1, m2, m3, -⟩ := mo_holds (g := g) (L := L) (j.mb1 (fcN c3))
  exact ag_two j c1 c2 (fcN c3) m1 m2 (fmN m3)
theorem ag_dark (j : Jv Z I w h S K tx tk tp ts) (x1 x2 x3 : Int32) : AgI g 7 7 mu_X11_dark mu_X12_dark [.int x1, .int x2, .int x3] (Z, I, L) w h := by
  by_cases hv : vDark S tx x1 x2 x3
  · obtain ⟨⟨hb, rfl, hh⟩, h2, h2', h3⟩ := hv
    obtain ⟨t, htx⟩ := txat hh
    obtain ⟨I1, c1, c2, c3⟩ := op_dark (g := g) (L := L) j.1 htx h2 h2' h3
    obtain ⟨I2, L2, m1, m2, m3, -⟩ := mo_dark (g := g) (L := L) (j.mb1 (fcN c3)) htx h2 h2' h3
    exact ag_two j c1 c2 (fcN c3) m1 m2 (fmN m3)
  · exact ag_no j (op_darkN j.1 hv) (mo_darkN j.2.1 hv)
theorem ag_rider (j : Jv Z I w h S K tx tk tp ts) (x : Int32) : AgI g 3 2 mu_X11_rider mu_X12_rider [.int x] (Z, I, L) w h := by
  by_cases hv : (∃ v, x = nI v ∧ v ≤ 9) ∧ (S 9).length < 6
  · obtain ⟨⟨v, rfl, h9⟩, hl⟩ := hv
    obtain ⟨I1, c1, c2, c3⟩ := op_rider (g := g) (L := L) j.1 h9 hl
    obtain ⟨I2, m1, m2, m3⟩ := mo_rider (g := g) (L := L) (j.mb1 (fcN c3)) h9 hl
    exact ag_two j c1 c2 (fcN c3) m1 m2 (fmN m3)
  · exact ag_no j (op_riderN j.1 hv) (mo_riderN j.2.1 hv)
theorem ag_carrier (j : Jv Z I w h S K tx tk tp ts) (x : Int32) : AgI g 3 2 mu_X11_carrier mu_X12_carrier [.int x] (Z, I, L) w h := by
  by_cases hv : (∃ v, x = nI v ∧ v ≤ 9) ∧ (S 10).length < 6
  · obtain ⟨⟨v, rfl, h9⟩, hl⟩ := hv
    obtain ⟨I1, c1, c2, c3⟩ := op_carrier (g := g) (L := L) j.1 h9 hl
    obtain ⟨I2, m1, m2, m3⟩ := mo_carrier (g := g) (L := L) (j.mb1 (fcN c3)) h9 hl
    exact ag_two j c1 c2 (fcN c3) m1 m2 (fmN m3)
  · exact ag_no j (op_carrierN j.1 hv) (mo_carrierN j.2.1 hv)
theorem ag_wed (j : Jv Z I w h S K tx tk tp ts) (x1 x2 x3 : Int32) : AgI g 7 5 mu_X11_wed mu_X12_wed [.int x1, .int x2, .int x3] (Z, I, L) w h := by
  by_cases hv : vWed S tx x1 x2 x3
  · obtain ⟨⟨hb, rfl, hh⟩, ⟨h2, h3⟩, r, rfl, hr⟩ := hv
    obtain ⟨side, hs, rfl⟩ := nI_of h2
    have hs2 : side < 2 := Classical.byContradiction (fun e => h3 ((nI_ltI (a := 1) (by decide) hs).mpr (by omega)))
    obtain ⟨t, htx⟩ := txat hh
    obtain ⟨I1, c1, c2, c3⟩ := op_wed (g := g) (L := L) j.1 htx hs2 hr (lkR_of j.2.1.2.1 (j.2.1.1.2.2.2.2.2.2 hb t htx))
    have fc : ∀ a, qAz a → I1 a = I a := fun a ha => c3 a (by unfold qAz at ha; unfold wedA; omega)
    obtain ⟨I2, L2, m1, m2, m3⟩ := mo_wed (g := g) (L := L) (j.mb1 fc) htx hs2 hr
    exact ag_two j c1 c2 fc m1 m2 (fmN m3)
  · exact ag_no j (op_wedN j.1 hv) (mo_wedN j.2.1 hv)
theorem ag_crowd (j : Jv Z I w h S K tx tk tp ts) (x : Int32) : AgI g 8 6 mu_X11_crowd mu_X12_crowd [.int x] (Z, I, L) w h := by
  by_cases hv : ∃ p, x = nI p ∧ p < w * h
  · obtain ⟨p, rfl, hp⟩ := hv
    obtain ⟨I1, c1, c2, c3⟩ := op_crowd (g := g) (L := L) j.1 hp
    have fc : ∀ a, qAz a → I1 a = I a := fun a ha => c3 a (by unfold qAz at ha; unfold nowA; omega) (by unfold qAz at ha; omega) (by unfold qAz at ha; omega)
    obtain ⟨I2, L2, m1, m2, m3, -⟩ := mo_crowd (g := g) (L := L) (j.mb1 fc) hp
    exact ag_two j c1 c2 fc m1 m2 (fmN m3)
  · exact ag_no j (op_crowdN j.1 hv) (mo_crowdN j.2.1 hv)
theorem ag_about (j : Jv Z I w h S K tx tk tp ts) (x : Int32) : AgI g 2 2 mu_X11_about mu_X12_about [.int x] (Z, I, L) w h := ag_no j (op_about j.1 j.2.2.2.2.2.2.2.2.2.2.2.1 x) (mo_about j.2.1 j.2.2.2.2.2.2.2.2.2.2.2.2.2.1 x)
theorem ag_odds (j : Jv Z I w h S K tx tk tp ts) (x1 x2 x3 x4 x5 : Int32) : AgL g 7 7 mu_X11_odds mu_X12_odds [.int x1, .int x2, .int x3, .int x4, .int x5] (Z, I, L) w h := by
  by_cases hv : vOdds w h S tx x1 x2 x3 x4 x5
  · obtain ⟨⟨hb, rfl, hh⟩, ⟨p, rfl, hp⟩, ⟨c, rfl, hc⟩, ⟨m, rfl, hm⟩, h5, h12⟩ := hv
    obtain ⟨t, htx⟩ := txat hh
    obtain ⟨I1, L1, c1, c2, c3⟩ := op_odds (g := g) (L := L) j.1 htx hp hc hm h5 h12
    obtain ⟨I2, L2, m1, m2, m3⟩ := mo_odds (g := g) (L := L1) (j.mb1 (fcN c3)) htx hp hc hm h5 h12
    exact ⟨_, _, _, c1, m1, ⟨S, K, tx, tk, tp, ts, j.two c2 (fcN c3) m2 (fmN m3).1 (fmN m3).2⟩, Nat.le_add_right _ _, Nat.le_add_right _ _⟩
  · exact ⟨_, _, _, op_oddsN j.1 hv, mo_oddsN j.2.1 hv, ⟨S, K, tx, tk, tp, ts, j⟩, Nat.le_add_right _ _, Nat.le_add_right _ _⟩
end AGREE
