/-! the class's chase(), hunt(), whole -/
section CHASE2
variable {g : GE} {Z : Zs} {I : Nat → Nat → Int32} {L : Nat → Nat → Int64} {w h : Nat} {S K : Nat → List Nat} {tx tk : List TX} {pa : Nat}
theorem pf_gs (hS : Sh Z) (hwh : wh w h) (h13 : Z.2.1 0 13 = none) : GSz Z (pfS (Z, I, L) (4 * (w * h))).1 := by
  have hx := hS.1
  have hm := hwh.mul
  have hNN : 4 * (w * h) * (4 * (w * h)) ≤ 100 * 100 := Nat.mul_le_mul (by omega) (by omega)
  obtain ⟨x1, x2⟩ := pf_x (Z := Z) (I := I) (L := L) (N := 4 * (w * h))
  have old := fun a (ha : a < Z.2.2.2.1) => pf_old (I := I) (L := L) (N := 4 * (w * h)) hx ha
  refine ⟨⟨by omega, fun a ha => ⟨(old a ha).1, (old a ha).2.1⟩, fun a k ha _ _ h3 => (old a ha).2.2.1 k (fun e => h3 ⟨e.1, by omega⟩)⟩, ?_, ?_, ?_, ?_, fun a ha h6 => Classical.byContradiction (fun e => ?_)⟩
  · funext k; exact (old 39 (by omega)).2.2.1 k (by omega)
  · funext k; exact (old 63 (by omega)).2.2.1 k (by omega)
  · unfold pxZ
    rw [x1, pf_13, (old 0 (by omega)).2.2.1 12 (by omega), h13, if_neg (show ¬ some Z.2.2.2.1 = none from fun z => by cases z), if_pos (show (none : Option Nat) = none from rfl)]
    generalize (if Z.2.1 0 12 = none then 7 else 0) = A
    omega
  · unfold psZ
    rw [x2, pf_13, (old 0 (by omega)).2.2.1 12 (by omega), h13, if_neg (show ¬ some Z.2.2.2.1 = none from fun z => by cases z), if_pos (show (none : Option Nat) = none from rfl)]
    generalize (if Z.2.1 0 12 = none then 17208 else 0) = A
    omega
  · rw [x1] at ha
    have n1 := pf_new (I := I) (L := L) (N := 4 * (w * h)) hx
    exact n1.no6 ⟨by rw [x1]; omega, h6⟩ ⟨by omega, by omega⟩
theorem sp_pursuer (c : CL Z I w h S tx) (hi : SIz Z) (hx : PXz Z I w h) : ∃ pa Z1 I1 L1, Cl g 3 mu_X11_pursuer [rf g 0] (Z, I, L) (some (rf g pa)) (Z1, I1, L1) ∧ GSz Z Z1 ∧ PEz Z1 pa (4 * (w * h)) ∧ XF Z1 pa ∧ Z1.2.1 0 13 = some pa ∧ Z1.2.1 0 12 = Z.2.1 0 12 ∧ I1 pa 2 = nI (4 * (w * h)) ∧ I1 pa 3 = nI (4 * (w * h) * (4 * (w * h))) ∧ ∀ a, a < Z.2.2.2.1 → I1 a = I a := by
  have hS := c.1.1
  have hwh := c.1.2.1
  have k0 := hS.k 0 11 (by decide) (by decide)
  cases h13 : Z.2.1 0 13 with
  | some pa =>
    obtain ⟨s1, s2, s3, s4⟩ := hx pa h13
    refine ⟨pa, Z, I, L, cp_X11_pursuer (M := (Z, I, L)) k0 ⟨fun e => ?_, fun b hb => ?_⟩, GSz.refl Z, s1, s2, h13, rfl, s3, s4, fun _ _ => rfl⟩
    · have e : Z.2.1 0 13 = none := e
      rw [h13] at e; cases e
    · have hb : Z.2.1 0 13 = some b := hb
      rw [h13] at hb; cases hb
      refine ⟨s1.2.1, fun e => ?_, fun b2 hb2 => ?_⟩
      · have e : Z.2.1 0 13 = none := e
        rw [h13] at e; cases e
      · have hb2 : Z.2.1 0 13 = some b2 := hb2
        rw [h13] at hb2; cases hb2
        exact ⟨s1.2.1, rfl, rfl⟩
  | none =>
    have hxx := hS.1
    have gs := pf_gs (I := I) (L := L) hS hwh h13
    have n1 := pf_new (I := I) (L := L) (N := 4 * (w * h)) hxx
    obtain ⟨n2, n3⟩ := pf_I (Z := Z) (I := I) (L := L) (N := 4 * (w * h))
    have k18 : KM (nwD (Z, I, L) 0 11).1 18 8 := (hS.k 18 8 (by decide) (by decide)).ext (M := (Z, I, L)) (Ext.nw _ _ _)
    have k66 : KM (nwD (Z, I, L) 0 11).1 66 3 := (hS.k 66 3 (by decide) (by decide)).ext (M := (Z, I, L)) (Ext.nw _ _ _)
    have kn : KM (nwD (Z, I, L) 0 11).1 Z.2.2.2.1 0 := ⟨Nat.lt_succ_self _, rw1_s _ _ _⟩
    have i18 : mI (nwD (Z, I, L) 0 11) 18 = I 18 := rw1_n _ _ (by show (18 : Nat) ≠ Z.2.2.2.1; omega)
    refine ⟨Z.2.2.2.1, (pfS (Z, I, L) (4 * (w * h))).1, (pfS (Z, I, L) (4 * (w * h))).2.1, (pfS (Z, I, L) (4 * (w * h))).2.2, cp_X11_pursuer (M := (Z, I, L)) k0 ⟨fun _ M2 h2 => ?_, fun b hb => ?_⟩, gs, n1, ?_, pf_13, (pf_old hxx (by omega)).2.2.1 12 (by omega), n2, n3, fun a ha => (pf_old hxx ha).2.2.2⟩
    · have h2 : M2 = nwD (Z, I, L) 0 11 := h2
      subst h2
      refine ⟨18, ?_, k18, 66, ?_, k66, peS (nwD (Z, I, L) 0 11) Z.2.2.2.1 (4 * (w * h)), sp_peS hwh (Nat.lt_succ_self _) (show Z.2.2.2.1 ≠ 18 by omega) kn k18 k66 (by rw [i18]; exact c.1.2.2.1) (by rw [i18]; exact c.1.2.2.2.1), fun M11 h11 => ?_⟩
      · show rw1 Z.2.1 Z.2.2.2.1 _ 0 0 = _
        rw [rw1_n _ _ (by omega)]; exact hS.r 0 0 18 (by decide)
      · show rw1 Z.2.1 Z.2.2.2.1 _ 0 5 = _
        rw [rw1_n _ _ (by omega)]; exact hS.r 0 5 66 (by decide)
      · have e11 : M11 = pfS (Z, I, L) (4 * (w * h)) := h11
        subst e11
        have e13 : mR (pfS (Z, I, L) (4 * (w * h))) 0 13 = some Z.2.2.2.1 := pf_13
        refine ⟨fun e => ?_, fun b hb => ?_⟩
        · rw [e13] at e; cases e
        · rw [e13] at hb; cases hb
          exact ⟨n1.2.1, rfl, rfl⟩
    · have hb : Z.2.1 0 13 = some b := hb
      rw [h13] at hb; cases hb
    · intro sc ar hk hr hc
      have h1 := gs.2.2.2.2.2 sc hk.1 hk.2
      have h2 : Z.1 sc = 6 := by rw [← (gs.1.2.1 sc h1).1]; exact hk.2
      have h3 : 99 ≤ sc := Classical.byContradiction (fun e => hS.no6 sc (by omega) h2)
      rw [gs.1.2.2 sc 0 h1 (by omega) (by omega) (by omega)] at hr
      have := hi sc ar ⟨h1, h2⟩ hr
      omega
/-- what stays of the class's things over a chase: its cells aside, what is below 99, and rows of numbers -/
def PFr (Z : Zs) (I I1 : Nat → Nat → Int32) : Prop := ∀ a, a < Z.2.2.2.1 → ¬ nowA a → (a < 99 ∨ Z.1 a = 2) → I1 a = I a
theorem px_end {Z1 : Zs} {J I1 : Nat → Nat → Int32} (gs : GSz Z Z1) (hi : SIz Z) (hS : Sh Z) (hE : PEz Z1 pa (4 * (w * h))) (hX : XF Z1 pa) (h13 : Z1.2.1 0 13 = some pa) (fJ : ∀ a, a < Z.2.2.2.1 → J a = I a) (b : SS Z I 24 w h K tk) (fr : ∀ a, ¬ nowA a → ¬ (pa ≤ a ∧ a ≤ pa + 6) → I1 a = J a) (i2 : I1 pa 2 = nI (4 * (w * h))) (i3 : I1 pa 3 = nI (4 * (w * h) * (4 * (w * h)))) : SIz Z1 ∧ PXz Z1 I1 w h ∧ SS Z1 I1 24 w h K tk ∧ PFr Z I I1 := by
  refine ⟨gs.si hS.1 hS.no6 hi, fun s hs => ?_, ?_, fun a h1 h2 h3 => ?_⟩
  · rw [h13] at hs; cases hs
    exact ⟨hE, hX, i2, i3⟩
  · have b0 : SS Z J 24 w h K tk := b.kept (fun a ha => fJ a (by
      have := hS.1
      rcases ha with ha | ha
      · unfold stS at ha; omega
      · exact ha.2))
    have b1 : SS Z1 J 24 w h K tk := b0.g gs.1 (Or.inr rfl) hS.1 (fun q _ => by rw [show (39 + 24 : Nat) = 63 from rfl, gs.2.2.1])
    exact b1.xw (fun sc hk => hE.no6 hk) hX hE.1 fr
  · have e0 := hE.1
    rw [fr a h2 (fun hc => ?_), fJ a h1]
    rcases h3 with h3 | h3
    · omega
    · have e1 : Z1.1 a = 2 := by rw [(gs.1.2.1 a h1).1]; exact h3
      obtain ⟨e0, e1', e2, e3, ⟨a1, a2, a3⟩, ⟨b1, b2, b3⟩, ⟨c1, c2, c3⟩, ⟨d1, d2, d3⟩, ⟨f1, f2, f3⟩, ⟨g1, g2, g3⟩⟩ := hE
      have cs : a = pa ∨ a = pa + 1 ∨ a = pa + 2 ∨ a = pa + 3 ∨ a = pa + 4 ∨ a = pa + 5 ∨ a = pa + 6 := by omega
      rcases cs with rfl | rfl | rfl | rfl | rfl | rfl | rfl
      · rw [e1'.2] at e1; cases e1
      · rw [a2.2] at e1; cases e1
      · rw [b2.2] at e1; cases e1
      · rw [c2.2] at e1; cases e1
      · rw [d2.2] at e1; cases e1
      · rw [f2.2] at e1; cases e1
      · rw [g2.2] at e1; cases e1
theorem sp_isChase (c : CL Z I w h S tx) (x1 x2 x3 x4 : Int32) : ∃ b : Bool, Cl g 3 mu_X11_isChase [rf g 0, .int x1, .int x2, .int x3, .int x4] (Z, I, L) (some (.int (b2i b))) (Z, I, L) ∧ (b = true ↔ vCha w h S tx x1 x2 x3 x4) := by
  obtain ⟨k, hW, -⟩ := id c
  have hx4 := k.2.2.2.2.2.2.2.1
  obtain ⟨b2, cb2, hb2⟩ := sp_isPose (g := g) (L := L) k hW x2
  obtain ⟨b4, cb4, hb4⟩ := sp_isPose (g := g) (L := L) k hW x4
  have wp := fun (R : Option Value) (M' : Mem) => @cp_X11_isChase g Z I L R M' 0 x1 x2 x3 x4 18 (k.1.k 0 11 (by decide) (by decide)) (k.1.r 0 0 18 (by decide)) (k.1.k 18 8 (by decide) (by decide))
  by_cases h1 : ¬ x1 < 0 ∧ x1 < nI tx.length
  · have t1 := sp_isText (g := g) (L := L) k x1
    rw [if_pos h1] at t1
    by_cases h2 : b2 = true
    · by_cases h3 : ¬ x3 < 0 ∧ x3 < nI tx.length
      · have t3 := sp_isText (g := g) (L := L) k x3
        rw [if_pos h3] at t3
        by_cases h4 : b4 = true
        · exact ⟨true, wp _ _ ⟨_, t1, fun e => absurd e (by decide), fun _ => ⟨_, cb2, fun e => absurd e (b2i_1 h2), fun _ => ⟨_, t3, fun e => absurd e (by decide), fun _ => ⟨_, cb4, fun e => absurd e (b2i_1 h4), fun _ => ⟨rfl, rfl⟩⟩⟩⟩⟩, fun _ => ⟨(in_text (by omega)).mp h1, hb2.mp h2, (in_text (by omega)).mp h3, hb4.mp h4⟩, fun _ => rfl⟩
        · exact ⟨false, wp _ _ ⟨_, t1, fun e => absurd e (by decide), fun _ => ⟨_, cb2, fun e => absurd e (b2i_1 h2), fun _ => ⟨_, t3, fun e => absurd e (by decide), fun _ => ⟨_, cb4, fun _ => ⟨rfl, rfl⟩, fun e => absurd (b2i_f h4) e⟩⟩⟩⟩, fun e => (by cases e), fun e => absurd (hb4.mpr e.2.2.2) h4⟩
      · have t3 := sp_isText (g := g) (L := L) k x3
        rw [if_neg h3] at t3
        exact ⟨false, wp _ _ ⟨_, t1, fun e => absurd e (by decide), fun _ => ⟨_, cb2, fun e => absurd e (b2i_1 h2), fun _ => ⟨_, t3, fun _ => ⟨rfl, rfl⟩, fun e => absurd rfl e⟩⟩⟩, fun e => (by cases e), fun e => absurd ((in_text (by omega)).mpr e.2.2.1) h3⟩
    · exact ⟨false, wp _ _ ⟨_, t1, fun e => absurd e (by decide), fun _ => ⟨_, cb2, fun _ => ⟨rfl, rfl⟩, fun e => absurd (b2i_f h2) e⟩⟩, fun e => (by cases e), fun e => absurd (hb2.mpr e.2.1) h2⟩
  · have t1 := sp_isText (g := g) (L := L) k x1
    rw [if_neg h1] at t1
    exact ⟨false, wp _ _ ⟨_, t1, fun _ => ⟨rfl, rfl⟩, fun e => absurd rfl e⟩, fun e => (by cases e), fun e => absurd ((in_text (by omega)).mpr e.1) h1⟩
theorem op_chase (c : CL Z I w h S tx) (hi : SIz Z) (hx : PXz Z I w h) (b : SS Z I 24 w h K tk) {a1 p0 a2 q0 : Nat} (h1 : a1 < tx.length) (h2 : isP w h S p0) (h3 : a2 < tx.length) (h4 : isP w h S q0) : ∃ r Z1 I1 L1, Cl g 8 mu_X11_chase [rf g 0, .int (nI a1), .int (nI p0), .int (nI a2), .int (nI q0)] (Z, I, L) (some (.int r)) (Z1, I1, L1) ∧ CAz (mvF w h S tx a1) (mvF w h S tx a2) p0 q0 r ∧ GSz Z Z1 ∧ Z1.2.1 0 12 = Z.2.1 0 12 ∧ CL Z1 I1 w h S tx ∧ SIz Z1 ∧ PXz Z1 I1 w h ∧ SS Z1 I1 24 w h K tk ∧ PFr Z I I1 := by
  obtain ⟨bb, cb, hbb⟩ := sp_isChase (g := g) (L := L) c (nI a1) (nI p0) (nI a2) (nI q0)
  have hbt : bb = true := hbb.mpr ⟨⟨_, rfl, h1⟩, ⟨_, rfl, h2⟩, ⟨_, rfl, h3⟩, ⟨_, rfl, h4⟩⟩
  obtain ⟨pa, Z1, J0, L1, s1, gs, sE, sX, s13, s12, i2, i3, fJ⟩ := sp_pursuer (g := g) (L := L) c hi hx
  have c1 : CL Z1 J0 w h S tx := gs.cl c fJ
  obtain ⟨r, I1, t1, t2, t3, t4, t5, t6⟩ := sp_turns (g := g) (L := L1) c1 sE sX i2 i3 h1 h3 h2 h4
  obtain ⟨z1, z2, z3, z4⟩ := px_end gs hi c.1.1 sE sX s13 fJ b t5 (by rw [t6 2 (by decide)]; exact i2) (by rw [t6 3 (by decide)]; exact i3)
  exact ⟨r, Z1, I1, L1, cp_X11_chase (M := (Z, I, L)) (c.1.1.k 0 11 (by decide) (by decide)) ⟨_, (Z, I, L), cb, fun _ => ⟨pa, (Z1, J0, L1), s1, sE.2.1, r, (Z1, I1, L1), t1, rfl, rfl⟩, fun e => absurd e (b2i_1 hbt)⟩, t2, gs, s12, t4, z1, z2, z3, z4⟩
theorem op_chaseN (c : CL Z I w h S tx) {x1 x2 x3 x4 : Int32} (hv : ¬ vCha w h S tx x1 x2 x3 x4) : Cl g 8 mu_X11_chase [rf g 0, .int x1, .int x2, .int x3, .int x4] (Z, I, L) (some (.int (-1))) (Z, I, L) := by
  obtain ⟨bb, cb, hbb⟩ := sp_isChase (g := g) (L := L) c x1 x2 x3 x4
  exact cp_X11_chase (M := (Z, I, L)) (c.1.1.k 0 11 (by decide) (by decide)) ⟨_, (Z, I, L), cb, fun e => absurd (b2i_f (fun z => hv (hbb.mp z))) e, fun _ => ⟨rfl, rfl⟩⟩
theorem op_hunt (c : CL Z I w h S tx) (hi : SIz Z) (hx : PXz Z I w h) (b : SS Z I 24 w h K tk) {a1 p0 a2 q0 : Nat} (h1 : a1 < tx.length) (h2 : isP w h S p0) (h3 : a2 < tx.length) (h4 : isP w h S q0) : ∃ r Z1 I1 L1, Cl g 8 mu_X11_hunt [rf g 0, .int (nI a1), .int (nI p0), .int (nI a2), .int (nI q0)] (Z, I, L) (some (.int r)) (Z1, I1, L1) ∧ HAz (mvF w h S tx a1) (mvF w h S tx a2) p0 q0 r ∧ GSz Z Z1 ∧ Z1.2.1 0 12 = Z.2.1 0 12 ∧ CL Z1 I1 w h S tx ∧ SIz Z1 ∧ PXz Z1 I1 w h ∧ SS Z1 I1 24 w h K tk ∧ PFr Z I I1 := by
  obtain ⟨bb, cb, hbb⟩ := sp_isChase (g := g) (L := L) c (nI a1) (nI p0) (nI a2) (nI q0)
  have hbt : bb = true := hbb.mpr ⟨⟨_, rfl, h1⟩, ⟨_, rfl, h2⟩, ⟨_, rfl, h3⟩, ⟨_, rfl, h4⟩⟩
  obtain ⟨pa, Z1, J0, L1, s1, gs, sE, sX, s13, s12, i2, i3, fJ⟩ := sp_pursuer (g := g) (L := L) c hi hx
  have c1 : CL Z1 J0 w h S tx := gs.cl c fJ
  obtain ⟨r, I1, t1, t2, t3, t4, t5, t6⟩ := sp_turns (g := g) (L := L1) c1 sE sX i2 i3 h1 h3 h2 h4
  have i2' : I1 pa 2 = nI (4 * (w * h)) := by rw [t6 2 (by decide)]; exact i2
  have i3' : I1 pa 3 = nI (4 * (w * h) * (4 * (w * h))) := by rw [t6 3 (by decide)]; exact i3
  obtain ⟨z1, z2, z3, z4⟩ := px_end gs hi c.1.1 sE sX s13 fJ b t5 i2' i3'
  by_cases hr : (0 : Int32) < r
  · rcases t2 with ⟨t, ht, hv, hrt⟩ | ⟨hr1, -⟩
    · obtain ⟨u, rfl⟩ : ∃ u, t = u + 1 := by
        cases t with
        | zero => rw [hrt] at hr; exact absurd hr (by decide)
        | succ u => exact ⟨u, rfl⟩
      obtain ⟨Q, V, C, d, g1, g2, g3⟩ := t3
      obtain ⟨m0, v0⟩ := g3 (u + 1) hrt ht
      obtain ⟨pa2, Z2, J2, L2, u1, u2, u3, u4, u5, u6, u7, u8, u9⟩ := sp_pursuer (g := g) (L := L1) t4 z1 z2
      have hpp : pa2 = pa ∧ Z2 = Z1 ∧ J2 = I1 ∧ L2 = L1 ∨ True := Or.inr trivial
      have again : Cl g 3 mu_X11_pursuer [rf g 0] (Z1, I1, L1) (some (rf g pa)) (Z1, I1, L1) := by
        refine cp_X11_pursuer (M := (Z1, I1, L1)) (t4.1.1.k 0 11 (by decide) (by decide)) ⟨fun e => ?_, fun b' hb' => ?_⟩
        · have e : Z1.2.1 0 13 = none := e
          rw [s13] at e; cases e
        · have hb' : Z1.2.1 0 13 = some b' := hb'
          rw [s13] at hb'; cases hb'
          refine ⟨sE.2.1, fun e => ?_, fun b2 hb2 => ?_⟩
          · have e : Z1.2.1 0 13 = none := e
            rw [s13] at e; cases e
          · have hb2 : Z1.2.1 0 13 = some b2 := hb2
            rw [s13] at hb2; cases hb2
            exact ⟨sE.2.1, rfl, rfl⟩
      obtain ⟨r2, I2, f1, f2, f3, f4⟩ := ft_run (g := g) (L := L1) sE sX (mv_P t4.1.2.1 t4.2.1 a2) h1 h2 h4 g1 m0 v0 (by omega) 4 0 I1 (Nat.zero_add _) t4 i2' i3' g2 (fun o ho => absurd ho (by omega))
      have npa : ¬ nowA pa := by have := sE.1; unfold nowA; omega
      obtain ⟨y1, y2, y3, y4⟩ := px_end gs hi c.1.1 sE sX s13 fJ b (I1 := I2) (fun a h1 h2 => by rw [f4 a h1, t5 a h1 h2]) (by rw [f4 pa npa]; exact i2') (by rw [f4 pa npa]; exact i3')
      exact ⟨r2, Z1, I2, L1, cp_X11_hunt (M := (Z, I, L)) (c.1.1.k 0 11 (by decide) (by decide)) ⟨_, (Z, I, L), cb, fun _ => ⟨pa, (Z1, J0, L1), s1, sE.2.1, r, (Z1, I1, L1), t1, fun _ => ⟨pa, (Z1, I1, L1), again, sE.2.1, r2, (Z1, I2, L1), by rw [hrt]; exact cp_X0_firstTap sE.2.1 f1, rfl, rfl⟩, fun e => absurd hr e⟩, fun e => absurd e (b2i_1 hbt)⟩, f2, gs, s12, f3, y1, y2, y3, y4⟩
    · rw [hr1] at hr; exact absurd hr (by decide)
  · refine ⟨-1, Z1, I1, L1, cp_X11_hunt (M := (Z, I, L)) (c.1.1.k 0 11 (by decide) (by decide)) ⟨_, (Z, I, L), cb, fun _ => ⟨pa, (Z1, J0, L1), s1, sE.2.1, r, (Z1, I1, L1), t1, fun e => absurd e hr, fun _ => ⟨rfl, rfl⟩⟩, fun e => absurd e (b2i_1 hbt)⟩, Or.inr ⟨rfl, ?_⟩, gs, s12, t4, z1, z2, z3, z4⟩
    rcases t2 with ⟨t, ht, hv, hrt⟩ | ⟨-, hn⟩
    · left
      cases t with
      | zero => exact hv.1
      | succ u =>
        rw [hrt] at hr
        exact absurd (show nI 0 < nI (u + 1) from nI_lt (by omega) (by omega)) hr
    · exact Or.inr hn
theorem op_huntN (c : CL Z I w h S tx) {x1 x2 x3 x4 : Int32} (hv : ¬ vCha w h S tx x1 x2 x3 x4) : Cl g 8 mu_X11_hunt [rf g 0, .int x1, .int x2, .int x3, .int x4] (Z, I, L) (some (.int (-1))) (Z, I, L) := by
  obtain ⟨bb, cb, hbb⟩ := sp_isChase (g := g) (L := L) c x1 x2 x3 x4
  exact cp_X11_hunt (M := (Z, I, L)) (c.1.1.k 0 11 (by decide) (by decide)) ⟨_, (Z, I, L), cb, fun e => absurd (b2i_f (fun z => hv (hbb.mp z))) e, fun _ => ⟨rfl, rfl⟩⟩
end CHASE2
