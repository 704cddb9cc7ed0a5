/-! the class's text() -/
theorem NSz.zg {Z Z1 : Zs} {I I1 : Nat → Nat → Int32} {n : Nat} (h : NSz Z I n Z1 I1) : ZG Z Z1 := ⟨by rw [h.1]; omega, fun a ha => ⟨(h.2.2.1 a ha).1, (h.2.2.1 a ha).2.1⟩, fun a k ha _ _ _ => (h.2.2.1 a ha).2.2.1 k⟩
def aTz (Z : Zs) (k x : Nat) : Zs := (Z.1, rw1 Z.2.1 39 (va_up (Z.2.1 39) k (some x)), Z.2.2)
theorem aTz_r (Z : Zs) (k x a q : Nat) : (aTz Z k x).2.1 a q = if a = 39 ∧ q = k then some x else Z.2.1 a q := by
  show (rw1 Z.2.1 39 (va_up (Z.2.1 39) k (some x))) a q = _
  by_cases h : a = 39
  · subst h
    rw [rw1_s]
    unfold va_up
    by_cases hq : q = k
    · rw [if_pos hq, if_pos ⟨rfl, hq⟩]
    · rw [if_neg hq, if_neg (fun z => hq z.2)]
  · rw [rw1_n _ _ h, if_neg (fun z => h z.1)]
theorem aTz_g {Z : Zs} (k x : Nat) : ZG Z (aTz Z k x) := ⟨Nat.le_refl _, fun _ _ => ⟨rfl, rfl⟩, fun a q _ h39 _ _ => by rw [aTz_r, if_neg (fun z => h39 z.1)]⟩
/-- a text more: cells, the row of scripts, the Script -/
def TxR (Z : Zs) (I : Nat → Nat → Int32) (Z1 : Zs) (I1 : Nat → Nat → Int32) (t : TX) (n : Nat) : Prop := ZG Z Z1 ∧ Z1.2.2.2.1 = Z.2.2.2.1 + 2 ∧ Z1.2.2.2.2 ≤ Z.2.2.2.2 + 604 ∧ (∀ a k, a < Z.2.2.2.1 → ¬ (a = 39 ∧ k = n) → Z1.2.1 a k = Z.2.1 a k) ∧ Z1.2.1 39 n = some Z.2.2.2.1 ∧ Z1.1 Z.2.2.2.1 = 6 ∧ Z1.1 (Z.2.2.2.1 + 1) = 13 ∧ Z1.2.1 Z.2.2.2.1 0 = some (Z.2.2.2.1 + 1) ∧ TC Z1 I1 Z.2.2.2.1 t ∧ (∀ a, 13 ≤ a → a ≠ 18 → a < Z.2.2.2.1 → I1 a = I a) ∧ (∀ k, k ≠ 14 → I1 18 k = I 18 k) ∧ I1 18 14 = nI (n + 1)
/-- the fault is told, the tape is empty -/
def TxC (I : Nat → Nat → Int32) (Z1 : Zs) (I1 : Nat → Nat → Int32) (ts : List (Nat × Nat × Nat)) (f p : Int32) : Prop := I1 0 10 = f ∧ I1 0 11 = p ∧ (∀ k, k ≠ 10 → k ≠ 11 → I1 0 k = I 0 k) ∧ IL Z1 I1 1 2 300 [] ∧ TKz Z1 I1 ts
def TxO (g : GE) (Z : Zs) (L : Nat → Nat → Int64) (ts : List (Nat × Nat × Nat)) (n : Nat) (I : Nat → Nat → Int32) (res : (Nat × Nat) ⊕ TE) : Prop := match res with
  | .inl q => ∃ I1, Cl g 83 mu_X11_text [rf g 0] (Z, I, L) (some (.int (-1))) (Z, I1, L) ∧ TxC I Z I1 ts (nI q.1) (nI (pT ts q.2)) ∧ 1 ≤ q.1 ∧ q.1 ≤ 5 ∧ q.2 < ts.length ∧ ∀ a, 13 ≤ a → I1 a = I a
  | .inr t => gdT t ∧ ∃ Z1 I1 L1, Cl g 83 mu_X11_text [rf g 0] (Z, I, L) (some (.int (nI n))) (Z1, I1, L1) ∧ TxC I Z1 I1 ts 0 (-1) ∧ TxR Z I Z1 I1 (txE t) n
section CTX
variable {g : GE} {Z : Zs} {I : Nat → Nat → Int32} {L : Nat → Nat → Int64} {w h : Nat} {S K : Nat → List Nat} {tx tk : List TX} {tp : List Nat} {ts : List (Nat × Nat × Nat)}
theorem e0L (xs : List Nat) : (if (0 : Int32) < 0 then [] else xs.take (0 : Int32).toNatClampNeg) = [] := by
  rw [if_neg (by decide), show (0 : Int32).toNatClampNeg = 0 by decide, List.take_zero]
theorem op_textN (c : CL Z I w h S tx) (hn : tx.length = 4) : Cl g 83 mu_X11_text [rf g 0] (Z, I, L) (some (.int (-1))) (Z, I, L) := by
  have hS := c.1.1
  have e14 : I 18 14 = nI tx.length := c.1.2.2.2.2.2.2.1
  refine cp_X11_text (M := (Z, I, L)) (hS.k 0 11 (by decide) (by decide)) ⟨18, hS.r 0 0 18 (by decide), hS.k 18 8 (by decide) (by decide), fun z => ?_, fun _ => ⟨rfl, rfl⟩⟩
  have z : I 18 14 < 4 := z
  rw [e14, hn] at z
  exact absurd z (by decide)
theorem TKz.grow {Z1 : Zs} (k : TKz Z I ts) (z : ZG Z Z1) : TKz Z1 I ts := ⟨k.1.g z (by decide) (by decide) (by decide), k.2.1.g z (by decide) (by decide) (by decide), k.2.2.g z (by decide) (by decide) (by decide)⟩
theorem op_text (c : CL Z I w h S tx) (hn : tx.length < 4) (hT : IL Z I 1 2 300 tp) (h8 : T8 tp) (hK : TKz Z I ts) : TxO g Z L (tkL tp) tx.length I (rdF (kT (tkL tp)) (vT (tkL tp)) 3100 4 0 (none, none, none)) := by
  have hS := c.1.1
  have h99 := hS.1
  have e14 : I 18 14 = nI tx.length := c.1.2.2.2.2.2.2.1
  have l4 : mI ((Z, I, L) : Mem) 18 14 < 4 := by
    show I 18 14 < 4
    rw [e14]
    exact (nI_ltI (b := 4) (by omega) (by decide)).mpr hn
  have hts := ts_ok (tp := tp) hT.2.2.2.2.2.1
  have w := sp_read (g := g) (L := L) hS hT h8 hK
  cases hx : rdF (kT (tkL tp)) (vT (tkL tp)) 3100 4 0 (none, none, none) with
  | inl q =>
    rw [hx] at w
    obtain ⟨J1, a1, a2, a3, a4⟩ := w
    obtain ⟨b1, b2, b3, b4, b5, b6, -⟩ := a2
    have t1 : IL Z J1 1 2 300 tp := hT.kept (by rw [a4 1 (by omega)]) (fun q _ => by rw [a4 2 (by omega)])
    obtain ⟨J2, c1, c2, c3⟩ := sp_cutTo (g := g) (L := L) t1 0
    rw [e0L] at c2
    obtain ⟨J3, e3⟩ : ∃ J, J = rw1 J2 0 (upd (J2 0) 10 (nI q.1)) := ⟨_, rfl⟩
    obtain ⟨J4, e4⟩ : ∃ J, J = rw1 J3 0 (upd (J3 0) 11 (nI (pT (tkL tp) q.2))) := ⟨_, rfl⟩
    have o4 : ∀ a, a ≠ 0 → J4 a = J2 a := fun a ha => by rw [e4, rw1_n _ _ ha, e3, rw1_n _ _ ha]
    have f8 : J2 3 8 = nI q.1 := by rw [c3 3 (by decide)]; exact b3
    have f9 : J3 3 9 = nI (pT (tkL tp) q.2) := by rw [e3, rw1_n _ _ (by decide), c3 3 (by decide)]; exact b4
    refine ⟨J4, cp_X11_text (M := (Z, I, L)) (hS.k 0 11 (by decide) (by decide)) ⟨18, hS.r 0 0 18 (by decide), hS.k 18 8 (by decide) (by decide), fun _ => ⟨3, hS.r 0 3 3 (by decide), hS.k 3 5 (by decide) (by decide), 1, hS.r 0 2 1 (by decide), hT.1, none, (Z, J1, L), a1, fun _ => ⟨1, hS.r 0 2 1 (by decide), hT.1, (Z, J2, L), c1, 3, hS.r 0 3 3 (by decide), hS.k 3 5 (by decide) (by decide), nI q.1, (Z, J2, L), cp_X5_found (hS.k 3 5 (by decide) (by decide)) ⟨by rw [f8], rfl⟩, fun M30 h30 => ?_⟩, fun b z => (by cases z)⟩, fun z => absurd l4 z⟩, ⟨?_, ?_, fun k h1 h2 => ?_, ?_, ?_⟩, b5, b6, a3, fun a ha => ?_⟩
    · have h30 : M30 = (Z, J3, L) := by rw [h30, e3]
      rw [h30]
      refine ⟨3, hS.r 0 3 3 (by decide), hS.k 3 5 (by decide) (by decide), nI (pT (tkL tp) q.2), (Z, J3, L), cp_X5_foundAt (hS.k 3 5 (by decide) (by decide)) ⟨by rw [f9], rfl⟩, fun M48 h48 => ⟨rfl, ?_⟩⟩
      rw [h48, e4]
    · rw [e4, rw1_s, upd_n _ _ (by decide), e3, rw1_s, upd_s]
    · rw [e4, rw1_s, upd_s]
    · rw [e4, rw1_s, upd_n _ _ h2, e3, rw1_s, upd_n _ _ h1, c3 0 (by decide), a4 0 (by omega)]
    · exact c2.kept (by rw [o4 1 (by decide)]) (fun k _ => by rw [o4 2 (by decide)])
    · exact b1.kept (fun a h1 h2 => by rw [o4 a (by omega), c3 a (by omega)])
    · rw [o4 a (by omega), c3 a (by omega), a4 a (by omega)]
  | inr t =>
    rw [hx] at w
    have hgood := rd_good (fun i hi => hts.2.2.2.2.2.1 i hi) 4 0 _ t hx ⟨fun _ z => (by cases z), fun _ z => (by cases z), fun _ z => (by cases z)⟩
    obtain ⟨J1, cl, i, ords, Z2, I2, L2, a1, a2, a3, a4, a5, a6⟩ := w
    obtain ⟨x, hx0⟩ : ∃ x, x = Z.2.2.2.1 := ⟨_, rfl⟩
    have z2 := a2.zg
    obtain ⟨n1, n2, n3, n4, n5, n6, n7, n8, n9, n10, n11⟩ := a2
    have hS2 := hS.g z2
    have fr : ∀ a, a < Z.2.2.2.1 → I2 a = J1 a := fun a ha => (n3 a ha).2.2.2
    have t1 : IL Z2 I2 1 2 300 tp := (hT.kept (I1 := I2) (by rw [fr 1 (by omega), a6 1 (by omega)]) (fun q _ => by rw [fr 2 (by omega), a6 2 (by omega)])).g z2 (by decide) (by decide) (by decide)
    have k3 : TKz Z2 I2 (tkL tp) := (a3.1.kept (fun a h1 h2 => fr a (by omega))).grow z2
    obtain ⟨J2, c1, c2, c3⟩ := sp_cutTo (g := g) (L := L2) t1 0
    rw [e0L] at c2
    obtain ⟨J3, e3⟩ : ∃ J, J = rw1 J2 0 (upd (J2 0) 10 0) := ⟨_, rfl⟩
    obtain ⟨J4, e4⟩ : ∃ J, J = rw1 J3 0 (upd (J3 0) 11 (-1)) := ⟨_, rfl⟩
    obtain ⟨J5, e5⟩ : ∃ J, J = rw1 J4 18 (upd (J4 18) 14 (nI (tx.length + 1))) := ⟨_, rfl⟩
    have o4 : ∀ a, a ≠ 0 → J4 a = J2 a := fun a ha => by rw [e4, rw1_n _ _ ha, e3, rw1_n _ _ ha]
    have o5 : ∀ a, a ≠ 0 → a ≠ 18 → J5 a = J2 a := fun a ha hb => by rw [e5, rw1_n _ _ hb, o4 a ha]
    have f8 : J2 3 8 = 0 := by rw [c3 3 (by decide), fr 3 (by omega)]; exact a3.2.2.2.2.2.1
    have f9 : J3 3 9 = -1 := by rw [e3, rw1_n _ _ (by decide), c3 3 (by decide), fr 3 (by omega)]; exact a3.2.2.2.2.2.2.1
    have l18 : ∀ k, J2 18 k = I 18 k := fun k => by rw [c3 18 (by decide), fr 18 (by omega), a6 18 (by omega)]
    have l14 : J4 18 14 = nI tx.length := by rw [o4 18 (by decide), l18, e14]
    have cx14 : (nI tx.length).toNatClampNeg = tx.length := nI_clamp (by omega)
    have kx : KM Z2 x 6 := ⟨by omega, by rw [hx0]; exact n4⟩
    have n39 := hS2.n 39 4 (by decide)
    refine ⟨hgood, aTz Z2 tx.length x, J5, L2, cp_X11_text (M := (Z, I, L)) (hS.k 0 11 (by decide) (by decide)) ⟨18, hS.r 0 0 18 (by decide), hS.k 18 8 (by decide) (by decide), fun _ => ⟨3, hS.r 0 3 3 (by decide), hS.k 3 5 (by decide) (by decide), 1, hS.r 0 2 1 (by decide), hT.1, some x, (Z2, I2, L2), by rw [hx0]; exact a1, fun z => (by cases z), fun b z => ?_⟩, fun z => absurd l4 z⟩, ⟨?_, ?_, fun k h1 h2 => ?_, ?_, ?_⟩, z2.trans (aTz_g _ _), n1, ?_, fun a k ha hk => ?_, ?_, n4, n5, ?_, ?_, fun a h1 h2 h3 => ?_, fun k hk => ?_, ?_⟩
    · have hb : b = x := (Option.some.inj z).symm
      rw [hb]
      refine ⟨kx, 1, hS2.r 0 2 1 (by decide), t1.1, (Z2, J2, L2), c1, 3, hS2.r 0 3 3 (by decide), hS2.k 3 5 (by decide) (by decide), 0, (Z2, J2, L2), cp_X5_found (hS2.k 3 5 (by decide) (by decide)) ⟨by rw [f8], rfl⟩, fun M76 h76 => ?_⟩
      have h76 : M76 = (Z2, J3, L2) := by rw [h76, e3]
      rw [h76]
      refine ⟨3, hS2.r 0 3 3 (by decide), hS2.k 3 5 (by decide) (by decide), -1, (Z2, J3, L2), cp_X5_foundAt (hS2.k 3 5 (by decide) (by decide)) ⟨by rw [f9], rfl⟩, fun M96 h96 => ?_⟩
      have h96 : M96 = (Z2, J4, L2) := by rw [h96, e4]
      rw [h96]
      refine ⟨18, hS2.r 0 0 18 (by decide), hS2.k 18 8 (by decide) (by decide), nI tx.length, (aTz Z2 tx.length x, J5, L2), ?_, rfl, rfl⟩
      refine cp_X8_addText (M := (Z2, J4, L2)) (hS2.k 18 8 (by decide) (by decide)) kx ⟨39, hS2.r 18 13 39 (by decide), hS2.k 39 16 (by decide) (by decide), fun _ => ⟨39, hS2.r 18 13 39 (by decide), hS2.k 39 16 (by decide) (by decide), ?_, fun M4 h4 M9 h9 => ?_⟩, fun z => ?_⟩
      · show vp_in (J4 18 14) (Z2.2.2.1 39)
        rw [l14, n39]; exact vp_in_nI hn (by decide)
      · have h4 : M4 = (aTz Z2 tx.length x, J4, L2) := by
          rw [h4]
          show sR (Z2, J4, L2) 39 (va_up (Z2.2.1 39) (J4 18 14).toNatClampNeg (some x)) = _
          rw [l14, cx14]; rfl
        rw [h4] at h9
        have h9 : M9 = (aTz Z2 tx.length x, J5, L2) := by
          rw [h9]
          show (aTz Z2 tx.length x, rw1 J4 18 (upd (J4 18) 14 (J4 18 14 + 1)), L2) = _
          rw [l14, nI_1, e5]
        rw [h9]
        refine ⟨?_, rfl⟩
        show some (Value.int (nI tx.length)) = some (Value.int (J5 18 14 - 1))
        rw [e5, rw1_s, upd_s, nI_pred]
      · have z : ¬ J4 18 14 < nI (Z2.2.2.1 39) := z
        rw [l14, n39] at z
        exact absurd (nI_lt hn (by decide)) z
    · rw [e5, rw1_n _ _ (by decide), e4, rw1_s, upd_n _ _ (by decide), e3, rw1_s, upd_s]
    · rw [e5, rw1_n _ _ (by decide), e4, rw1_s, upd_s]
    · rw [e5, rw1_n _ _ (by decide), e4, rw1_s, upd_n _ _ h2, e3, rw1_s, upd_n _ _ h1, c3 0 (by decide), fr 0 (by omega), a6 0 (by omega)]
    · exact (c2.kept (by rw [o5 1 (by decide) (by decide)]) (fun k _ => by rw [o5 2 (by decide) (by decide)])).g (aTz_g _ _) (by decide) (by decide) (by decide)
    · exact (k3.kept (fun a h1 h2 => by rw [o5 a (by omega) (by omega), c3 a (by omega)])).grow (aTz_g _ _)
    · show Z2.2.2.2.2 ≤ _
      omega
    · rw [aTz_r, if_neg hk]; exact (n3 a ha).2.2.1 k
    · rw [aTz_r, if_pos ⟨rfl, rfl⟩, hx0]
    · rw [aTz_r, if_neg (fun z => by have := z.1; omega)]; exact n7
    · have d1 : J5 Z.2.2.2.1 = I2 Z.2.2.2.1 := by rw [o5 _ (by omega) (by omega), c3 _ (by omega)]
      have d2 : J5 (Z.2.2.2.1 + 1) = I2 (Z.2.2.2.1 + 1) := by rw [o5 _ (by omega) (by omega), c3 _ (by omega)]
      refine ⟨h99, ⟨by show _ < Z2.2.2.2.1; omega, n4⟩, Z.2.2.2.1 + 1, ords, by omega, ?_, ⟨⟨by show _ < Z2.2.2.2.1; omega, n5⟩, n6, by omega, fun k v hk => ?_⟩, ?_, ?_, ?_⟩
      · rw [aTz_r, if_neg (fun z => by have := z.1; omega)]; exact n7
      · rw [d2, n8 k (List.getElem?_eq_some_iff.mp hk).1]
        exact a3.2.2.2.2.2.2.2.2.2 k v hk
      · rw [d1, n9]; exact (a4 0 (by decide)).cr
      · rw [d1, n10, tx_b hgood]; exact (a4 1 (by decide)).cr
      · rw [d1, n11]; exact (a4 2 (by decide)).cr
    · rw [o5 a (by omega) h2, c3 a (by omega), fr a h3, a6 a (by omega)]
    · rw [e5, rw1_s, upd_n _ _ hk, o4 18 (by decide), l18]
    · rw [e5, rw1_s, upd_s]
end CTX
