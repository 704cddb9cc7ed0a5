/-! image(), back(), on both sides -/
def keptA (a : Nat) : Prop := 42 ≤ a ∧ a ≤ 65
/-- one list of texts goes on where the other ends -/
def TP (tk tx : List TX) : Prop := ∀ (k : Nat) t, tk[k]? = some t → tx[k]? = some t
section IMAGE
variable {g : GE} {Z : Zs} {I : Nat → Nat → Int32} {L : Nat → Nat → Int64} {w h : Nat} {S K : Nat → List Nat} {tx tk : List TX}
theorem op_image (c : CL Z I w h S tx) (hq : RQ Z) (b : SS Z I 24 w h K tk) : ∃ Z1 I1, Cl g 4 mu_X11_image [rf g 0] (Z, I, L) (some (.int (nI (S 1).length))) (Z1, I1, L) ∧ ZB Z Z1 63 ∧ RQ Z1 ∧ CL Z1 I1 w h S tx ∧ SS Z1 I1 24 w h S tx ∧ ∀ a, ¬ keptA a → I1 a = I a := by
  obtain ⟨k, hW, hm, hN, hK⟩ := id c
  obtain ⟨Z1, I1, d1, d2, d3, d4, d5, d6⟩ := sp_scopy (g := g) (L := L) (s1 := 24) (s2 := 0) (Or.inr ⟨rfl, rfl⟩) k.1 hq b k.ss
  have z1 : ZG Z Z1 := d2.zg (Or.inr rfl)
  have fr : ∀ a, ¬ keptA a → I1 a = I a := fun a ha => d6 a (by unfold keptA at ha; unfold stS; omega)
  have c1 : CL Z1 I1 w h S tx := (c.g z1 (fun q _ => by rw [d2.2.2 39 (by decide)])).kept (fun a ha => fr a (by unfold stA at ha; unfold keptA; omega))
  have k1 := c1.1
  refine ⟨Z1, I1, cp_X11_image (M := (Z, I, L)) (k.1.k 0 11 (by decide) (by decide)) ⟨42, k.1.r 0 1 42 (by decide), k.1.k 42 8 (by decide) (by decide), 18, k.1.r 0 0 18 (by decide), k.1.k 18 8 (by decide) (by decide), (Z1, I1, L), d1, 18, k1.1.r 0 0 18 (by decide), k1.1.k 18 8 (by decide) (by decide), 19, k1.1.r 18 3 19 (by decide), k1.1.k 19 2 (by decide) (by decide), _, (Z1, I1, L), sp_size (k1.il 1 (by decide)), rfl, rfl⟩, d2, d3, c1, d4, fr⟩
theorem op_back (c : CL Z I w h S tx) (hq : RQ Z) (b : SS Z I 24 w h K tk) (hWK : WF w h K tk) : ∃ Z1 I1, Cl g 4 mu_X11_back [rf g 0] (Z, I, L) (some (.int (nI (K 1).length))) (Z1, I1, L) ∧ ZB Z Z1 39 ∧ RQ Z1 ∧ CL Z1 I1 w h K tk ∧ SS Z1 I1 24 w h K tk ∧ ∀ a, ¬ nowA a → I1 a = I a := by
  obtain ⟨k, hW, hm, hN, hK⟩ := id c
  obtain ⟨Z1, I1, d1, d2, d3, d4, d5, d6⟩ := sp_scopy (g := g) (L := L) (s1 := 0) (s2 := 24) (Or.inl ⟨rfl, rfl⟩) k.1 hq k.ss b
  have z1 : ZG Z Z1 := d2.zg (Or.inl rfl)
  have k1 : CS Z1 I1 w h K tk := SS.cs d4 (k.1.g z1) k.2.1
  have n67 : Z1.2.2.1 67 = 64 * (w * h) := by rw [d2.2.1]; exact hN
  have fo := sp_forget (g := g) (L := L) k1 n67
  obtain ⟨I2, hI2⟩ : ∃ I2, I2 = rw1 I1 67 (fun q => if q < 64 * (w * h) then -1 else I1 67 q) := ⟨_, rfl⟩
  rw [← hI2] at fo
  have f2 : ∀ a, a ≠ 67 → I2 a = I1 a := fun a ha => by rw [hI2, rw1_n _ _ ha]
  have k2 : CS Z1 I2 w h K tk := k1.kept (fun a ha => f2 a (by rcases ha with ha | ha; (unfold stA at ha; omega); omega))
  have hm1 : MQ0 Z1 I2 := (MS.g hm z1).kept (by rw [f2 13 (by decide), d6 13 (by unfold stS; omega)]) (by rw [f2 15 (by decide), d6 15 (by unfold stS; omega)])
  have c2 : CL Z1 I2 w h K tk := ⟨k2, hWK, hm1, KC.empty (I := I1) n67 (by rw [hI2, rw1_s])⟩
  refine ⟨Z1, I2, cp_X11_back (M := (Z, I, L)) (k.1.k 0 11 (by decide) (by decide)) ⟨18, k.1.r 0 0 18 (by decide), k.1.k 18 8 (by decide) (by decide), 42, k.1.r 0 1 42 (by decide), k.1.k 42 8 (by decide) (by decide), (Z1, I1, L), d1, 66, k1.1.r 0 5 66 (by decide), k1.1.k 66 3 (by decide) (by decide), (Z1, I2, L), fo, 18, k1.1.r 0 0 18 (by decide), k1.1.k 18 8 (by decide) (by decide), 19, k1.1.r 18 3 19 (by decide), k1.1.k 19 2 (by decide) (by decide), _, (Z1, I2, L), sp_size (k2.il 1 (by decide)), rfl, rfl⟩, d2, d3, c2, d5.kept (fun a ha => f2 a (by unfold stS at ha; omega)), fun a ha => by rw [f2 a (by unfold nowA at ha; omega), d6 a (by unfold nowA at ha; unfold stS; omega)]⟩
/-- the model's copy -/
theorem cq_run (hS : Sh Z) {a b : Nat} (hab : (a = 77 ∧ b = 78) ∨ (a = 78 ∧ b = 77)) : ∀ (d j : Nat) (I : Nat → Nat → Int32), j + d = 205 → (∀ q, q < j → I b q = I a q) → ∃ I1, Lp_X12_copy_2 g 1 a b (nI j) (Z, I, L) none (Z, I1, L) ∧ (∀ q, q < 205 → I1 b q = I a q) ∧ ∀ q, q ≠ b → I1 q = I q := by
  have ka : KM Z a 13 := by rcases hab with ⟨rfl, rfl⟩ | ⟨rfl, rfl⟩; exact hS.k 77 13 (by decide) (by decide); exact hS.k 78 13 (by decide) (by decide)
  have kb : KM Z b 13 := by rcases hab with ⟨rfl, rfl⟩ | ⟨rfl, rfl⟩; exact hS.k 78 13 (by decide) (by decide); exact hS.k 77 13 (by decide) (by decide)
  have na : Z.2.2.1 a = 205 := by rcases hab with ⟨rfl, rfl⟩ | ⟨rfl, rfl⟩; exact hS.n 77 205 (by decide); exact hS.n 78 205 (by decide)
  have nb : Z.2.2.1 b = 205 := by rcases hab with ⟨rfl, rfl⟩ | ⟨rfl, rfl⟩; exact hS.n 78 205 (by decide); exact hS.n 77 205 (by decide)
  intro d
  induction d with
  | zero =>
    intro j I hj hq
    have hj : j = 205 := hj
    subst hj
    exact ⟨I, wp_X12_copy_2 ka kb ⟨fun _ => ⟨rfl, rfl⟩, fun e => absurd (nI_le (Nat.le_refl 205) (by decide)) e⟩, hq, fun _ _ => rfl⟩
  | succ d ih =>
    intro j I hj hq
    obtain ⟨I2, hI2⟩ : ∃ I2, I2 = rw1 I b (upd (I b) j (I a j)) := ⟨_, rfl⟩
    have ea : I2 a = I a := by rw [hI2, rw1_n _ _ (by omega)]
    obtain ⟨I1, e1, e2, e3⟩ := ih (j + 1) I2 (by omega) (fun q hq' => by
      rw [ea, hI2, rw1_s]
      unfold upd
      by_cases he : q = j
      · rw [if_pos he, he]
      · rw [if_neg he]; exact hq q (by omega))
    refine ⟨I1, wp_X12_copy_2 ka kb ⟨fun e => absurd ((nI_leI (a := 205) (by decide) (by omega)).mp e) (by omega), fun _ => ⟨by rw [na]; exact vp_in_nI (by omega) (by decide), by rw [nb]; exact vp_in_nI (by omega) (by decide), fun I3 h3 y hy => ?_⟩⟩, fun q hq' => by rw [e2 q hq', ea], fun q hq' => by rw [e3 q hq', hI2, rw1_n _ _ hq']⟩
    rw [nI_clamp (by omega), ← hI2] at h3
    rw [h3, hy, nI_1]
    exact e1
theorem MR.cp {I1 : Nat → Nat → Int32} {a b n : Nat} (hwh : wh w h) (hM : MR I a w h S n) (he : ∀ q, q < 205 → I1 b q = I a q) : MR I1 b w h S n := by
  obtain ⟨h1, h2, h3, h4, h5, h6, h7, h8⟩ := hM
  refine ⟨fun f hf => ⟨(h1 f hf).1, fun k v hk => ?_⟩, ?_, ?_, ?_, ?_, ?_, ?_, ?_⟩
  · have hl := (List.getElem?_eq_some_iff.mp hk).1
    have hp := mpos hwh hf (Nat.lt_of_lt_of_le hl (h1 f hf).1)
    rw [he _ (by omega)]
    exact (h1 f hf).2 k v hk
  · rw [he _ (by decide)]; exact h2
  · rw [he _ (by decide)]; exact h3
  · rw [he _ (by decide)]; exact h4
  · rw [he _ (by decide)]; exact h5
  · rw [he _ (by decide)]; exact h6
  · rw [he _ (by decide)]; exact h7
  · rw [he _ (by decide)]; exact h8
theorem mo_image (m : MB Z I w h S tx) : ∃ I1, Cl g 2 mu_X12_image [rf g 76] (Z, I, L) (some (.int (nI (S 1).length))) (Z, I1, L) ∧ MB Z I1 w h S tx ∧ MR I1 78 w h S tx.length ∧ ∀ a, a ≠ 78 → I1 a = I a := by
  obtain ⟨k, hW, hrg⟩ := id m
  obtain ⟨hMR, c0, c1⟩ := k.2.2.2.2.1
  obtain ⟨I1, e1, e2, e3⟩ := cq_run (g := g) (L := L) k.1 (Or.inl ⟨rfl, rfl⟩) 205 0 I (Nat.zero_add _) (fun q hq => absurd hq (by omega))
  refine ⟨I1, cp_X12_image (k.1.k 76 12 (by decide) (by decide)) (k.1.r 76 0 77 (by decide)) (k.1.k 77 13 (by decide) (by decide)) (k.1.r 76 1 78 (by decide)) (k.1.k 78 13 (by decide) (by decide)) ⟨I1, L, cp_X12_copy (k.1.k 77 13 (by decide) (by decide)) (k.1.k 78 13 (by decide) (by decide)) e1, vin k (j := 0) (by decide), ?_, rfl⟩, ⟨k.kept (fun a ha => e3 a (by omega)), hW, fun j hj => by rw [e3 82 (by decide)]; exact hrg j hj⟩, k.2.2.2.2.1.cp k.2.1 e2, e3⟩
  rw [e3 77 (by decide), show I 77 (0 : Int32).toNatClampNeg = nI (S 1).length from c0]
theorem mo_back (m : MB Z I w h S tx) (hR : MR I 78 w h K tk.length) (hWK : WF w h K tk) (hT : TP tk tx) (h4 : tk.length ≤ 4) : ∃ I1, Cl g 2 mu_X12_back [rf g 76] (Z, I, L) (some (.int (nI (K 1).length))) (Z, I1, L) ∧ MB Z I1 w h K tk ∧ MR I1 78 w h K tk.length ∧ ∀ a, ¬ modA a → I1 a = I a := by
  obtain ⟨k, hW, hrg⟩ := id m
  obtain ⟨I1, e1, e2, e3⟩ := cq_run (g := g) (L := L) k.1 (Or.inr ⟨rfl, rfl⟩) 205 0 I (Nat.zero_add _) (fun q hq => absurd hq (by omega))
  have hR1 := hR.cp k.2.1 e2
  have e6 := e3 76 (by decide)
  have e9 := e3 79 (by decide)
  refine ⟨I1, cp_X12_back (k.1.k 76 12 (by decide) (by decide)) (k.1.r 76 1 78 (by decide)) (k.1.k 78 13 (by decide) (by decide)) (k.1.r 76 0 77 (by decide)) (k.1.k 77 13 (by decide) (by decide)) ⟨I1, L, cp_X12_copy (k.1.k 78 13 (by decide) (by decide)) (k.1.k 77 13 (by decide) (by decide)) e1, vin k (j := 0) (by decide), ?_, rfl⟩, ⟨⟨k.1, k.2.1, by rw [e6]; exact k.2.2.1, by rw [e6]; exact k.2.2.2.1, hR1, h4, fun q t hq => ?_⟩, hWK, fun j hj => by rw [e3 82 (by decide)]; exact hrg j hj⟩, hR.cp k.2.1 (fun q _ => by rw [e3 78 (by decide)]), fun a ha => e3 a (by unfold modA at ha; omega)⟩
  · rw [show I1 77 (0 : Int32).toNatClampNeg = nI (K 1).length from hR1.2.1]
  · obtain ⟨t1, t2, t3⟩ := k.2.2.2.2.2.2 q t (hT q t hq)
    exact ⟨t1.kept e9, t2.kept e9, t3.kept e9⟩
end IMAGE
