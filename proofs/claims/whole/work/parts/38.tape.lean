/-! the tape: feed(), end(), on both sides -/
def byteF (x : Int32) (s : Nat) : Nat := ((x.toBitVec >>> s) &&& 255#32).toNat
theorem byteF_lt (x : Int32) (s : Nat) : byteF x s < 256 := by
  unfold byteF
  rw [BitVec.toNat_and]
  exact Nat.lt_of_le_of_lt Nat.and_le_right (by decide)
theorem sh_eq (x : BitVec 32) {s : Nat} (hs : s ≤ 24) : (x.sshiftRight s) &&& 255#32 = (x >>> s) &&& 255#32 := by
  apply BitVec.eq_of_getLsbD_eq
  intro i hi
  rw [BitVec.getLsbD_and, BitVec.getLsbD_and, BitVec.getLsbD_sshiftRight, BitVec.getLsbD_ushiftRight]
  by_cases h8 : i < 8
  · rw [decide_eq_false (show ¬ 32 ≤ i by omega), if_pos (show s + i < 32 by omega)]; simp
  · have : (255#32).getLsbD i = false := by
      rw [BitVec.getLsbD_ofNat, show (255 : Nat) = 2 ^ 8 - 1 by decide, Nat.testBit_two_pow_sub_one, decide_eq_false h8, Bool.and_false]
    rw [this, Bool.and_false, Bool.and_false]
theorem nI_byte (x : Int32) (s : Nat) : (nI (byteF x s)).toBitVec = (x.toBitVec >>> s) &&& 255#32 := by
  show BitVec.ofNat 32 (byteF x s) = _
  unfold byteF
  rw [BitVec.ofNat_toNat, BitVec.setWidth_eq]
theorem by_c (x : Int32) {s : Nat} (hs : s = 0 ∨ s = 8 ∨ s = 16 ∨ s = 24) : ((x.toUInt32 >>> ((nI s).toUInt32 &&& Int32.toUInt32 31)).toInt32) &&& 255 = nI (byteF x s) := by
  apply Int32.toBitVec_inj.mp
  rw [nI_byte]
  rcases hs with rfl | rfl | rfl | rfl <;> rfl
theorem by_m (x : Int32) {s : Nat} (hs : s = 0 ∨ s = 8 ∨ s = 16 ∨ s = 24) : (x >>> (nI s &&& 31)) &&& 255 = nI (byteF x s) := by
  apply Int32.toBitVec_inj.mp
  rw [nI_byte, ← sh_eq _ (by omega)]
  rcases hs with rfl | rfl | rfl | rfl <;> rfl
def fourL (x : Int32) : List Nat := [byteF x 24, byteF x 16, byteF x 8, byteF x 0]
/-- the model's tape -/
def MT (I : Nat → Nat → Int32) (tp : List Nat) : Prop := I 76 6 = nI tp.length ∧ tp.length ≤ 300 ∧ ∀ (k : Nat) v, tp[k]? = some v → I 80 k = nI v
section TAPE
variable {g : GE} {Z : Zs} {I : Nat → Nat → Int32} {L : Nat → Nat → Int64} {tp : List Nat}
theorem sp_four (hS : Sh Z) (hT : IL Z I 1 2 300 tp) (x : Int32) (hl : tp.length + 4 ≤ 300) : ∃ I1, Cl g 2 mu_X11_addBytes [rf g 0, .int x] (Z, I, L) none (Z, I1, L) ∧ IL Z I1 1 2 300 (tp ++ fourL x) ∧ ∀ a, a ≠ 1 → a ≠ 2 → I1 a = I a := by
  have K := hS.k 0 11 (by decide) (by decide)
  have R := hS.r 0 2 1 (by decide)
  have K1 := hS.k 1 2 (by decide) (by decide)
  obtain ⟨I1, a1, a2, a3⟩ := sp_add (g := g) (L := L) hT (byteF x 24)
  rw [if_pos (by omega)] at a2
  obtain ⟨I2, b1, b2, b3⟩ := sp_add (g := g) (L := L) a2 (byteF x 16)
  rw [if_pos (by rw [List.length_append, List.length_singleton]; omega)] at b2
  obtain ⟨I3, c1, c2, c3⟩ := sp_add (g := g) (L := L) b2 (byteF x 8)
  rw [if_pos (by rw [List.length_append, List.length_append, List.length_singleton, List.length_singleton]; omega)] at c2
  obtain ⟨I4, d1, d2, d3⟩ := sp_add (g := g) (L := L) c2 (byteF x 0)
  rw [if_pos (by rw [List.length_append, List.length_append, List.length_append, List.length_singleton, List.length_singleton, List.length_singleton]; omega)] at d2
  refine ⟨I4, cp_X11_addBytes K (wp_X11_addBytes_3 K R K1 ⟨fun e => absurd e (by decide), fun _ => ⟨I1, L, ?_, fun y hy => ?_⟩⟩), by rw [show tp ++ fourL x = tp ++ [byteF x 24] ++ [byteF x 16] ++ [byteF x 8] ++ [byteF x 0] by simp [fourL]]; exact d2, fun a h1 h2 => by rw [d3 a h1 h2, c3 a h1 h2, b3 a h1 h2, a3 a h1 h2]⟩
  · have := by_c x (s := 24) (by omega)
    rw [show (24 : Int32) = nI 24 from rfl, this]; exact a1
  · have hy : y = 16 := hy
    subst hy
    refine wp_X11_addBytes_3 K R K1 ⟨fun e => absurd e (by decide), fun _ => ⟨I2, L, ?_, fun y hy => ?_⟩⟩
    · have := by_c x (s := 16) (by omega)
      rw [show (16 : Int32) = nI 16 from rfl, this]; exact b1
    · have hy : y = 8 := hy
      subst hy
      refine wp_X11_addBytes_3 K R K1 ⟨fun e => absurd e (by decide), fun _ => ⟨I3, L, ?_, fun y hy => ?_⟩⟩
      · have := by_c x (s := 8) (by omega)
        rw [show (8 : Int32) = nI 8 from rfl, this]; exact c1
      · have hy : y = 0 := hy
        subst hy
        refine wp_X11_addBytes_3 K R K1 ⟨fun e => absurd e (by decide), fun _ => ⟨I4, L, ?_, fun y hy => ?_⟩⟩
        · have := by_c x (s := 0) (by omega)
          rw [show (0 : Int32) = nI 0 from rfl, this]; exact d1
        · have hy : y = -8 := hy
          subst hy
          exact wp_X11_addBytes_3 K R K1 ⟨fun _ => ⟨rfl, rfl⟩, fun e => absurd (by decide) e⟩
def feedL (x1 x2 x3 x4 x5 : Int32) : List Nat := fourL x1 ++ fourL x2 ++ fourL x3 ++ fourL x4 ++ fourL x5
theorem fourL_len (x : Int32) : (fourL x).length = 4 := rfl
theorem op_feed (hS : Sh Z) (hT : IL Z I 1 2 300 tp) (x1 x2 x3 x4 x5 : Int32) (hl : tp.length + 20 ≤ 300) : ∃ I1, Cl g 3 mu_X11_feed [rf g 0, .int x1, .int x2, .int x3, .int x4, .int x5] (Z, I, L) (some (.int (nI (tp.length + 20)))) (Z, I1, L) ∧ IL Z I1 1 2 300 (tp ++ feedL x1 x2 x3 x4 x5) ∧ ∀ a, a ≠ 1 → a ≠ 2 → I1 a = I a := by
  have K := hS.k 0 11 (by decide) (by decide)
  have R := hS.r 0 2 1 (by decide)
  have K1 := hS.k 1 2 (by decide) (by decide)
  obtain ⟨I1, a1, a2, a3⟩ := sp_four (g := g) (L := L) hS hT x1 (by omega)
  obtain ⟨I2, b1, b2, b3⟩ := sp_four (g := g) (L := L) hS a2 x2 (by simp only [List.length_append, fourL_len]; omega)
  obtain ⟨I3, c1, c2, c3⟩ := sp_four (g := g) (L := L) hS b2 x3 (by simp only [List.length_append, fourL_len]; omega)
  obtain ⟨I4, d1, d2, d3⟩ := sp_four (g := g) (L := L) hS c2 x4 (by simp only [List.length_append, fourL_len]; omega)
  obtain ⟨I5, e1, e2, e3⟩ := sp_four (g := g) (L := L) hS d2 x5 (by simp only [List.length_append, fourL_len]; omega)
  have es := sp_size (g := g) (L := L) e2
  rw [show (tp ++ fourL x1 ++ fourL x2 ++ fourL x3 ++ fourL x4 ++ fourL x5).length = tp.length + 20 by simp only [List.length_append, fourL_len]] at es
  refine ⟨I5, cp_X11_feed K R K1 ⟨_, sp_size hT, fun _ => ⟨I1, L, a1, I2, L, b1, I3, L, c1, I4, L, d1, I5, L, e1, _, es, rfl, rfl⟩, fun e => ?_⟩, by rw [show tp ++ feedL x1 x2 x3 x4 x5 = tp ++ fourL x1 ++ fourL x2 ++ fourL x3 ++ fourL x4 ++ fourL x5 by simp [feedL]]; exact e2, fun a h1 h2 => by rw [e3 a h1 h2, d3 a h1 h2, c3 a h1 h2, b3 a h1 h2, a3 a h1 h2]⟩
  rw [show nI tp.length + 20 = nI (tp.length + 20) from nI_add _ 20] at e
  exact absurd ((nI_leI (b := 300) (by omega) (by decide)).mpr hl) e
theorem op_feedN (hS : Sh Z) (hT : IL Z I 1 2 300 tp) (x1 x2 x3 x4 x5 : Int32) (hl : ¬ tp.length + 20 ≤ 300) : Cl g 3 mu_X11_feed [rf g 0, .int x1, .int x2, .int x3, .int x4, .int x5] (Z, I, L) (some (.int (-1))) (Z, I, L) := by
  have h3 : tp.length ≤ 300 := hT.2.2.2.2.2.1
  refine cp_X11_feed (hS.k 0 11 (by decide) (by decide)) (hS.r 0 2 1 (by decide)) (hS.k 1 2 (by decide) (by decide)) ⟨_, sp_size hT, fun e => ?_, fun _ => ⟨rfl, rfl⟩⟩
  rw [show nI tp.length + 20 = nI (tp.length + 20) from nI_add _ 20] at e
  exact absurd ((nI_leI (b := 300) (by omega) (by decide)).mp e) hl
theorem op_end (hS : Sh Z) (hT : IL Z I 1 2 300 tp) {n : Nat} (hn : n ≤ tp.length) : ∃ I1, Cl g 3 mu_X11_end [rf g 0, .int (nI n)] (Z, I, L) (some (.int (nI n))) (Z, I1, L) ∧ IL Z I1 1 2 300 (tp.take n) ∧ ∀ a, a ≠ 1 → a ≠ 2 → I1 a = I a := by
  have h3 : tp.length ≤ 300 := hT.2.2.2.2.2.1
  obtain ⟨I1, a1, a2, a3⟩ := sp_cutTo (g := g) (L := L) hT (nI n)
  rw [if_neg (nI_pos (by omega)), nI_clamp (by omega)] at a2
  exact ⟨I1, cp_X11_end (hS.k 0 11 (by decide) (by decide)) (hS.r 0 2 1 (by decide)) (hS.k 1 2 (by decide) (by decide)) ⟨fun e => absurd e (nI_pos (by omega)), fun _ => ⟨_, sp_size hT, fun _ => ⟨I1, L, a1, rfl, rfl⟩, fun e => absurd (nI_le hn (by omega)) e⟩⟩, a2, fun a h1 _ => a3 a h1⟩
theorem op_endN (hS : Sh Z) (hT : IL Z I 1 2 300 tp) {x : Int32} (hn : ¬ ∃ n, x = nI n ∧ n ≤ tp.length) : Cl g 3 mu_X11_end [rf g 0, .int x] (Z, I, L) (some (.int (-1))) (Z, I, L) := by
  have h3 : tp.length ≤ 300 := hT.2.2.2.2.2.1
  refine cp_X11_end (hS.k 0 11 (by decide) (by decide)) (hS.r 0 2 1 (by decide)) (hS.k 1 2 (by decide) (by decide)) ⟨fun _ => ⟨rfl, rfl⟩, fun h1 => ⟨_, sp_size hT, fun e => ?_, fun _ => ⟨rfl, rfl⟩⟩⟩
  obtain ⟨n, hv, rfl⟩ := nI_of h1
  refine absurd ⟨n, rfl, ?_⟩ hn
  rcases Nat.lt_or_ge tp.length n with z | z
  · exact absurd e (nI_ge z (by omega))
  · exact z
theorem m80 (hS : Sh Z) {j : Nat} (hj : j < 300) : vp_in (nI j) (Z.2.2.1 80) := by rw [hS.n 80 300 (by decide)]; exact vp_in_nI hj (by decide)
/-- one byte on the model's tape -/
theorem mt_one (hS : Sh Z) (hT : MT I tp) {x : Int32} {s : Nat} (hs : s = 0 ∨ s = 8 ∨ s = 16 ∨ s = 24) (hl : tp.length < 300) : ∃ I1, MT I1 (tp ++ [byteF x s]) ∧ (∀ a, a ≠ 76 → a ≠ 80 → I1 a = I a) ∧ (∀ j, j ≠ 6 → I1 76 j = I 76 j) ∧ ∀ r M', (Lp_X12_four_3 g 1 76 x (nI s + (-8)) (Z, I1, L) r M' → Lp_X12_four_3 g 1 76 x (nI s) (Z, I, L) r M') := by
  obtain ⟨t1, t2, t3⟩ := hT
  obtain ⟨J1, j1⟩ : ∃ J, J = rw1 I 80 (upd (I 80) tp.length (nI (byteF x s))) := ⟨_, rfl⟩
  obtain ⟨J2, j2⟩ : ∃ J, J = rw1 J1 76 (upd (J1 76) 6 (nI (tp.length + 1))) := ⟨_, rfl⟩
  have w0 : ∀ j, J1 80 j = if j = tp.length then nI (byteF x s) else I 80 j := fun j => by rw [j1, rw1_s]; rfl
  have w1 : J1 76 = I 76 := by rw [j1]; exact rw1_n _ _ (by decide)
  have w2 : ∀ j, J2 76 j = if j = 6 then nI (tp.length + 1) else I 76 j := fun j => by rw [j2, rw1_s, w1]; rfl
  have w3 : J2 80 = J1 80 := by rw [j2]; exact rw1_n _ _ (by decide)
  refine ⟨J2, ⟨?_, ?_, fun k v hk => ?_⟩, fun a h1 h2 => by rw [j2, rw1_n _ _ h1, j1, rw1_n _ _ h2], fun j hj => by rw [w2, if_neg hj], fun r M' hc => ?_⟩
  · rw [w2, if_pos rfl, List.length_append, List.length_singleton]
  · rw [List.length_append, List.length_singleton]; omega
  · rw [w3, w0]
    rcases getElem_app hk with h1 | ⟨rfl, rfl⟩
    · have := (List.getElem?_eq_some_iff.mp h1).1
      rw [if_neg (by omega)]
      exact t3 k v h1
    · rw [if_pos rfl]
  · refine wp_X12_four_3 (hS.k 76 12 (by decide) (by decide)) (hS.r 76 5 80 (by decide)) (hS.k 80 13 (by decide) (by decide)) ⟨fun e => absurd e (nI_pos (by omega)), fun _ => ?_⟩
    rw [by_m x hs, t1, nI_clamp (by omega)]
    refine ⟨m80 hS (by omega), fun I2 h2 I3 h3 y hy => ?_⟩
    have h2 : I2 = J1 := h2.trans j1.symm
    subst h2
    rw [w1, t1, nI_1, ← w1] at h3
    have h3 : I3 = J2 := h3.trans j2.symm
    subst h3
    rw [hy]; exact hc
theorem ms_four (hS : Sh Z) (hT : MT I tp) (x : Int32) (hl : tp.length + 4 ≤ 300) : ∃ I1, Cl g 1 mu_X12_four [rf g 76, .int x] (Z, I, L) none (Z, I1, L) ∧ MT I1 (tp ++ fourL x) ∧ (∀ a, a ≠ 76 → a ≠ 80 → I1 a = I a) ∧ ∀ j, j ≠ 6 → I1 76 j = I 76 j := by
  have K := hS.k 76 12 (by decide) (by decide)
  obtain ⟨I1, a1, a2, a3, a4⟩ := mt_one (g := g) (L := L) hS hT (x := x) (s := 24) (by omega) (by omega)
  obtain ⟨I2, b1, b2, b3, b4⟩ := mt_one (g := g) (L := L) hS a1 (x := x) (s := 16) (by omega) (by simp only [List.length_append, List.length_singleton]; omega)
  obtain ⟨I3, c1, c2, c3, c4⟩ := mt_one (g := g) (L := L) hS b1 (x := x) (s := 8) (by omega) (by simp only [List.length_append, List.length_singleton]; omega)
  obtain ⟨I4, d1, d2, d3, d4⟩ := mt_one (g := g) (L := L) hS c1 (x := x) (s := 0) (by omega) (by simp only [List.length_append, List.length_singleton]; omega)
  refine ⟨I4, cp_X12_four K (a4 _ _ (b4 _ _ (c4 _ _ (d4 _ _ ?_)))), by rw [show tp ++ fourL x = tp ++ [byteF x 24] ++ [byteF x 16] ++ [byteF x 8] ++ [byteF x 0] by simp [fourL]]; exact d1, fun a h1 h2 => by rw [d2 a h1 h2, c2 a h1 h2, b2 a h1 h2, a2 a h1 h2], fun j hj => by rw [d3 j hj, c3 j hj, b3 j hj, a3 j hj]⟩
  exact wp_X12_four_3 K (hS.r 76 5 80 (by decide)) (hS.k 80 13 (by decide) (by decide)) ⟨fun _ => ⟨rfl, rfl⟩, fun e => absurd (by decide) e⟩
theorem mo_feed (hS : Sh Z) (hT : MT I tp) (x1 x2 x3 x4 x5 : Int32) (hl : tp.length + 20 ≤ 300) : ∃ I1, Cl g 2 mu_X12_feed [rf g 76, .int x1, .int x2, .int x3, .int x4, .int x5] (Z, I, L) (some (.int (nI (tp.length + 20)))) (Z, I1, L) ∧ MT I1 (tp ++ feedL x1 x2 x3 x4 x5) ∧ (∀ a, a ≠ 76 → a ≠ 80 → I1 a = I a) ∧ ∀ j, j ≠ 6 → I1 76 j = I 76 j := by
  have K := hS.k 76 12 (by decide) (by decide)
  obtain ⟨I1, a1, a2, a3, a4⟩ := ms_four (g := g) (L := L) hS hT x1 (by omega)
  obtain ⟨I2, b1, b2, b3, b4⟩ := ms_four (g := g) (L := L) hS a2 x2 (by simp only [List.length_append, fourL_len]; omega)
  obtain ⟨I3, c1, c2, c3, c4⟩ := ms_four (g := g) (L := L) hS b2 x3 (by simp only [List.length_append, fourL_len]; omega)
  obtain ⟨I4, d1, d2, d3, d4⟩ := ms_four (g := g) (L := L) hS c2 x4 (by simp only [List.length_append, fourL_len]; omega)
  obtain ⟨I5, e1, e2, e3, e4⟩ := ms_four (g := g) (L := L) hS d2 x5 (by simp only [List.length_append, fourL_len]; omega)
  refine ⟨I5, cp_X12_feed K ⟨fun _ => ⟨I1, L, a1, I2, L, b1, I3, L, c1, I4, L, d1, I5, L, e1, ?_, rfl⟩, fun e => ?_⟩, by rw [show tp ++ feedL x1 x2 x3 x4 x5 = tp ++ fourL x1 ++ fourL x2 ++ fourL x3 ++ fourL x4 ++ fourL x5 by simp [feedL]]; exact e2, fun a h1 h2 => by rw [e3 a h1 h2, d3 a h1 h2, c3 a h1 h2, b3 a h1 h2, a3 a h1 h2], fun j hj => by rw [e4 j hj, d4 j hj, c4 j hj, b4 j hj, a4 j hj]⟩
  · rw [e2.1]; simp only [List.length_append, fourL_len]
  · rw [hT.1, show nI tp.length + 20 = nI (tp.length + 20) from nI_add _ 20] at e
    exact absurd ((nI_leI (b := 300) (by omega) (by decide)).mpr hl) e
theorem mo_feedN (hS : Sh Z) (hT : MT I tp) (x1 x2 x3 x4 x5 : Int32) (hl : ¬ tp.length + 20 ≤ 300) : Cl g 2 mu_X12_feed [rf g 76, .int x1, .int x2, .int x3, .int x4, .int x5] (Z, I, L) (some (.int (-1))) (Z, I, L) := by
  have h3 := hT.2.1
  refine cp_X12_feed (hS.k 76 12 (by decide) (by decide)) ⟨fun e => ?_, fun _ => ⟨rfl, rfl⟩⟩
  rw [hT.1, show nI tp.length + 20 = nI (tp.length + 20) from nI_add _ 20] at e
  exact absurd ((nI_leI (b := 300) (by omega) (by decide)).mp e) hl
theorem mo_end (hS : Sh Z) (hT : MT I tp) {n : Nat} (hn : n ≤ tp.length) : ∃ I1, Cl g 2 mu_X12_end [rf g 76, .int (nI n)] (Z, I, L) (some (.int (nI n))) (Z, I1, L) ∧ MT I1 (tp.take n) ∧ (∀ a, a ≠ 76 → a ≠ 80 → I1 a = I a) ∧ ∀ j, j ≠ 6 → I1 76 j = I 76 j := by
  obtain ⟨t1, t2, t3⟩ := hT
  have w2 : ∀ j, rw1 I 76 (upd (I 76) 6 (nI n)) 76 j = if j = 6 then nI n else I 76 j := fun j => by rw [rw1_s]; rfl
  have ci := sp_isIn (g := g) (Z := Z) (I := I) (L := L) (nI n) 0 (I 76 6)
  refine ⟨rw1 I 76 (upd (I 76) 6 (nI n)), cp_X12_end (hS.k 76 12 (by decide) (by decide)) ⟨_, ci, fun _ I3 h3 => ⟨rfl, by rw [h3]⟩, fun e => ?_⟩, ⟨?_, ?_, fun k v hk => ?_⟩, fun a h1 _ => rw1_n _ _ h1, fun j hj => by rw [w2, if_neg hj]⟩
  · refine absurd e (ite_1 ⟨nI_pos (by omega), ?_⟩)
    rw [t1]
    exact Int32.not_lt.mpr (nI_le hn (by omega))
  · rw [w2, if_pos rfl, List.length_take, show min n tp.length = n by omega]
  · rw [List.length_take]; omega
  · rw [rw1_n _ _ (by decide)]
    exact t3 k v (getElem_take hk).2
theorem mo_endN (hS : Sh Z) (hT : MT I tp) {x : Int32} (hn : ¬ ∃ n, x = nI n ∧ n ≤ tp.length) : Cl g 2 mu_X12_end [rf g 76, .int x] (Z, I, L) (some (.int (-1))) (Z, I, L) := by
  obtain ⟨t1, t2, t3⟩ := hT
  have ci := sp_isIn (g := g) (Z := Z) (I := I) (L := L) x 0 (I 76 6)
  refine cp_X12_end (hS.k 76 12 (by decide) (by decide)) ⟨_, ci, fun e => ?_, fun _ => ⟨rfl, rfl⟩⟩
  by_cases h1 : ¬ x < 0 ∧ ¬ I 76 6 < x
  · obtain ⟨n, hv, rfl⟩ := nI_of h1.1
    refine absurd ⟨n, rfl, ?_⟩ hn
    rcases Nat.lt_or_ge tp.length n with z | z
    · exact absurd (by rw [t1]; exact nI_lt z hv) h1.2
    · exact z
  · exact absurd (ite_0 h1) e
end TAPE
