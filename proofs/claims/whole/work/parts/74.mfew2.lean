/-! the model's fewest(), tells(), whole -/
theorem set_bcE : ∀ m, m < 5 → ∀ n, n < 16 → n < 2 ^ m → (setF n m).length = bnF n := by decide +kernel
section MFEW2
variable {g : GE} {Z : Zs} {I : Nat → Nat → Int32} {L : Nat → Nat → Int64} {w h : Nat} {S : Nat → List Nat} {tx : List TX}
theorem fc_48 (k : MM Z I w h S tx) {n : Nat} (hn : n < 16) {x2 x3 x4 : Int32} {r : Option Value} {M' : Mem} : ∀ (d j : Nat), j + d = tx.length → Lp_X12_fewest_48 g 8 76 (nI n) x2 x3 x4 (nI (setF n tx.length).length) (nI tx.length) (Z, I, L) r M' → Lp_X12_fewest_48 g 8 76 (nI n) x2 x3 x4 (nI (setF n j).length) (nI j) (Z, I, L) r M' := by
  have hx4 := k.2.2.2.2.2.1
  have e1 : I 77 (1 : Int32).toNatClampNeg = nI tx.length := k.2.2.2.2.1.2.2.1
  intro d
  induction d with
  | zero =>
    intro j hj hc
    have hj : j = tx.length := hj
    rw [hj]; exact hc
  | succ d ih =>
    intro j hj hc
    refine wp_X12_fewest_48 (k.1.k 76 12 (by decide) (by decide)) (k.1.r 76 0 77 (by decide)) (k.1.k 77 13 (by decide) (by decide)) ⟨vin k (j := 1) (by decide), fun e => ?_, fun _ y hy y4 hy4 => ?_⟩
    · rw [e1] at e
      exact absurd e (nI_ge (by omega) (by omega))
    · rw [bit_at n hn j (by omega), nI_add] at hy
      rw [hy, hy4, nI_1]
      have es : (setF n j).length + n / 2 ^ j % 2 = (setF n (j + 1)).length := by
        show _ = (if n / 2 ^ j % 2 = 1 then setF n j ++ [j] else setF n j).length
        by_cases hb : n / 2 ^ j % 2 = 1
        · rw [if_pos hb, hb, List.length_append, List.length_singleton]
        · rw [if_neg hb]
          have := Nat.mod_lt (n / 2 ^ j) (show 0 < 2 by decide)
          omega
      rw [es]
      exact ih (j + 1) (by omega) hc
theorem fc_92 {n : Nat} (hn : n < 16) (hb : bnF n ≤ 3) {x2 x3 x4 : Int32} : ∀ (d j : Nat) (I : Nat → Nat → Int32), j + d = tx.length → MB Z I w h S tx → I 76 34 = nI (setF n j).length → (∀ i, i < (setF n j).length → I 91 i = nI ((setF n j).getD i 0)) →
    ∃ I1, (∀ r M', Lp_X12_fewest_92 g 8 76 (nI n) x2 x3 x4 (nI tx.length) (Z, I1, L) r M' → Lp_X12_fewest_92 g 8 76 (nI n) x2 x3 x4 (nI j) (Z, I, L) r M') ∧ MB Z I1 w h S tx ∧ I1 76 34 = nI (setF n tx.length).length ∧ (∀ i, i < (setF n tx.length).length → I1 91 i = nI ((setF n tx.length).getD i 0)) ∧ MFr I I1 := by
  intro d
  induction d with
  | zero =>
    intro j I hj m h34 h91
    have hj : j = tx.length := hj
    subst hj
    exact ⟨I, fun _ _ hc => hc, m, h34, h91, MFr.refl I⟩
  | succ d ih =>
    intro j I hj m h34 h91
    obtain ⟨k, hW, -⟩ := id m
    have hS := k.1
    have hx4 := k.2.2.2.2.2.1
    have e1 : I 77 (1 : Int32).toNatClampNeg = nI tx.length := k.2.2.2.2.1.2.2.1
    have eb := bit_at n hn j (by omega)
    have wp := fun (R : Option Value) (M' : Mem) => @wp_X12_fewest_92 g Z I L R M' 76 (nI n) x2 x3 x4 (nI j) 77 91 (hS.k 76 12 (by decide) (by decide)) (hS.r 76 0 77 (by decide)) (hS.k 77 13 (by decide) (by decide)) (hS.r 76 33 91 (by decide)) (hS.k 91 13 (by decide) (by decide))
    by_cases hbit : n / 2 ^ j % 2 = 1
    · have es : setF n (j + 1) = setF n j ++ [j] := by
        show (if n / 2 ^ j % 2 = 1 then _ else _) = _
        rw [if_pos hbit]
      have hl : (setF n j).length < 3 := by
        have := set_bc n hn hb (j + 1) (by omega)
        rw [es, List.length_append, List.length_singleton] at this
        omega
      obtain ⟨l, hll⟩ : ∃ l, l = (setF n j).length := ⟨_, rfl⟩
      rw [← hll] at h34 h91 hl
      obtain ⟨J1, q1⟩ : ∃ J, J = rw1 I 91 (upd (I 91) l (nI j)) := ⟨_, rfl⟩
      obtain ⟨J2, q2⟩ : ∃ J, J = rw1 J1 76 (upd (J1 76) 34 (nI (l + 1))) := ⟨_, rfl⟩
      have e76 : J1 76 = I 76 := by rw [q1, rw1_n _ _ (by decide)]
      have u76 : ∀ q, q ≠ 34 → J2 76 q = I 76 q := fun q hq => by rw [q2, rw1_s, upd_n _ _ hq, e76]
      have o2 : ∀ a, a ≠ 76 → a ≠ 91 → J2 a = I a := fun a h1 h2 => by rw [q2, rw1_n _ _ h1, q1, rw1_n _ _ h2]
      have m2 : MB Z J2 w h S tx := m.w (u76 2 (by decide)) (u76 3 (by decide)) (o2 77 (by decide) (by decide)) (o2 79 (by decide) (by decide)) (o2 82 (by decide) (by decide))
      have len : (setF n (j + 1)).length = l + 1 := by rw [es, List.length_append, List.length_singleton, hll]
      obtain ⟨I1, f1, f2, f3, f4, f5⟩ := ih (j + 1) J2 (by omega) m2 (by rw [q2, rw1_s, upd_s, len]) (fun i hi => by
        rw [len] at hi
        rw [q2, rw1_n _ _ (by decide), q1, rw1_s, es, getD_app, ← hll]
        by_cases he : i = l
        · rw [he, upd_s, if_neg (by omega), if_pos rfl]
        · rw [upd_n _ _ he, if_pos (by omega)]; exact h91 i (by omega))
      have fr : MFr I J2 := ⟨fun a h1 h2 => o2 a h2 (by unfold modA at h1; omega), fun q h1 _ => u76 q h1⟩
      refine ⟨I1, fun r M' hc => wp r M' ⟨vin k (j := 1) (by decide), fun e => ?_, fun _ => ⟨fun _ => ?_, fun e => ?_⟩⟩, f2, f3, f4, fr.trans f5⟩
      · rw [e1] at e
        exact absurd e (nI_ge (by omega) (by omega))
      · rw [h34, nI_clamp (by omega)]
        refine ⟨by rw [hS.n 91 3 (by decide)]; exact vp_in_nI hl (by decide), fun I9 h9 I10 h10 y hy => ?_⟩
        rw [← q1] at h9
        rw [h9, e76, h34, nI_1, ← e76, ← q2] at h10
        rw [h10, hy, nI_1]
        exact f1 r M' hc
      · rw [eb, hbit] at e
        exact absurd e (by decide)
    · have es : setF n (j + 1) = setF n j := by
        show (if n / 2 ^ j % 2 = 1 then _ else _) = _
        rw [if_neg hbit]
      have hb0 : n / 2 ^ j % 2 = 0 := by
        have := Nat.mod_lt (n / 2 ^ j) (show 0 < 2 by decide)
        omega
      obtain ⟨I1, f1, f2, f3, f4, f5⟩ := ih (j + 1) I (by omega) m (by rw [es]; exact h34) (by rw [es]; exact h91)
      refine ⟨I1, fun r M' hc => wp r M' ⟨vin k (j := 1) (by decide), fun e => ?_, fun _ => ⟨fun e => absurd ?_ e, fun _ y hy => ?_⟩⟩, f2, f3, f4, f5⟩
      · rw [e1] at e
        exact absurd e (nI_ge (by omega) (by omega))
      · rw [eb, hb0]; rfl
      · rw [hy, nI_1]; exact f1 r M' hc
theorem in1_iff {x : Int32} {n : Nat} (h0 : 0 < n) (hn : n < 2 ^ 31) : (¬ x < 1 ∧ ¬ (nI n - 1) < x) ↔ ∃ a, x = nI a ∧ 0 < a ∧ a < n := by
  have e : nI n - 1 = nI (n - 1) := pk_sub (b := 1) (by omega)
  rw [e]
  constructor
  · rintro ⟨h1, h2⟩
    have h3 : ¬ x < 0 := fun z => h1 (Int32.lt_trans z (by decide))
    obtain ⟨j, hj, rfl⟩ := nI_of h3
    have h4 : ¬ j < 1 := fun z => h1 ((nI_ltI (b := 1) hj (by decide)).mpr z)
    have h5 : ¬ n - 1 < j := fun z => h2 ((nI_ltI (by omega) hj).mpr z)
    exact ⟨j, rfl, by omega, by omega⟩
  · rintro ⟨a, rfl, h1, h2⟩
    refine ⟨fun z => ?_, fun z => ?_⟩
    · have := (nI_ltI (b := 1) (by omega) (by decide)).mp z
      omega
    · have := (nI_ltI (by omega) (by omega)).mp z
      omega
theorem mo_fewest (m : MB Z I w h S tx) {n p q : Nat} {x4 : Int32} (h0 : 0 < n) (hn : n < 2 ^ tx.length) (hb : bnF n ≤ 3) (hp : isP w h S p) (hc : q < w * h) (h4 : -1 ≤ x4) : ∃ I1 L1, Cl g 8 mu_X12_fewest [rf g 76, .int (nI n), .int (nI p), .int (nI q), .int x4] (Z, I, L) (some (.int (fewF w h S tx n p q x4))) (Z, I1, L1) ∧ MB Z I1 w h S tx ∧ MFr I I1 := by
  obtain ⟨k, hW, -⟩ := id m
  have hS := k.1
  have hm := k.2.1.mul
  have hx4 := k.2.2.2.2.2.1
  have e1 : I 77 (1 : Int32).toNatClampNeg = nI tx.length := k.2.2.2.2.1.2.2.1
  have hpw : 2 ^ tx.length ≤ 2 ^ 4 := Nat.pow_le_pow_right (by decide) hx4
  have hn16 : n < 16 := by omega
  have hlen1 := set_len tx.length (by omega) n hn h0 hb
  have hlen3 := set_bc n hn16 hb tx.length (by omega)
  obtain ⟨J0, hJ0⟩ : ∃ J, J = rw1 I 76 (upd (I 76) 34 0) := ⟨_, rfl⟩
  have u76 : ∀ q, q ≠ 34 → J0 76 q = I 76 q := fun q hq => by rw [hJ0, rw1_s, upd_n _ _ hq]
  have o0 : ∀ a, a ≠ 76 → J0 a = I a := fun a h1 => by rw [hJ0, rw1_n _ _ h1]
  have m0 : MB Z J0 w h S tx := m.w (u76 2 (by decide)) (u76 3 (by decide)) (o0 77 (by decide)) (o0 79 (by decide)) (o0 82 (by decide))
  have fr0 : MFr I J0 := ⟨fun a _ h2 => o0 a h2, fun q h1 _ => u76 q h1⟩
  obtain ⟨J1, f1, f2, f3, f4, f5⟩ := fc_92 (g := g) (Z := Z) (L := L) (tx := tx) (w := w) (h := h) (S := S) (x2 := nI p) (x3 := nI q) (x4 := x4) hn16 hb tx.length 0 J0 (Nat.zero_add _) m0 (by rw [hJ0, rw1_s, upd_s]; rfl) (fun i hi => absurd hi (by show ¬ i < 0; omega))
  obtain ⟨I1, L1, d1, d2, d3, d4⟩ := ms_search (g := g) (L := L) (T := setF n tx.length) (goal := some q) f2 f3 f4 (by omega) hlen1 (fun t ht => set_lt ht) (fun c hc' => by cases hc'; omega) hp
  have tc := ms_tapsTo (g := g) (L := L1) hS d3 h4
  have ii := sp_isIn (g := g) (Z := Z) (I := I) (L := L) (nI n) 1 (nI (2 ^ tx.length) - 1)
  rw [if_pos ((in1_iff (by omega) (by omega)).mpr ⟨n, rfl, h0, hn⟩)] at ii
  obtain ⟨bb, cb, hbb⟩ := ms_isPose (g := g) (L := L) k hW (nI p)
  have hbt : bb = true := hbb.mpr ⟨p, rfl, hp⟩
  have ic := ms_isCell (g := g) (L := L) k (nI q)
  rw [if_pos (nI_in0 hc (by omega))] at ic
  refine ⟨I1, L1, cp_X12_fewest (hS.k 76 12 (by decide) (by decide)) (hS.r 76 0 77 (by decide)) (hS.k 77 13 (by decide) (by decide)) ⟨vin k (j := 1) (by decide), _, by rw [e1, shl1 (by omega)]; exact ii, fun e => absurd e (by decide), fun _ => ⟨_, cb, fun e => absurd e (b2i_1 hbt), fun _ => ⟨_, ic, fun e => absurd e (by decide), fun _ => ⟨fun _ => ?_, fun e => absurd h4 e⟩⟩⟩⟩, d2, fr0.trans (f5.trans d4)⟩
  refine fc_48 (g := g) (L := L) k hn16 tx.length 0 (Nat.zero_add _) (wp_X12_fewest_48 (hS.k 76 12 (by decide) (by decide)) (hS.r 76 0 77 (by decide)) (hS.k 77 13 (by decide) (by decide)) ⟨vin k (j := 1) (by decide), fun _ => ⟨fun _ I2 h2 => ?_, fun e => absurd ((nI_leI (b := 3) (by omega) (by decide)).mpr (by omega)) e⟩, fun e => ?_⟩)
  · rw [← hJ0] at h2
    rw [h2]
    refine f1 _ _ (wp_X12_fewest_92 (hS.k 76 12 (by decide) (by decide)) (hS.r 76 0 77 (by decide)) (hS.k 77 13 (by decide) (by decide)) (hS.r 76 33 91 (by decide)) (hS.k 91 13 (by decide) (by decide)) ⟨vin k (j := 1) (by decide), fun _ => ⟨_, I1, L1, d1, _, tc, rfl, rfl⟩, fun e => ?_⟩)
    rw [show J1 77 (1 : Int32).toNatClampNeg = nI tx.length from f2.1.2.2.2.2.1.2.2.1] at e
    exact absurd (nI_le (Nat.le_refl _) (by omega)) e
  · rw [e1] at e
    exact absurd (nI_le (Nat.le_refl _) (by omega)) e
theorem mo_fewestN (m : MB Z I w h S tx) {x1 x2 x3 x4 : Int32} (hv : ¬ vFew w h S tx x1 x2 x3 x4) : Cl g 8 mu_X12_fewest [rf g 76, .int x1, .int x2, .int x3, .int x4] (Z, I, L) (some (.int (-1))) (Z, I, L) := by
  obtain ⟨k, hW, -⟩ := id m
  have hS := k.1
  have hm := k.2.1.mul
  have hx4 := k.2.2.2.2.2.1
  have e1 : I 77 (1 : Int32).toNatClampNeg = nI tx.length := k.2.2.2.2.1.2.2.1
  have hpw : 2 ^ tx.length ≤ 2 ^ 4 := Nat.pow_le_pow_right (by decide) hx4
  have hp0 : 0 < 2 ^ tx.length := Nat.pow_pos (by decide)
  obtain ⟨bb, cb, hbb⟩ := ms_isPose (g := g) (L := L) k hW x2
  refine cp_X12_fewest (hS.k 76 12 (by decide) (by decide)) (hS.r 76 0 77 (by decide)) (hS.k 77 13 (by decide) (by decide)) ⟨vin k (j := 1) (by decide), _, by rw [e1, shl1 (by omega)]; exact sp_isIn _ _ _, fun _ => ⟨rfl, rfl⟩, fun q1 => ⟨_, cb, fun _ => ⟨rfl, rfl⟩, fun q2 => ⟨_, ms_isCell k x3, fun _ => ⟨rfl, rfl⟩, fun q3 => ⟨fun q4 => ?_, fun _ => ⟨rfl, rfl⟩⟩⟩⟩⟩
  have h1 := Classical.byContradiction (fun z => q1 (if_neg z))
  obtain ⟨n, rfl, h0, hn⟩ := (in1_iff hp0 (by omega)).mp h1
  have hbt : bb = true := Classical.byContradiction (fun z => q2 (b2i_f z))
  have h5 : ¬ x3 < 0 ∧ x3 < nI (w * h) := Classical.byContradiction (fun z => q3 (if_neg z))
  have hb : ¬ bnF n ≤ 3 := fun hb => hv ⟨⟨n, rfl, h0, hn, hb⟩, hbb.mp hbt, (in_text (by omega)).mp h5, q4⟩
  have hlen := set_bcE tx.length (by omega) n (by omega) hn
  refine fc_48 (g := g) (L := L) k (by omega) tx.length 0 (Nat.zero_add _) (wp_X12_fewest_48 (hS.k 76 12 (by decide) (by decide)) (hS.r 76 0 77 (by decide)) (hS.k 77 13 (by decide) (by decide)) ⟨vin k (j := 1) (by decide), fun _ => ⟨fun e => ?_, fun _ => ⟨rfl, rfl⟩⟩, fun e => ?_⟩)
  · rw [hlen] at e
    exact absurd ((nI_leI (b := 3) (by unfold bnF; omega) (by decide)).mp e) hb
  · rw [e1] at e
    exact absurd (nI_le (Nat.le_refl _) (by omega)) e
theorem mo_tells (m : MB Z I w h S tx) {o1 o2 p : Nat} {x4 : Int32} (h1 : o1 < tx.length) (h2 : o2 < tx.length) (hp : isP w h S p) (h4 : -1 ≤ x4) : ∃ I1 L1, Cl g 8 mu_X12_tells [rf g 76, .int (nI o1), .int (nI o2), .int (nI p), .int x4] (Z, I, L) (some (.int (telF w h S tx o1 o2 p x4))) (Z, I1, L1) ∧ MB Z I1 w h S tx ∧ MFr I I1 := by
  obtain ⟨k, hW, -⟩ := id m
  have hS := k.1
  have hx4 := k.2.2.2.2.2.1
  obtain ⟨J1, q1⟩ : ∃ J, J = rw1 I 91 (upd (I 91) 0 (nI o1)) := ⟨_, rfl⟩
  obtain ⟨J2, q2⟩ : ∃ J, J = rw1 J1 91 (upd (J1 91) 1 (nI o2)) := ⟨_, rfl⟩
  obtain ⟨J3, q3⟩ : ∃ J, J = rw1 J2 76 (upd (J2 76) 34 2) := ⟨_, rfl⟩
  have e76 : J2 76 = I 76 := by rw [q2, rw1_n _ _ (by decide), q1, rw1_n _ _ (by decide)]
  have u76 : ∀ q, q ≠ 34 → J3 76 q = I 76 q := fun q hq => by rw [q3, rw1_s, upd_n _ _ hq, e76]
  have o3 : ∀ a, a ≠ 76 → a ≠ 91 → J3 a = I a := fun a h1 h2 => by rw [q3, rw1_n _ _ h1, q2, rw1_n _ _ h2, q1, rw1_n _ _ h2]
  have m3 : MB Z J3 w h S tx := m.w (u76 2 (by decide)) (u76 3 (by decide)) (o3 77 (by decide) (by decide)) (o3 79 (by decide) (by decide)) (o3 82 (by decide) (by decide))
  have fr : MFr I J3 := ⟨fun a h1 h2 => o3 a h2 (by unfold modA at h1; omega), fun q h1 _ => u76 q h1⟩
  have e91 : J3 91 = upd (upd (I 91) 0 (nI o1)) 1 (nI o2) := by rw [q3, rw1_n _ _ (by decide), q2, rw1_s, q1, rw1_s]
  obtain ⟨I1, L1, d1, d2, d3, d4⟩ := ms_search (g := g) (L := L) (T := [o1, o2]) (goal := none) m3 (by rw [q3, rw1_s, upd_s]; rfl) (fun i hi => by
    have hi : i < 2 := hi
    have cs : i = 0 ∨ i = 1 := by omega
    rw [e91]
    rcases cs with rfl | rfl
    · rw [upd_n _ _ (by decide), upd_s]; rfl
    · rw [upd_s]; rfl) (by show 2 ≤ 3; decide) (by show 1 ≤ 2; decide) (fun t ht => by
    rcases List.mem_cons.mp ht with e | ht
    · rw [e]; exact h1
    · rw [List.mem_singleton.mp ht]; exact h2) (fun c hc' => by cases hc') hp
  have tc := ms_tapsTo (g := g) (L := L1) hS d3 h4
  have t1 := ms_isText (g := g) (L := L) k (nI o1)
  rw [if_pos (nI_in0 h1 (by omega))] at t1
  have t2 := ms_isText (g := g) (L := L) k (nI o2)
  rw [if_pos (nI_in0 h2 (by omega))] at t2
  obtain ⟨bb, cb, hbb⟩ := ms_isPose (g := g) (L := L) k hW (nI p)
  have hbt : bb = true := hbb.mpr ⟨p, rfl, hp⟩
  refine ⟨I1, L1, cp_X12_tells (hS.k 76 12 (by decide) (by decide)) (hS.r 76 33 91 (by decide)) (hS.k 91 13 (by decide) (by decide)) ⟨_, t1, fun e => absurd e (by decide), fun _ => ⟨_, t2, fun e => absurd e (by decide), fun _ => ⟨_, cb, fun e => absurd e (b2i_1 hbt), fun _ => ⟨fun _ => ⟨by rw [hS.n 91 3 (by decide)]; exact vp_in_nI (n := 0) (by decide) (by decide), fun I8 h8 => ⟨by rw [hS.n 91 3 (by decide)]; exact vp_in_nI (n := 1) (by decide) (by decide), fun I10 h10 I11 h11 => ?_⟩⟩, fun e => absurd h4 e⟩⟩⟩⟩, d2, fr.trans d4⟩
  have h8 : I8 = J1 := h8.trans q1.symm
  rw [h8] at h10
  have h10 : I10 = J2 := h10.trans q2.symm
  rw [h10, ← q3] at h11
  rw [h11]
  exact ⟨_, I1, L1, d1, _, tc, rfl, rfl⟩
theorem mo_tellsN (m : MB Z I w h S tx) {x1 x2 x3 x4 : Int32} (hv : ¬ vTel w h S tx x1 x2 x3 x4) : Cl g 8 mu_X12_tells [rf g 76, .int x1, .int x2, .int x3, .int x4] (Z, I, L) (some (.int (-1))) (Z, I, L) := by
  obtain ⟨k, hW, -⟩ := id m
  have hS := k.1
  have hx4 := k.2.2.2.2.2.1
  obtain ⟨bb, cb, hbb⟩ := ms_isPose (g := g) (L := L) k hW x3
  refine cp_X12_tells (hS.k 76 12 (by decide) (by decide)) (hS.r 76 33 91 (by decide)) (hS.k 91 13 (by decide) (by decide)) ⟨_, ms_isText k x1, fun _ => ⟨rfl, rfl⟩, fun q1 => ⟨_, ms_isText k x2, fun _ => ⟨rfl, rfl⟩, fun q2 => ⟨_, cb, fun _ => ⟨rfl, rfl⟩, fun q3 => ⟨fun q4 => ?_, fun _ => ⟨rfl, rfl⟩⟩⟩⟩⟩
  have h1 : ¬ x1 < 0 ∧ x1 < nI tx.length := Classical.byContradiction (fun z => q1 (if_neg z))
  have h2 : ¬ x2 < 0 ∧ x2 < nI tx.length := Classical.byContradiction (fun z => q2 (if_neg z))
  have hbt : bb = true := Classical.byContradiction (fun z => q3 (b2i_f z))
  exact absurd ⟨(in_text (by omega)).mp h1, (in_text (by omega)).mp h2, hbb.mp hbt, q4⟩ hv
end MFEW2
