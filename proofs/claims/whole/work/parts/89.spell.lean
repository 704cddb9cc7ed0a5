/-! isSpelled(), Arrays.copyOf() -/
section SPELL
variable {g : GE} {Z : Zs} {I : Nat → Nat → Int32} {L : Nat → Nat → Int64} {tp : List Nat}
theorem is_15 (hT : IL Z I 1 2 300 tp) (hb : ∀ (k : Nat) v, tp[k]? = some v → v < 256) {i p e : Nat} (hi : i < 20) (hp : p < 2 ^ 30) : ∀ (d k : Nat), k + d = lenL.getD i 0 → (∀ j, j < k → tp.getD (p + j) 0 = (spL.getD i []).getD j 0) →
    Fr g 7 mu_X9_isSpelled 15 [(4, .int (nI k)), (0, rf g 1), (1, .int (nI p)), (2, .int (nI e)), (3, .ref (gK g i))] [] (Z, I, L) (some (.int (b2i (decide (∀ j, j < lenL.getD i 0 → tp.getD (p + j) 0 = (spL.getD i []).getD j 0))))) (Z, I, L) := by
  have h8 := lenL_lt i hi
  have gb : ∀ k, tp.getD k 0 < 2 ^ 31 := fun k => by
    have := getD_le (m := 255) (fun j v hj => by have := hb j v hj; omega) k
    omega
  intro d
  induction d with
  | zero =>
    intro k hk hj
    have hk : k = lenL.getD i 0 := hk
    refine fr_iload (i := 4) (q := 0) rfl dX9_isSpelled_15 rfl ?_
    refine fr_aload_n (i := 3) (q := 4) rfl dX9_isSpelled_17 rfl ?_
    refine fr_callK (ν := mu_J0_length_8abf5) (As := []) (st := [.int (nI k)]) (v := some (.int (nI (lenL.getD i 0)))) (M1 := (Z, I, L)) hi dX9_isSpelled_18 rfl ml_X9_78 mo_J0_length_8abf5 mi_J0_length_8abf5 rfl (Nat.le_of_ble_eq_true rfl) rfl rfl (Nat.le_of_ble_eq_true rfl) (ks_length hi) ?_
    refine fr_icmp_ge (tgt := 49) dX9_isSpelled_21 (by decide) rfl (fun _ => ?_) (fun hc => absurd (nI_le (by omega) (by omega)) hc)
    refine fr_iconst (v := 1) (by decide) dX9_isSpelled_49 rfl ?_
    refine fr_zret (Or.inr rfl) rfl dX9_isSpelled_50 ?_ rfl
    rw [decide_eq_true (fun j hj' => hj j (by omega))]; rfl
  | succ d ih =>
    intro k hk hj
    have hkl : k < lenL.getD i 0 := by omega
    obtain ⟨b1, b2, b3⟩ := spL_byt i hi k (by omega) hkl
    refine fr_iload (i := 4) (q := 0) rfl dX9_isSpelled_15 rfl ?_
    refine fr_aload_n (i := 3) (q := 4) rfl dX9_isSpelled_17 rfl ?_
    refine fr_callK (ν := mu_J0_length_8abf5) (As := []) (st := [.int (nI k)]) (v := some (.int (nI (lenL.getD i 0)))) (M1 := (Z, I, L)) hi dX9_isSpelled_18 rfl ml_X9_78 mo_J0_length_8abf5 mi_J0_length_8abf5 rfl (Nat.le_of_ble_eq_true rfl) rfl rfl (Nat.le_of_ble_eq_true rfl) (ks_length hi) ?_
    refine fr_icmp_ge (tgt := 49) dX9_isSpelled_21 (by decide) rfl (fun hc => absurd hc (nI_ge hkl (by omega))) (fun _ => ?_)
    refine fr_aload_n (i := 0) (q := 1) rfl dX9_isSpelled_24 rfl ?_
    refine fr_iload_n (i := 1) (q := 2) rfl dX9_isSpelled_25 rfl ?_
    refine fr_iload (i := 4) (q := 0) rfl dX9_isSpelled_26 rfl ?_
    refine fr_iadd dX9_isSpelled_28 rfl ?_
    rw [nI_add]
    have ca := sp_at (g := g) (L := L) hT (nI (p + k))
    rw [atL_n _ (by omega)] at ca
    refine fr_callV2 (ν := mu_X2_at) (ci := 2) (st2 := [.int (nI (tp.getD (p + k) 0))]) (As := [.int (nI (p + k))]) (st := []) (v := (some (.int (nI (tp.getD (p + k) 0))))) (M1 := (Z, I, L)) dX9_isSpelled_29 rfl ml_X9_30 mo_X2_at mi_X2_at rfl rfl hT.1 (Nat.le_of_ble_eq_true rfl) rfl rfl (Nat.le_of_ble_eq_true rfl) ca rfl ?_
    refine fr_aload_n (i := 3) (q := 4) rfl dX9_isSpelled_32 rfl ?_
    refine fr_iload (i := 4) (q := 0) rfl dX9_isSpelled_33 rfl ?_
    refine fr_callK (ν := mu_J0_charAt_5068e) (As := [.int (nI k)]) (st := [.int (nI (tp.getD (p + k) 0))]) (v := some (.int (nI ((spL.getD i []).getD k 0)))) (M1 := (Z, I, L)) hi dX9_isSpelled_35 rfl ml_X9_83 mo_J0_charAt_5068e mi_J0_charAt_5068e rfl (Nat.le_of_ble_eq_true rfl) rfl rfl (Nat.le_of_ble_eq_true rfl) (ks_charAt hi hkl) ?_
    refine fr_icmp_eq (tgt := 43) dX9_isSpelled_38 (by decide) rfl (fun hc => ?_) (fun hc => ?_)
    · have hc := (nI_eq (gb _) (by omega)).mp hc
      refine fr_iinc (i := 4) (q := 0) (v := nI (k + 1)) rfl (by rw [← nI_1]; rfl) dX9_isSpelled_43 rfl (by decide) rfl ?_
      refine fr_goto (n := 15) dX9_isSpelled_46 (by decide) ?_
      exact ih (k + 1) (by omega) (fun j hj' => by
        by_cases he : j = k
        · rw [he]; exact hc
        · exact hj j (by omega))
    · refine fr_iconst (v := 0) (by decide) dX9_isSpelled_41 rfl ?_
      refine fr_zret (Or.inl rfl) rfl dX9_isSpelled_42 ?_ rfl
      rw [decide_eq_false (fun z => hc (by rw [z k hkl]))]; rfl
theorem sp_isSpelled (hT : IL Z I 1 2 300 tp) (hb : ∀ (k : Nat) v, tp[k]? = some v → v < 256) {i p e : Nat} (hi : i < 20) (hpe : p ≤ e) (he : e ≤ tp.length) : Cl g 7 mu_X9_isSpelled [rf g 1, .int (nI p), .int (nI e), .ref (gK g i)] (Z, I, L) (some (.int (b2i (decide ((tp.drop p).take (e - p) = spL.getD i []))))) (Z, I, L) := by
  have h8 := lenL_lt i hi
  have hl := hT.2.2.2.2.2.1
  have hsl := spL_len i hi
  refine cl_of (lv := [(0, rf g 1), (1, .int (nI p)), (2, .int (nI e)), (3, .ref (gK g i))]) (by decide) (Nat.le_of_ble_eq_true rfl) rfl ?_
  refine fr_iload_n (i := 2) (q := 2) rfl dX9_isSpelled_0 rfl ?_
  refine fr_iload_n (i := 1) (q := 1) rfl dX9_isSpelled_1 rfl ?_
  refine fr_isub dX9_isSpelled_2 rfl ?_
  rw [pk_sub hpe]
  refine fr_aload_n (i := 3) (q := 3) rfl dX9_isSpelled_3 rfl ?_
  refine fr_callK (ν := mu_J0_length_8abf5) (As := []) (st := [.int (nI (e - p))]) (v := some (.int (nI (lenL.getD i 0)))) (M1 := (Z, I, L)) hi dX9_isSpelled_4 rfl ml_X9_78 mo_J0_length_8abf5 mi_J0_length_8abf5 rfl (Nat.le_of_ble_eq_true rfl) rfl rfl (Nat.le_of_ble_eq_true rfl) (ks_length hi) ?_
  have tl : ((tp.drop p).take (e - p)).length = e - p := by rw [List.length_take, List.length_drop]; omega
  refine fr_icmp_eq (tgt := 12) dX9_isSpelled_7 (by decide) rfl (fun hc => ?_) (fun hc => ?_)
  · have hc := (nI_eq (by omega) (by omega)).mp hc
    refine fr_iconst (v := 0) (by decide) dX9_isSpelled_12 rfl ?_
    refine fr_istore (i := 4) dX9_isSpelled_13 rfl (by decide) rfl ?_
    have run := is_15 (g := g) (L := L) (e := e) hT hb hi (show p < 2 ^ 30 by omega) (lenL.getD i 0) 0 (Nat.zero_add _) (fun j hj => absurd hj (by omega))
    have er : decide ((tp.drop p).take (e - p) = spL.getD i []) = decide (∀ j, j < lenL.getD i 0 → tp.getD (p + j) 0 = (spL.getD i []).getD j 0) := by
      refine decide_eq_decide.mpr ⟨fun z j hj => ?_, fun z => ?_⟩
      · rw [← z, List.getD_eq_getElem?_getD, List.getD_eq_getElem?_getD, List.getElem?_take, if_pos (by omega), List.getElem?_drop]
      · apply List.ext_getElem?
        intro j
        by_cases hj : j < lenL.getD i 0
        · have zj := z j hj
          have hjl : p + j < tp.length := by omega
          rw [List.getElem?_take, if_pos (by omega), List.getElem?_drop, List.getElem?_eq_getElem hjl, List.getElem?_eq_getElem (by omega)]
          rw [List.getD_eq_getElem?_getD, List.getD_eq_getElem?_getD, List.getElem?_eq_getElem hjl, List.getElem?_eq_getElem (by omega)] at zj
          exact congrArg some zj
        · rw [List.getElem?_eq_none (by omega), List.getElem?_eq_none (by omega)]
    rw [er]
    exact run
  · refine fr_iconst (v := 0) (by decide) dX9_isSpelled_10 rfl ?_
    refine fr_zret (Or.inl rfl) rfl dX9_isSpelled_11 ?_ rfl
    rw [decide_eq_false (fun z => hc (by rw [← tl, z, hsl]))]; rfl
/-- a copy of the first n of a row -/
theorem sp_copyOf {M : Mem} {a n : Nat} (ha : KM M.1 a 13) (hn : n < mN M a) (hb : mN M a ≤ 60000) : Cl g 2 mu_J7_copyOf_59c91 [rf g a, .int (nI n)] M (some (rf g (mx M))) (sI (nw M 13 n) (mx M) (va_cpy (mI (nw M 13 n) a) (mI (nw M 13 n) (mx M)) 0 0 n)) := by
  have hax : a ≠ mx M := Nat.ne_of_lt ha.1
  have na : mN (nw M 13 n) a = mN M a := rw1_n _ _ hax
  have nx : mN (nw M 13 n) (mx M) = n := rw1_s _ _ _
  refine cl_of (lv := [(0, rf g a), (1, .int (nI n))]) (by decide) (Nat.le_of_ble_eq_true rfl) rfl ?_
  refine fr_iload_n (i := 1) (q := 1) rfl dJ7_copyOf_59c91_0 rfl ?_
  refine fr_aload_n (i := 0) (q := 0) rfl dJ7_copyOf_59c91_1 rfl ?_
  refine fr_alen dJ7_copyOf_59c91_2 rfl ha (Or.inl rfl) ?_
  refine fr_icmp_ne (tgt := 14) dJ7_copyOf_59c91_3 (by decide) rfl (fun _ => ?_) (fun hc => absurd ((nI_eq (by omega) (by omega)).mp hc) (by omega))
  refine fr_iload_n (i := 1) (q := 1) rfl dJ7_copyOf_59c91_14 rfl ?_
  refine fr_newI dJ7_copyOf_59c91_15 rfl ac_int (nI_pos (by omega)) (by rw [nI_clamp (by omega)]; omega) ?_
  rw [nI_clamp (by omega)]
  refine fr_astore_n (i := 2) dJ7_copyOf_59c91_17 rfl (by decide) rfl ?_
  refine fr_aload_n (i := 0) (q := 1) rfl dJ7_copyOf_59c91_18 rfl ?_
  refine fr_iconst (v := 0) (by decide) dJ7_copyOf_59c91_19 rfl ?_
  refine fr_aload_n (i := 2) (q := 0) rfl dJ7_copyOf_59c91_20 rfl ?_
  refine fr_iconst (v := 0) (by decide) dJ7_copyOf_59c91_21 rfl ?_
  refine fr_aload_n (i := 0) (q := 1) rfl dJ7_copyOf_59c91_22 rfl ?_
  refine fr_alen dJ7_copyOf_59c91_23 rfl (ha.ext (Ext.nw M 13 n)) (Or.inl rfl) ?_
  refine fr_iload_n (i := 1) (q := 2) rfl dJ7_copyOf_59c91_24 rfl ?_
  refine fr_mmin dJ7_copyOf_59c91_25 rfl ml_J7_304 w_mmin (Nat.le_of_ble_eq_true rfl) (Nat.le_of_ble_eq_true rfl) ?_
  rw [na, if_pos (nI_lt hn (by omega))]
  refine fr_copyI dJ7_copyOf_59c91_28 rfl ml_J7_150 w_copy (Nat.le_of_ble_eq_true rfl) (Nat.le_of_ble_eq_true rfl) (ha.ext (Ext.nw M 13 n)) ⟨Nat.lt_succ_self _, rw1_s _ _ _⟩ (by decide) (by decide) (nI_pos (by omega)) ?_ ?_ ?_
  · rw [na, nI_clamp (by omega), show (0 : Int32).toNatClampNeg = 0 by decide]; omega
  · rw [nx, nI_clamp (by omega), show (0 : Int32).toNatClampNeg = 0 by decide]; omega
  · rw [nI_clamp (by omega), show (0 : Int32).toNatClampNeg = 0 by decide]
    refine fr_aload_n (i := 2) (q := 0) rfl dJ7_copyOf_59c91_31 rfl ?_
    exact fr_aretA rfl dJ7_copyOf_59c91_32 rfl rfl
end SPELL
