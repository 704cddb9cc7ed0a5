theorem cp_X2_size {g : GE} {Z : Zs} {I : Nat → Nat → Int32} {L : Nat → Nat → Int64} {r : Option Value} {M' : Mem} {o : Nat} (k_o : KM Z o 2) (h : (r = some (.int (I o 1)) ∧ M' = (Z, I, L))) : Cl g 1 mu_X2_size [rf g o] (Z, I, L) r M' := by
  refine cl_of (lv := [(0, rf g o)]) (by decide) (Nat.le_of_ble_eq_true rfl) rfl ?_
  refine fr_aload_n (i := 0) (q := 0) rfl dX2_size_0 rfl ?_
  refine fr_getI dX2_size_1 rfl fl_X2_19 k_o ?_
  exact fr_iret rfl dX2_size_4 h.1 h.2
theorem cp_X2_at {g : GE} {Z : Zs} {I : Nat → Nat → Int32} {L : Nat → Nat → Int64} {r : Option Value} {M' : Mem} {o : Nat} {x1 : Int32} {o_items : Nat} (k_o : KM Z o 2) (r_o_items : Z.2.1 o 0 = some o_items) (k_o_items : KM Z o_items 13) (h : ((x1 < 0 → (r = some (.int 0) ∧ M' = (Z, I, L))) ∧ (¬ x1 < 0 → (((I o 1) ≤ x1 → (r = some (.int 0) ∧ M' = (Z, I, L))) ∧ (¬ (I o 1) ≤ x1 → (vp_in x1 (Z.2.2.1 o_items) ∧ (r = some (.int (I o_items x1.toNatClampNeg)) ∧ M' = (Z, I, L)))))))) : Cl g 1 mu_X2_at [rf g o, .int x1] (Z, I, L) r M' := by
  refine cl_of (lv := [(0, rf g o), (1, .int x1)]) (by decide) (Nat.le_of_ble_eq_true rfl) rfl ?_
  refine fr_iload_n (i := 1) (q := 1) rfl dX2_at_0 rfl ?_
  refine fr_if_lt (tgt := 21) dX2_at_1 (by decide) rfl (fun hc => ?_) (fun hc => ?_)
  · have h := h.1 hc
    refine fr_iconst (v := 0) (by decide) dX2_at_21 rfl ?_
    exact fr_iret rfl dX2_at_22 h.1 h.2
  · have h := h.2 hc
    refine fr_iload_n (i := 1) (q := 1) rfl dX2_at_4 rfl ?_
    refine fr_aload_n (i := 0) (q := 0) rfl dX2_at_5 rfl ?_
    refine fr_getI dX2_at_6 rfl fl_X2_19 k_o ?_
    refine fr_icmp_ge (tgt := 21) dX2_at_9 (by decide) rfl (fun hc => ?_) (fun hc => ?_)
    · have h := h.1 hc
      refine fr_iconst (v := 0) (by decide) dX2_at_21 rfl ?_
      exact fr_iret rfl dX2_at_22 h.1 h.2
    · have h := h.2 hc
      refine fr_aload_n (i := 0) (q := 0) rfl dX2_at_12 rfl ?_
      refine fr_getR dX2_at_13 rfl fl_X2_13 k_o r_o_items ?_
      refine fr_iload_n (i := 1) (q := 1) rfl dX2_at_16 rfl ?_
      obtain ⟨hz1, h⟩ := h
      refine fr_iald dX2_at_17 rfl k_o_items hz1 ?_
      refine fr_goto (n := 22) dX2_at_18 (by decide) ?_
      exact fr_iret rfl dX2_at_22 h.1 h.2
theorem cp_X2_put {g : GE} {Z : Zs} {I : Nat → Nat → Int32} {L : Nat → Nat → Int64} {r : Option Value} {M' : Mem} {o : Nat} {x1 : Int32} {x2 : Int32} {o_items : Nat} (k_o : KM Z o 2) (r_o_items : Z.2.1 o 0 = some o_items) (k_o_items : KM Z o_items 13) (h : ((x1 < 0 → (r = none ∧ M' = (Z, I, L))) ∧ (¬ x1 < 0 → (((I o 1) ≤ x1 → (r = none ∧ M' = (Z, I, L))) ∧ (¬ (I o 1) ≤ x1 → (vp_in x1 (Z.2.2.1 o_items) ∧ (∀ I2 : Nat → Nat → Int32, I2 = rw1 I o_items (upd (I o_items) x1.toNatClampNeg x2) → (r = none ∧ M' = (Z, I2, L))))))))) : Cl g 1 mu_X2_put [rf g o, .int x1, .int x2] (Z, I, L) r M' := by
  refine cl_of (lv := [(0, rf g o), (1, .int x1), (2, .int x2)]) (by decide) (Nat.le_of_ble_eq_true rfl) rfl ?_
  refine fr_iload_n (i := 1) (q := 1) rfl dX2_put_0 rfl ?_
  refine fr_if_lt (tgt := 19) dX2_put_1 (by decide) rfl (fun hc => ?_) (fun hc => ?_)
  · have h := h.1 hc
    exact fr_vret rfl dX2_put_19 h.1 h.2
  · have h := h.2 hc
    refine fr_iload_n (i := 1) (q := 1) rfl dX2_put_4 rfl ?_
    refine fr_aload_n (i := 0) (q := 0) rfl dX2_put_5 rfl ?_
    refine fr_getI dX2_put_6 rfl fl_X2_19 k_o ?_
    refine fr_icmp_ge (tgt := 19) dX2_put_9 (by decide) rfl (fun hc => ?_) (fun hc => ?_)
    · have h := h.1 hc
      exact fr_vret rfl dX2_put_19 h.1 h.2
    · have h := h.2 hc
      refine fr_aload_n (i := 0) (q := 0) rfl dX2_put_12 rfl ?_
      refine fr_getR dX2_put_13 rfl fl_X2_13 k_o r_o_items ?_
      refine fr_iload_n (i := 1) (q := 1) rfl dX2_put_16 rfl ?_
      refine fr_iload_n (i := 2) (q := 2) rfl dX2_put_17 rfl ?_
      obtain ⟨hz1, h⟩ := h
      refine fr_iast dX2_put_18 rfl k_o_items hz1 ?_
      refine fr_memI (fun I2 hI2 => ?_)
      have h := h I2 hI2
      exact fr_vret rfl dX2_put_19 h.1 h.2
theorem cp_X2_add {g : GE} {Z : Zs} {I : Nat → Nat → Int32} {L : Nat → Nat → Int64} {r : Option Value} {M' : Mem} {o : Nat} {x1 : Int32} {o_items : Nat} (k_o : KM Z o 2) (r_o_items : Z.2.1 o 0 = some o_items) (k_o_items : KM Z o_items 13) (h : (((nI (Z.2.2.1 o_items)) ≤ (I o 1) → (r = none ∧ M' = (Z, I, L))) ∧ (¬ (nI (Z.2.2.1 o_items)) ≤ (I o 1) → (vp_in (I o 1) (Z.2.2.1 o_items) ∧ (∀ I2 : Nat → Nat → Int32, I2 = rw1 I o_items (upd (I o_items) (I o 1).toNatClampNeg x1) → (∀ I3 : Nat → Nat → Int32, I3 = rw1 I2 o (upd (I2 o) 1 ((I2 o 1) + 1)) → (r = none ∧ M' = (Z, I3, L)))))))) : Cl g 1 mu_X2_add [rf g o, .int x1] (Z, I, L) r M' := by
  refine cl_of (lv := [(0, rf g o), (1, .int x1)]) (by decide) (Nat.le_of_ble_eq_true rfl) rfl ?_
  refine fr_aload_n (i := 0) (q := 0) rfl dX2_add_0 rfl ?_
  refine fr_getI dX2_add_1 rfl fl_X2_19 k_o ?_
  refine fr_aload_n (i := 0) (q := 0) rfl dX2_add_4 rfl ?_
  refine fr_getR dX2_add_5 rfl fl_X2_13 k_o r_o_items ?_
  refine fr_alen dX2_add_8 rfl k_o_items (Or.inl rfl) ?_
  refine fr_icmp_ge (tgt := 32) dX2_add_9 (by decide) rfl (fun hc => ?_) (fun hc => ?_)
  · have h := h.1 hc
    exact fr_vret rfl dX2_add_32 h.1 h.2
  · have h := h.2 hc
    refine fr_aload_n (i := 0) (q := 0) rfl dX2_add_12 rfl ?_
    refine fr_getR dX2_add_13 rfl fl_X2_13 k_o r_o_items ?_
    refine fr_aload_n (i := 0) (q := 0) rfl dX2_add_16 rfl ?_
    refine fr_getI dX2_add_17 rfl fl_X2_19 k_o ?_
    refine fr_iload_n (i := 1) (q := 1) rfl dX2_add_20 rfl ?_
    obtain ⟨hz1, h⟩ := h
    refine fr_iast dX2_add_21 rfl k_o_items hz1 ?_
    refine fr_memI (fun I2 hI2 => ?_)
    have h := h I2 hI2
    refine fr_aload_n (i := 0) (q := 0) rfl dX2_add_22 rfl ?_
    refine fr_dup rfl dX2_add_23 rfl ?_
    refine fr_getI dX2_add_24 rfl fl_X2_19 k_o ?_
    refine fr_iconst (v := 1) (by decide) dX2_add_27 rfl ?_
    refine fr_iadd dX2_add_28 rfl ?_
    refine fr_putI dX2_add_29 rfl fp_X2_19 k_o ?_
    refine fr_memI (fun I3 hI3 => ?_)
    have h := h I3 hI3
    exact fr_vret rfl dX2_add_32 h.1 h.2
theorem cp_X2_cutTo {g : GE} {Z : Zs} {I : Nat → Nat → Int32} {L : Nat → Nat → Int64} {r : Option Value} {M' : Mem} {o : Nat} {x1 : Int32} (k_o : KM Z o 2) (h : (∀ I1 : Nat → Nat → Int32, I1 = rw1 I o (upd (I o) 1 (if 0 < (if x1 < (I o 1) then x1 else (I o 1)) then (if x1 < (I o 1) then x1 else (I o 1)) else 0)) → (r = none ∧ M' = (Z, I1, L)))) : Cl g 2 mu_X2_cutTo [rf g o, .int x1] (Z, I, L) r M' := by
  refine cl_of (lv := [(0, rf g o), (1, .int x1)]) (by decide) (Nat.le_of_ble_eq_true rfl) rfl ?_
  refine fr_aload_n (i := 0) (q := 0) rfl dX2_cutTo_0 rfl ?_
  refine fr_iconst (v := 0) (by decide) dX2_cutTo_1 rfl ?_
  refine fr_aload_n (i := 0) (q := 0) rfl dX2_cutTo_2 rfl ?_
  refine fr_getI dX2_cutTo_3 rfl fl_X2_19 k_o ?_
  refine fr_iload_n (i := 1) (q := 1) rfl dX2_cutTo_6 rfl ?_
  refine fr_mmin dX2_cutTo_7 rfl ml_X2_23 w_mmin (Nat.le_of_ble_eq_true rfl) (Nat.le_of_ble_eq_true rfl) ?_
  refine fr_mmax dX2_cutTo_10 rfl ml_X2_7 w_mmax (Nat.le_of_ble_eq_true rfl) (Nat.le_of_ble_eq_true rfl) ?_
  refine fr_putI dX2_cutTo_13 rfl fp_X2_19 k_o ?_
  refine fr_memI (fun I1 hI1 => ?_)
  have h := h I1 hI1
  exact fr_vret rfl dX2_cutTo_16 h.1 h.2
theorem cp_X2_dropFirst {g : GE} {Z : Zs} {I : Nat → Nat → Int32} {L : Nat → Nat → Int64} {r : Option Value} {M' : Mem} {o : Nat} {o_items : Nat} (k_o : KM Z o 2) (r_o_items : Z.2.1 o 0 = some o_items) (k_o_items : KM Z o_items 13) (h : (((I o 1) ≤ 0 → (r = none ∧ M' = (Z, I, L))) ∧ (¬ (I o 1) ≤ 0 → (¬ (1 : Int32) < 0 ∧ ¬ (0 : Int32) < 0 ∧ ¬ ((I o 1) - 1) < 0 ∧ (1 : Int32).toNatClampNeg + ((I o 1) - 1).toNatClampNeg ≤ Z.2.2.1 o_items ∧ (0 : Int32).toNatClampNeg + ((I o 1) - 1).toNatClampNeg ≤ Z.2.2.1 o_items ∧ (∀ I2 : Nat → Nat → Int32, I2 = rw1 I o_items (va_cpy (I o_items) (I o_items) (1 : Int32).toNatClampNeg (0 : Int32).toNatClampNeg ((I o 1) - 1).toNatClampNeg) → (∀ I3 : Nat → Nat → Int32, I3 = rw1 I2 o (upd (I2 o) 1 ((I2 o 1) - 1)) → (r = none ∧ M' = (Z, I3, L)))))))) : Cl g 2 mu_X2_dropFirst [rf g o] (Z, I, L) r M' := by
  refine cl_of (lv := [(0, rf g o)]) (by decide) (Nat.le_of_ble_eq_true rfl) rfl ?_
  refine fr_aload_n (i := 0) (q := 0) rfl dX2_dropFirst_0 rfl ?_
  refine fr_getI dX2_dropFirst_1 rfl fl_X2_19 k_o ?_
  refine fr_if_le (tgt := 36) dX2_dropFirst_4 (by decide) rfl (fun hc => ?_) (fun hc => ?_)
  · have h := h.1 hc
    exact fr_vret rfl dX2_dropFirst_36 h.1 h.2
  · have h := h.2 hc
    refine fr_aload_n (i := 0) (q := 0) rfl dX2_dropFirst_7 rfl ?_
    refine fr_getR dX2_dropFirst_8 rfl fl_X2_13 k_o r_o_items ?_
    refine fr_iconst (v := 1) (by decide) dX2_dropFirst_11 rfl ?_
    refine fr_aload_n (i := 0) (q := 0) rfl dX2_dropFirst_12 rfl ?_
    refine fr_getR dX2_dropFirst_13 rfl fl_X2_13 k_o r_o_items ?_
    refine fr_iconst (v := 0) (by decide) dX2_dropFirst_16 rfl ?_
    refine fr_aload_n (i := 0) (q := 0) rfl dX2_dropFirst_17 rfl ?_
    refine fr_getI dX2_dropFirst_18 rfl fl_X2_19 k_o ?_
    refine fr_iconst (v := 1) (by decide) dX2_dropFirst_21 rfl ?_
    refine fr_isub dX2_dropFirst_22 rfl ?_
    obtain ⟨hz11, hz12, hz13, hz14, hz15, h⟩ := h
    refine fr_copyI dX2_dropFirst_23 rfl ml_X2_26 w_copy (Nat.le_of_ble_eq_true rfl) (Nat.le_of_ble_eq_true rfl) k_o_items k_o_items hz11 hz12 hz13 hz14 hz15 ?_
    refine fr_memI (fun I2 hI2 => ?_)
    have h := h I2 hI2
    refine fr_aload_n (i := 0) (q := 0) rfl dX2_dropFirst_26 rfl ?_
    refine fr_dup rfl dX2_dropFirst_27 rfl ?_
    refine fr_getI dX2_dropFirst_28 rfl fl_X2_19 k_o ?_
    refine fr_iconst (v := 1) (by decide) dX2_dropFirst_31 rfl ?_
    refine fr_isub dX2_dropFirst_32 rfl ?_
    refine fr_putI dX2_dropFirst_33 rfl fp_X2_19 k_o ?_
    refine fr_memI (fun I3 hI3 => ?_)
    have h := h I3 hI3
    exact fr_vret rfl dX2_dropFirst_36 h.1 h.2
theorem cp_X2_copyFrom {g : GE} {Z : Zs} {I : Nat → Nat → Int32} {L : Nat → Nat → Int64} {r : Option Value} {M' : Mem} {o : Nat} {a1 : Nat} {o_items : Nat} {a1_items : Nat} (k_o : KM Z o 2) (k_a1 : KM Z a1 2) (r_o_items : Z.2.1 o 0 = some o_items) (k_o_items : KM Z o_items 13) (r_a1_items : Z.2.1 a1 0 = some a1_items) (k_a1_items : KM Z a1_items 13) (h : (∀ I1 : Nat → Nat → Int32, I1 = rw1 I o (upd (I o) 1 (if (nI (Z.2.2.1 o_items)) < (I a1 1) then (nI (Z.2.2.1 o_items)) else (I a1 1))) → (¬ (0 : Int32) < 0 ∧ ¬ (0 : Int32) < 0 ∧ ¬ (I1 o 1) < 0 ∧ (0 : Int32).toNatClampNeg + (I1 o 1).toNatClampNeg ≤ Z.2.2.1 a1_items ∧ (0 : Int32).toNatClampNeg + (I1 o 1).toNatClampNeg ≤ Z.2.2.1 o_items ∧ (∀ I3 : Nat → Nat → Int32, I3 = rw1 I1 o_items (va_cpy (I1 a1_items) (I1 o_items) (0 : Int32).toNatClampNeg (0 : Int32).toNatClampNeg (I1 o 1).toNatClampNeg) → (r = none ∧ M' = (Z, I3, L)))))) : Cl g 2 mu_X2_copyFrom [rf g o, rf g a1] (Z, I, L) r M' := by
  refine cl_of (lv := [(0, rf g o), (1, rf g a1)]) (by decide) (Nat.le_of_ble_eq_true rfl) rfl ?_
  refine fr_aload_n (i := 0) (q := 0) rfl dX2_copyFrom_0 rfl ?_
  refine fr_aload_n (i := 1) (q := 1) rfl dX2_copyFrom_1 rfl ?_
  refine fr_getI dX2_copyFrom_2 rfl fl_X2_19 k_a1 ?_
  refine fr_aload_n (i := 0) (q := 0) rfl dX2_copyFrom_5 rfl ?_
  refine fr_getR dX2_copyFrom_6 rfl fl_X2_13 k_o r_o_items ?_
  refine fr_alen dX2_copyFrom_9 rfl k_o_items (Or.inl rfl) ?_
  refine fr_mmin dX2_copyFrom_10 rfl ml_X2_23 w_mmin (Nat.le_of_ble_eq_true rfl) (Nat.le_of_ble_eq_true rfl) ?_
  refine fr_putI dX2_copyFrom_13 rfl fp_X2_19 k_o ?_
  refine fr_memI (fun I1 hI1 => ?_)
  have h := h I1 hI1
  refine fr_aload_n (i := 1) (q := 1) rfl dX2_copyFrom_16 rfl ?_
  refine fr_getR dX2_copyFrom_17 rfl fl_X2_13 k_a1 r_a1_items ?_
  refine fr_iconst (v := 0) (by decide) dX2_copyFrom_20 rfl ?_
  refine fr_aload_n (i := 0) (q := 0) rfl dX2_copyFrom_21 rfl ?_
  refine fr_getR dX2_copyFrom_22 rfl fl_X2_13 k_o r_o_items ?_
  refine fr_iconst (v := 0) (by decide) dX2_copyFrom_25 rfl ?_
  refine fr_aload_n (i := 0) (q := 0) rfl dX2_copyFrom_26 rfl ?_
  refine fr_getI dX2_copyFrom_27 rfl fl_X2_19 k_o ?_
  obtain ⟨hz21, hz22, hz23, hz24, hz25, h⟩ := h
  refine fr_copyI dX2_copyFrom_30 rfl ml_X2_26 w_copy (Nat.le_of_ble_eq_true rfl) (Nat.le_of_ble_eq_true rfl) k_a1_items k_o_items hz21 hz22 hz23 hz24 hz25 ?_
  refine fr_memI (fun I3 hI3 => ?_)
  have h := h I3 hI3
  exact fr_vret rfl dX2_copyFrom_33 h.1 h.2
theorem cp_X4_name {g : GE} {Z : Zs} {I : Nat → Nat → Int32} {L : Nat → Nat → Int64} {r : Option Value} {M' : Mem} {o : Nat} {x1 : Int32} {x2 : Int32} {o_names : Nat} (k_o : KM Z o 4) (r_o_names : Z.2.1 o 0 = some o_names) (k_o_names : KM Z o_names 13) (h : ((x1 < 0 → (r = none ∧ M' = (Z, I, L))) ∧ (¬ x1 < 0 → ((11 ≤ x1 → (r = none ∧ M' = (Z, I, L))) ∧ (¬ 11 ≤ x1 → (vp_in x1 (Z.2.2.1 o_names) ∧ (∀ I2 : Nat → Nat → Int32, I2 = rw1 I o_names (upd (I o_names) x1.toNatClampNeg x2) → (r = none ∧ M' = (Z, I2, L))))))))) : Cl g 1 mu_X4_name [rf g o, .int x1, .int x2] (Z, I, L) r M' := by
  refine cl_of (lv := [(0, rf g o), (1, .int x1), (2, .int x2)]) (by decide) (Nat.le_of_ble_eq_true rfl) rfl ?_
  refine fr_iload_n (i := 1) (q := 1) rfl dX4_name_0 rfl ?_
  refine fr_if_lt (tgt := 17) dX4_name_1 (by decide) rfl (fun hc => ?_) (fun hc => ?_)
  · have h := h.1 hc
    exact fr_vret rfl dX4_name_17 h.1 h.2
  · have h := h.2 hc
    refine fr_iload_n (i := 1) (q := 1) rfl dX4_name_4 rfl ?_
    refine fr_bipush (v := 11) (by decide) dX4_name_5 rfl ?_
    refine fr_icmp_ge (tgt := 17) dX4_name_7 (by decide) rfl (fun hc => ?_) (fun hc => ?_)
    · have h := h.1 hc
      exact fr_vret rfl dX4_name_17 h.1 h.2
    · have h := h.2 hc
      refine fr_aload_n (i := 0) (q := 0) rfl dX4_name_10 rfl ?_
      refine fr_getR dX4_name_11 rfl fl_X4_9 k_o r_o_names ?_
      refine fr_iload_n (i := 1) (q := 1) rfl dX4_name_14 rfl ?_
      refine fr_iload_n (i := 2) (q := 2) rfl dX4_name_15 rfl ?_
      obtain ⟨hz1, h⟩ := h
      refine fr_iast dX4_name_16 rfl k_o_names hz1 ?_
      refine fr_memI (fun I2 hI2 => ?_)
      have h := h I2 hI2
      exact fr_vret rfl dX4_name_17 h.1 h.2
abbrev Lp_X4_value_10 (g : GE) (d : Nat) (o : Nat) (a1 : Nat) (u3 : Int32) (u4 : Int32) (M : Mem) (r : Option Value) (M' : Mem) : Prop := Fr g d mu_X4_value 10 [(0, rf g o), (1, rf g a1), (3, .int u3), (4, .int u4)] [] M r M'
theorem cp_X4_value {g : GE} {Z : Zs} {I : Nat → Nat → Int32} {L : Nat → Nat → Int64} {r : Option Value} {M' : Mem} {o : Nat} {a1 : Nat} {x2 : Int32} (k_o : KM Z o 4) (k_a1 : KM Z a1 13) (h : (∀ I1 : Nat → Nat → Int32, I1 = rw1 I o (upd (I o) 2 0) → Lp_X4_value_10 g 3 o a1 x2 0 (Z, I1, L) r M')) : Cl g 3 mu_X4_value [rf g o, rf g a1, .int x2] (Z, I, L) r M' := by
  refine cl_of (lv := [(0, rf g o), (1, rf g a1), (2, .int x2)]) (by decide) (Nat.le_of_ble_eq_true rfl) rfl ?_
  refine fr_aload_n (i := 0) (q := 0) rfl dX4_value_0 rfl ?_
  refine fr_iconst (v := 0) (by decide) dX4_value_1 rfl ?_
  refine fr_putI dX4_value_2 rfl fp_X4_18 k_o ?_
  refine fr_memI (fun I1 hI1 => ?_)
  have h := h I1 hI1
  refine fr_iload_n (i := 2) (q := 2) rfl dX4_value_5 rfl ?_
  refine fr_istore_n (i := 3) (lv' := [(3, .int x2), (0, rf g o), (1, rf g a1), (2, .int x2)]) dX4_value_6 rfl (by decide) rfl ?_
  refine fr_iconst (v := 0) (by decide) dX4_value_7 rfl ?_
  refine fr_istore (lv' := [(4, .int 0), (3, .int x2), (0, rf g o), (1, rf g a1), (2, .int x2)]) dX4_value_8 rfl (by decide) rfl ?_
  exact fr_sub [2, 3, 1, 0] rfl h
abbrev Lp_X4_value_52 (g : GE) (d : Nat) (o : Nat) (a1 : Nat) (u3 : Int32) (u4 : Int32) (s0 : Int32) (M : Mem) (r : Option Value) (M' : Mem) : Prop := Fr g d mu_X4_value 52 [(0, rf g o), (1, rf g a1), (3, .int u3), (4, .int u4)] [.int s0] M r M'
theorem wp_X4_value_10 {g : GE} {Z : Zs} {I : Nat → Nat → Int32} {L : Nat → Nat → Int64} {r : Option Value} {M' : Mem} {o : Nat} {a1 : Nat} {u3 : Int32} {u4 : Int32} (k_o : KM Z o 4) (k_a1 : KM Z a1 13) (h : (((nI (Z.2.2.1 a1)) ≤ u4 → (∃ (v1 : Int32) (I2 : Nat → Nat → Int32) (L3 : Nat → Nat → Int64), Cl g 1 mu_X4_pop [rf g o] (Z, I, L) (some (.int v1)) (Z, I2, L3) ∧ (r = some (.int v1) ∧ M' = (Z, I2, L3)))) ∧ (¬ (nI (Z.2.2.1 a1)) ≤ u4 → ((u3 < 0 → (∃ (v5 : Int32) (I6 : Nat → Nat → Int32) (L7 : Nat → Nat → Int64), Cl g 1 mu_X4_pop [rf g o] (Z, I, L) (some (.int v5)) (Z, I6, L7) ∧ (r = some (.int v5) ∧ M' = (Z, I6, L7)))) ∧ (¬ u3 < 0 → (((nI (Z.2.2.1 a1)) ≤ u3 → (∃ (v9 : Int32) (I10 : Nat → Nat → Int32) (L11 : Nat → Nat → Int64), Cl g 1 mu_X4_pop [rf g o] (Z, I, L) (some (.int v9)) (Z, I10, L11) ∧ (r = some (.int v9) ∧ M' = (Z, I10, L11)))) ∧ (¬ (nI (Z.2.2.1 a1)) ≤ u3 → (vp_in u3 (Z.2.2.1 a1) ∧ (((I a1 u3.toNatClampNeg) = 33 → (∃ (v14 : Int32) (I15 : Nat → Nat → Int32) (L16 : Nat → Nat → Int64), Cl g 1 mu_X4_pop [rf g o] (Z, I, L) (some (.int v14)) (Z, I15, L16) ∧ (r = some (.int v14) ∧ M' = (Z, I15, L16)))) ∧ (¬ (I a1 u3.toNatClampNeg) = 33 → (((nI (Z.2.2.1 a1)) ≤ (u3 + 1) → Lp_X4_value_52 g 3 o a1 u3 u4 0 (Z, I, L) r M') ∧ (¬ (nI (Z.2.2.1 a1)) ≤ (u3 + 1) → (vp_in (u3 + 1) (Z.2.2.1 a1) ∧ Lp_X4_value_52 g 3 o a1 u3 u4 (I a1 (u3 + 1).toNatClampNeg) (Z, I, L) r M'))))))))))))) : Lp_X4_value_10 g 3 o a1 u3 u4 (Z, I, L) r M' := by
  refine fr_iload (q := 3) rfl dX4_value_10 rfl ?_
  refine fr_aload_n (i := 1) (q := 1) rfl dX4_value_12 rfl ?_
  refine fr_alen dX4_value_13 rfl k_a1 (Or.inl rfl) ?_
  refine fr_icmp_ge (tgt := 259) dX4_value_14 (by decide) rfl (fun hc => ?_) (fun hc => ?_)
  · have h := h.1 hc
    refine fr_aload_n (i := 0) (q := 0) rfl dX4_value_259 rfl ?_
    obtain ⟨v1, I2, L3, hc4, h⟩ := h
    refine fr_callV2 (ν := mu_X4_pop) (st2 := [.int v1]) (As := []) (st := []) (v := (some (.int v1))) (M1 := (Z, I2, L3)) dX4_value_260 rfl ml_X4_26 mo_X4_pop mi_X4_pop (ci := 4) rfl rfl k_o (Nat.le_of_ble_eq_true rfl) rfl rfl (Nat.le_of_ble_eq_true rfl) hc4 rfl ?_
    exact fr_iret rfl dX4_value_263 h.1 h.2
  · have h := h.2 hc
    refine fr_iload_n (i := 3) (q := 2) rfl dX4_value_17 rfl ?_
    refine fr_if_lt (tgt := 259) dX4_value_18 (by decide) rfl (fun hc => ?_) (fun hc => ?_)
    · have h := h.1 hc
      refine fr_aload_n (i := 0) (q := 0) rfl dX4_value_259 rfl ?_
      obtain ⟨v5, I6, L7, hc8, h⟩ := h
      refine fr_callV2 (ν := mu_X4_pop) (st2 := [.int v5]) (As := []) (st := []) (v := (some (.int v5))) (M1 := (Z, I6, L7)) dX4_value_260 rfl ml_X4_26 mo_X4_pop mi_X4_pop (ci := 4) rfl rfl k_o (Nat.le_of_ble_eq_true rfl) rfl rfl (Nat.le_of_ble_eq_true rfl) hc8 rfl ?_
      exact fr_iret rfl dX4_value_263 h.1 h.2
    · have h := h.2 hc
      refine fr_iload_n (i := 3) (q := 2) rfl dX4_value_21 rfl ?_
      refine fr_aload_n (i := 1) (q := 1) rfl dX4_value_22 rfl ?_
      refine fr_alen dX4_value_23 rfl k_a1 (Or.inl rfl) ?_
      refine fr_icmp_ge (tgt := 259) dX4_value_24 (by decide) rfl (fun hc => ?_) (fun hc => ?_)
      · have h := h.1 hc
        refine fr_aload_n (i := 0) (q := 0) rfl dX4_value_259 rfl ?_
        obtain ⟨v9, I10, L11, hc12, h⟩ := h
        refine fr_callV2 (ν := mu_X4_pop) (st2 := [.int v9]) (As := []) (st := []) (v := (some (.int v9))) (M1 := (Z, I10, L11)) dX4_value_260 rfl ml_X4_26 mo_X4_pop mi_X4_pop (ci := 4) rfl rfl k_o (Nat.le_of_ble_eq_true rfl) rfl rfl (Nat.le_of_ble_eq_true rfl) hc12 rfl ?_
        exact fr_iret rfl dX4_value_263 h.1 h.2
      · have h := h.2 hc
        refine fr_aload_n (i := 1) (q := 1) rfl dX4_value_27 rfl ?_
        refine fr_iload_n (i := 3) (q := 2) rfl dX4_value_28 rfl ?_
        obtain ⟨hz13, h⟩ := h
        refine fr_iald dX4_value_29 rfl k_a1 hz13 ?_
        refine fr_bipush (v := 33) (by decide) dX4_value_30 rfl ?_
        refine fr_icmp_eq (tgt := 259) dX4_value_32 (by decide) rfl (fun hc => ?_) (fun hc => ?_)
        · have h := h.1 hc
          refine fr_aload_n (i := 0) (q := 0) rfl dX4_value_259 rfl ?_
          obtain ⟨v14, I15, L16, hc17, h⟩ := h
          refine fr_callV2 (ν := mu_X4_pop) (st2 := [.int v14]) (As := []) (st := []) (v := (some (.int v14))) (M1 := (Z, I15, L16)) dX4_value_260 rfl ml_X4_26 mo_X4_pop mi_X4_pop (ci := 4) rfl rfl k_o (Nat.le_of_ble_eq_true rfl) rfl rfl (Nat.le_of_ble_eq_true rfl) hc17 rfl ?_
          exact fr_iret rfl dX4_value_263 h.1 h.2
        · have h := h.2 hc
          refine fr_iload_n (i := 3) (q := 2) rfl dX4_value_35 rfl ?_
          refine fr_iconst (v := 1) (by decide) dX4_value_36 rfl ?_
          refine fr_iadd dX4_value_37 rfl ?_
          refine fr_aload_n (i := 1) (q := 1) rfl dX4_value_38 rfl ?_
          refine fr_alen dX4_value_39 rfl k_a1 (Or.inl rfl) ?_
          refine fr_icmp_ge (tgt := 51) dX4_value_40 (by decide) rfl (fun hc => ?_) (fun hc => ?_)
          · have h := h.1 hc
            refine fr_iconst (v := 0) (by decide) dX4_value_51 rfl ?_
            exact fr_sub [0, 1, 2, 3] rfl h
          · have h := h.2 hc
            refine fr_aload_n (i := 1) (q := 1) rfl dX4_value_43 rfl ?_
            refine fr_iload_n (i := 3) (q := 2) rfl dX4_value_44 rfl ?_
            refine fr_iconst (v := 1) (by decide) dX4_value_45 rfl ?_
            refine fr_iadd dX4_value_46 rfl ?_
            obtain ⟨hz18, h⟩ := h
            refine fr_iald dX4_value_47 rfl k_a1 hz18 ?_
            refine fr_goto (n := 52) dX4_value_48 (by decide) ?_
            exact fr_sub [0, 1, 2, 3] rfl h
theorem wp_X4_value_52 {g : GE} {Z : Zs} {I : Nat → Nat → Int32} {L : Nat → Nat → Int64} {r : Option Value} {M' : Mem} {o : Nat} {a1 : Nat} {u3 : Int32} {u4 : Int32} {s0 : Int32} {o_names : Nat} (k_o : KM Z o 4) (k_a1 : KM Z a1 13) (r_o_names : Z.2.1 o 0 = some o_names) (k_o_names : KM Z o_names 13) (h : (vp_in u3 (Z.2.2.1 a1) ∧ (((I a1 u3.toNatClampNeg) = 18 → (∃ (v2 : Int32) (I3 : Nat → Nat → Int32) (L4 : Nat → Nat → Int64), Cl g 1 mu_X4_pop [rf g o] (Z, I, L) (some (.int v2)) (Z, I3, L4) ∧ ((¬ v2 = 0 → (∃ (I6 : Nat → Nat → Int32) (L7 : Nat → Nat → Int64), Cl g 1 mu_X4_push [rf g o, .int 0] (Z, I3, L4) none (Z, I6, L7) ∧ (∀ y9 : Int32, y9 = (u3 + 1) → (∀ y10 : Int32, y10 = (u4 + 1) → Lp_X4_value_10 g 3 o a1 y9 y10 (Z, I6, L7) r M')))) ∧ (v2 = 0 → (∃ (I11 : Nat → Nat → Int32) (L12 : Nat → Nat → Int64), Cl g 1 mu_X4_push [rf g o, .int 1] (Z, I3, L4) none (Z, I11, L12) ∧ (∀ y14 : Int32, y14 = (u3 + 1) → (∀ y15 : Int32, y15 = (u4 + 1) → Lp_X4_value_10 g 3 o a1 y14 y15 (Z, I11, L12) r M'))))))) ∧ ((I a1 u3.toNatClampNeg) = 19 → (∃ (I16 : Nat → Nat → Int32) (L17 : Nat → Nat → Int64), Cl g 1 mu_X4_push [rf g o, .int s0] (Z, I, L) none (Z, I16, L17) ∧ (∀ y19 : Int32, y19 = (u3 + 2) → (∀ y20 : Int32, y20 = (u4 + 1) → Lp_X4_value_10 g 3 o a1 y19 y20 (Z, I16, L17) r M')))) ∧ ((I a1 u3.toNatClampNeg) = 20 → ((s0 < 0 → (∃ (I21 : Nat → Nat → Int32) (L22 : Nat → Nat → Int64), Cl g 1 mu_X4_push [rf g o, .int 0] (Z, I, L) none (Z, I21, L22) ∧ (∀ y24 : Int32, y24 = (u3 + 2) → (∀ y25 : Int32, y25 = (u4 + 1) → Lp_X4_value_10 g 3 o a1 y24 y25 (Z, I21, L22) r M')))) ∧ (¬ s0 < 0 → ((11 ≤ s0 → (∃ (I26 : Nat → Nat → Int32) (L27 : Nat → Nat → Int64), Cl g 1 mu_X4_push [rf g o, .int 0] (Z, I, L) none (Z, I26, L27) ∧ (∀ y29 : Int32, y29 = (u3 + 2) → (∀ y30 : Int32, y30 = (u4 + 1) → Lp_X4_value_10 g 3 o a1 y29 y30 (Z, I26, L27) r M')))) ∧ (¬ 11 ≤ s0 → (vp_in s0 (Z.2.2.1 o_names) ∧ (∃ (I32 : Nat → Nat → Int32) (L33 : Nat → Nat → Int64), Cl g 1 mu_X4_push [rf g o, .int (I o_names s0.toNatClampNeg)] (Z, I, L) none (Z, I32, L33) ∧ (∀ y35 : Int32, y35 = (u3 + 2) → (∀ y36 : Int32, y36 = (u4 + 1) → Lp_X4_value_10 g 3 o a1 y35 y36 (Z, I32, L33) r M'))))))))) ∧ ((I a1 u3.toNatClampNeg) = 34 → (∃ (v37 : Int32) (I38 : Nat → Nat → Int32) (L39 : Nat → Nat → Int64), Cl g 1 mu_X4_pop [rf g o] (Z, I, L) (some (.int v37)) (Z, I38, L39) ∧ ((¬ v37 = 0 → (∀ y41 : Int32, y41 = (u3 + 2) → (∀ y42 : Int32, y42 = (u4 + 1) → Lp_X4_value_10 g 3 o a1 y41 y42 (Z, I38, L39) r M'))) ∧ (v37 = 0 → (∀ y43 : Int32, y43 = (u4 + 1) → Lp_X4_value_10 g 3 o a1 s0 y43 (Z, I38, L39) r M'))))) ∧ ((I a1 u3.toNatClampNeg) = 35 → (∀ y44 : Int32, y44 = (u4 + 1) → Lp_X4_value_10 g 3 o a1 s0 y44 (Z, I, L) r M')) ∧ ((I a1 u3.toNatClampNeg) = 38 → (∃ (v45 : Int32) (I46 : Nat → Nat → Int32) (L47 : Nat → Nat → Int64), Cl g 1 mu_X4_pop [rf g o] (Z, I, L) (some (.int v45)) (Z, I46, L47) ∧ (∃ (I49 : Nat → Nat → Int32) (L50 : Nat → Nat → Int64), Cl g 1 mu_X4_push [rf g o, .int (-v45)] (Z, I46, L47) none (Z, I49, L50) ∧ (∀ y52 : Int32, y52 = (u3 + 1) → (∀ y53 : Int32, y53 = (u4 + 1) → Lp_X4_value_10 g 3 o a1 y52 y53 (Z, I49, L50) r M'))))) ∧ (¬ (I a1 u3.toNatClampNeg) = 18 ∧ ¬ (I a1 u3.toNatClampNeg) = 19 ∧ ¬ (I a1 u3.toNatClampNeg) = 20 ∧ ¬ (I a1 u3.toNatClampNeg) = 34 ∧ ¬ (I a1 u3.toNatClampNeg) = 35 ∧ ¬ (I a1 u3.toNatClampNeg) = 38 → (∃ (v54 : Int32) (I55 : Nat → Nat → Int32) (L56 : Nat → Nat → Int64), Cl g 1 mu_X4_pop [rf g o] (Z, I, L) (some (.int v54)) (Z, I55, L56) ∧ (vp_in u3 (Z.2.2.1 a1) ∧ (∃ (v59 : Int32) (I60 : Nat → Nat → Int32) (L61 : Nat → Nat → Int64), Cl g 1 mu_X4_pop [rf g o] (Z, I55, L56) (some (.int v59)) (Z, I60, L61) ∧ (∃ (v63 : Int64), Cl g 1 mu_X4_join [.int (I55 a1 u3.toNatClampNeg), .long v59.toInt64, .long v54.toInt64] (Z, I60, L61) (some (.long v63)) (Z, I60, L61) ∧ (∃ (v65 : Int32), Cl g 2 mu_X4_held [.long v63] (Z, I60, L61) (some (.int v65)) (Z, I60, L61) ∧ (∃ (I67 : Nat → Nat → Int32) (L68 : Nat → Nat → Int64), Cl g 1 mu_X4_push [rf g o, .int v65] (Z, I60, L61) none (Z, I67, L68) ∧ (∀ y70 : Int32, y70 = (u3 + 1) → (∀ y71 : Int32, y71 = (u4 + 1) → Lp_X4_value_10 g 3 o a1 y70 y71 (Z, I67, L68) r M')))))))))))) : Lp_X4_value_52 g 3 o a1 u3 u4 s0 (Z, I, L) r M' := by
  refine fr_istore (lv' := [(5, .int s0), (0, rf g o), (1, rf g a1), (3, .int u3), (4, .int u4)]) dX4_value_52 rfl (by decide) rfl ?_
  refine fr_aload_n (i := 1) (q := 2) rfl dX4_value_54 rfl ?_
  refine fr_iload_n (i := 3) (q := 3) rfl dX4_value_55 rfl ?_
  obtain ⟨hz1, h⟩ := h
  refine fr_iald dX4_value_56 rfl k_a1 hz1 ?_
  by_cases hs0 : (I a1 u3.toNatClampNeg) = 18
  · have h := h.1 hs0
    refine fr_lookK (n := 186) (y := 18) hs0 dX4_value_57 (by decide) rfl (by decide) ?_
    refine fr_aload_n (i := 0) (q := 1) rfl dX4_value_186 rfl ?_
    refine fr_aload_n (i := 0) (q := 1) rfl dX4_value_187 rfl ?_
    obtain ⟨v2, I3, L4, hc5, h⟩ := h
    refine fr_callV2 (ν := mu_X4_pop) (st2 := [.int v2, rf g o]) (As := []) (st := [rf g o]) (v := (some (.int v2))) (M1 := (Z, I3, L4)) dX4_value_188 rfl ml_X4_26 mo_X4_pop mi_X4_pop (ci := 4) rfl rfl k_o (Nat.le_of_ble_eq_true rfl) rfl rfl (Nat.le_of_ble_eq_true rfl) hc5 rfl ?_
    refine fr_if_ne (tgt := 198) dX4_value_191 (by decide) rfl (fun hc => ?_) (fun hc => ?_)
    · have h := h.1 hc
      refine fr_iconst (v := 0) (by decide) dX4_value_198 rfl ?_
      obtain ⟨I6, L7, hc8, h⟩ := h
      refine fr_callV2 (ν := mu_X4_push) (st2 := []) (As := [.int 0]) (st := []) (v := none) (M1 := (Z, I6, L7)) dX4_value_199 rfl ml_X4_22 mo_X4_push mi_X4_push (ci := 4) rfl rfl k_o (Nat.le_of_ble_eq_true rfl) rfl rfl (Nat.le_of_ble_eq_true rfl) hc8 rfl ?_
      obtain ⟨y9, hy9⟩ : ∃ y : Int32, y = u3 + 1 := ⟨_, rfl⟩
      have h := h y9 hy9
      refine fr_iinc (q := 3) (v := y9) (lv' := [(3, .int y9), (5, .int s0), (0, rf g o), (1, rf g a1), (4, .int u4)]) rfl (by rw [hy9]; rfl) dX4_value_202 rfl (by decide) rfl ?_
      refine fr_goto (n := 253) dX4_value_205 (by decide) ?_
      obtain ⟨y10, hy10⟩ : ∃ y : Int32, y = u4 + 1 := ⟨_, rfl⟩
      have h := h y10 hy10
      refine fr_iinc (q := 4) (v := y10) (lv' := [(4, .int y10), (3, .int y9), (5, .int s0), (0, rf g o), (1, rf g a1)]) rfl (by rw [hy10]; rfl) dX4_value_253 rfl (by decide) rfl ?_
      refine fr_goto (n := 10) dX4_value_256 (by decide) ?_
      exact fr_sub [3, 4, 1, 0] rfl h
    · have h := h.2 hc
      refine fr_iconst (v := 1) (by decide) dX4_value_194 rfl ?_
      refine fr_goto (n := 199) dX4_value_195 (by decide) ?_
      obtain ⟨I11, L12, hc13, h⟩ := h
      refine fr_callV2 (ν := mu_X4_push) (st2 := []) (As := [.int 1]) (st := []) (v := none) (M1 := (Z, I11, L12)) dX4_value_199 rfl ml_X4_22 mo_X4_push mi_X4_push (ci := 4) rfl rfl k_o (Nat.le_of_ble_eq_true rfl) rfl rfl (Nat.le_of_ble_eq_true rfl) hc13 rfl ?_
      obtain ⟨y14, hy14⟩ : ∃ y : Int32, y = u3 + 1 := ⟨_, rfl⟩
      have h := h y14 hy14
      refine fr_iinc (q := 3) (v := y14) (lv' := [(3, .int y14), (5, .int s0), (0, rf g o), (1, rf g a1), (4, .int u4)]) rfl (by rw [hy14]; rfl) dX4_value_202 rfl (by decide) rfl ?_
      refine fr_goto (n := 253) dX4_value_205 (by decide) ?_
      obtain ⟨y15, hy15⟩ : ∃ y : Int32, y = u4 + 1 := ⟨_, rfl⟩
      have h := h y15 hy15
      refine fr_iinc (q := 4) (v := y15) (lv' := [(4, .int y15), (3, .int y14), (5, .int s0), (0, rf g o), (1, rf g a1)]) rfl (by rw [hy15]; rfl) dX4_value_253 rfl (by decide) rfl ?_
      refine fr_goto (n := 10) dX4_value_256 (by decide) ?_
      exact fr_sub [3, 4, 1, 0] rfl h
  · have h := h.2
    by_cases hs1 : (I a1 u3.toNatClampNeg) = 19
    · have h := h.1 hs1
      refine fr_lookK (n := 116) (y := 19) hs1 dX4_value_57 (by decide) rfl (by decide) ?_
      refine fr_aload_n (i := 0) (q := 1) rfl dX4_value_116 rfl ?_
      refine fr_iload (q := 0) rfl dX4_value_117 rfl ?_
      obtain ⟨I16, L17, hc18, h⟩ := h
      refine fr_callV2 (ν := mu_X4_push) (st2 := []) (As := [.int s0]) (st := []) (v := none) (M1 := (Z, I16, L17)) dX4_value_119 rfl ml_X4_22 mo_X4_push mi_X4_push (ci := 4) rfl rfl k_o (Nat.le_of_ble_eq_true rfl) rfl rfl (Nat.le_of_ble_eq_true rfl) hc18 rfl ?_
      obtain ⟨y19, hy19⟩ : ∃ y : Int32, y = u3 + 2 := ⟨_, rfl⟩
      have h := h y19 hy19
      refine fr_iinc (q := 3) (v := y19) (lv' := [(3, .int y19), (5, .int s0), (0, rf g o), (1, rf g a1), (4, .int u4)]) rfl (by rw [hy19]; rfl) dX4_value_122 rfl (by decide) rfl ?_
      refine fr_goto (n := 253) dX4_value_125 (by decide) ?_
      obtain ⟨y20, hy20⟩ : ∃ y : Int32, y = u4 + 1 := ⟨_, rfl⟩
      have h := h y20 hy20
      refine fr_iinc (q := 4) (v := y20) (lv' := [(4, .int y20), (3, .int y19), (5, .int s0), (0, rf g o), (1, rf g a1)]) rfl (by rw [hy20]; rfl) dX4_value_253 rfl (by decide) rfl ?_
      refine fr_goto (n := 10) dX4_value_256 (by decide) ?_
      exact fr_sub [3, 4, 1, 0] rfl h
    · have h := h.2
      by_cases hs2 : (I a1 u3.toNatClampNeg) = 20
      · have h := h.1 hs2
        refine fr_lookK (n := 128) (y := 20) hs2 dX4_value_57 (by decide) rfl (by decide) ?_
        refine fr_aload_n (i := 0) (q := 1) rfl dX4_value_128 rfl ?_
        refine fr_iload (q := 0) rfl dX4_value_129 rfl ?_
        refine fr_if_lt (tgt := 151) dX4_value_131 (by decide) rfl (fun hc => ?_) (fun hc => ?_)
        · have h := h.1 hc
          refine fr_iconst (v := 0) (by decide) dX4_value_151 rfl ?_
          obtain ⟨I21, L22, hc23, h⟩ := h
          refine fr_callV2 (ν := mu_X4_push) (st2 := []) (As := [.int 0]) (st := []) (v := none) (M1 := (Z, I21, L22)) dX4_value_152 rfl ml_X4_22 mo_X4_push mi_X4_push (ci := 4) rfl rfl k_o (Nat.le_of_ble_eq_true rfl) rfl rfl (Nat.le_of_ble_eq_true rfl) hc23 rfl ?_
          obtain ⟨y24, hy24⟩ : ∃ y : Int32, y = u3 + 2 := ⟨_, rfl⟩
          have h := h y24 hy24
          refine fr_iinc (q := 3) (v := y24) (lv' := [(3, .int y24), (5, .int s0), (0, rf g o), (1, rf g a1), (4, .int u4)]) rfl (by rw [hy24]; rfl) dX4_value_155 rfl (by decide) rfl ?_
          refine fr_goto (n := 253) dX4_value_158 (by decide) ?_
          obtain ⟨y25, hy25⟩ : ∃ y : Int32, y = u4 + 1 := ⟨_, rfl⟩
          have h := h y25 hy25
          refine fr_iinc (q := 4) (v := y25) (lv' := [(4, .int y25), (3, .int y24), (5, .int s0), (0, rf g o), (1, rf g a1)]) rfl (by rw [hy25]; rfl) dX4_value_253 rfl (by decide) rfl ?_
          refine fr_goto (n := 10) dX4_value_256 (by decide) ?_
          exact fr_sub [3, 4, 1, 0] rfl h
        · have h := h.2 hc
          refine fr_iload (q := 0) rfl dX4_value_134 rfl ?_
          refine fr_bipush (v := 11) (by decide) dX4_value_136 rfl ?_
          refine fr_icmp_ge (tgt := 151) dX4_value_138 (by decide) rfl (fun hc => ?_) (fun hc => ?_)
          · have h := h.1 hc
            refine fr_iconst (v := 0) (by decide) dX4_value_151 rfl ?_
            obtain ⟨I26, L27, hc28, h⟩ := h
            refine fr_callV2 (ν := mu_X4_push) (st2 := []) (As := [.int 0]) (st := []) (v := none) (M1 := (Z, I26, L27)) dX4_value_152 rfl ml_X4_22 mo_X4_push mi_X4_push (ci := 4) rfl rfl k_o (Nat.le_of_ble_eq_true rfl) rfl rfl (Nat.le_of_ble_eq_true rfl) hc28 rfl ?_
            obtain ⟨y29, hy29⟩ : ∃ y : Int32, y = u3 + 2 := ⟨_, rfl⟩
            have h := h y29 hy29
            refine fr_iinc (q := 3) (v := y29) (lv' := [(3, .int y29), (5, .int s0), (0, rf g o), (1, rf g a1), (4, .int u4)]) rfl (by rw [hy29]; rfl) dX4_value_155 rfl (by decide) rfl ?_
            refine fr_goto (n := 253) dX4_value_158 (by decide) ?_
            obtain ⟨y30, hy30⟩ : ∃ y : Int32, y = u4 + 1 := ⟨_, rfl⟩
            have h := h y30 hy30
            refine fr_iinc (q := 4) (v := y30) (lv' := [(4, .int y30), (3, .int y29), (5, .int s0), (0, rf g o), (1, rf g a1)]) rfl (by rw [hy30]; rfl) dX4_value_253 rfl (by decide) rfl ?_
            refine fr_goto (n := 10) dX4_value_256 (by decide) ?_
            exact fr_sub [3, 4, 1, 0] rfl h
          · have h := h.2 hc
            refine fr_aload_n (i := 0) (q := 1) rfl dX4_value_141 rfl ?_
            refine fr_getR dX4_value_142 rfl fl_X4_9 k_o r_o_names ?_
            refine fr_iload (q := 0) rfl dX4_value_145 rfl ?_
            obtain ⟨hz31, h⟩ := h
            refine fr_iald dX4_value_147 rfl k_o_names hz31 ?_
            refine fr_goto (n := 152) dX4_value_148 (by decide) ?_
            obtain ⟨I32, L33, hc34, h⟩ := h
            refine fr_callV2 (ν := mu_X4_push) (st2 := []) (As := [.int (I o_names s0.toNatClampNeg)]) (st := []) (v := none) (M1 := (Z, I32, L33)) dX4_value_152 rfl ml_X4_22 mo_X4_push mi_X4_push (ci := 4) rfl rfl k_o (Nat.le_of_ble_eq_true rfl) rfl rfl (Nat.le_of_ble_eq_true rfl) hc34 rfl ?_
            obtain ⟨y35, hy35⟩ : ∃ y : Int32, y = u3 + 2 := ⟨_, rfl⟩
            have h := h y35 hy35
            refine fr_iinc (q := 3) (v := y35) (lv' := [(3, .int y35), (5, .int s0), (0, rf g o), (1, rf g a1), (4, .int u4)]) rfl (by rw [hy35]; rfl) dX4_value_155 rfl (by decide) rfl ?_
            refine fr_goto (n := 253) dX4_value_158 (by decide) ?_
            obtain ⟨y36, hy36⟩ : ∃ y : Int32, y = u4 + 1 := ⟨_, rfl⟩
            have h := h y36 hy36
            refine fr_iinc (q := 4) (v := y36) (lv' := [(4, .int y36), (3, .int y35), (5, .int s0), (0, rf g o), (1, rf g a1)]) rfl (by rw [hy36]; rfl) dX4_value_253 rfl (by decide) rfl ?_
            refine fr_goto (n := 10) dX4_value_256 (by decide) ?_
            exact fr_sub [3, 4, 1, 0] rfl h
      · have h := h.2
        by_cases hs3 : (I a1 u3.toNatClampNeg) = 34
        · have h := h.1 hs3
          refine fr_lookK (n := 161) (y := 34) hs3 dX4_value_57 (by decide) rfl (by decide) ?_
          refine fr_aload_n (i := 0) (q := 1) rfl dX4_value_161 rfl ?_
          obtain ⟨v37, I38, L39, hc40, h⟩ := h
          refine fr_callV2 (ν := mu_X4_pop) (st2 := [.int v37]) (As := []) (st := []) (v := (some (.int v37))) (M1 := (Z, I38, L39)) dX4_value_162 rfl ml_X4_26 mo_X4_pop mi_X4_pop (ci := 4) rfl rfl k_o (Nat.le_of_ble_eq_true rfl) rfl rfl (Nat.le_of_ble_eq_true rfl) hc40 rfl ?_
          refine fr_if_ne (tgt := 173) dX4_value_165 (by decide) rfl (fun hc => ?_) (fun hc => ?_)
          · have h := h.1 hc
            refine fr_iload_n (i := 3) (q := 3) rfl dX4_value_173 rfl ?_
            refine fr_iconst (v := 2) (by decide) dX4_value_174 rfl ?_
            refine fr_iadd dX4_value_175 rfl ?_
            refine fr_topi (fun y41 hy41 => ?_)
            have h := h y41 hy41
            refine fr_istore_n (i := 3) (lv' := [(3, .int y41), (5, .int s0), (0, rf g o), (1, rf g a1), (4, .int u4)]) dX4_value_176 rfl (by decide) rfl ?_
            refine fr_goto (n := 253) dX4_value_177 (by decide) ?_
            obtain ⟨y42, hy42⟩ : ∃ y : Int32, y = u4 + 1 := ⟨_, rfl⟩
            have h := h y42 hy42
            refine fr_iinc (q := 4) (v := y42) (lv' := [(4, .int y42), (3, .int y41), (5, .int s0), (0, rf g o), (1, rf g a1)]) rfl (by rw [hy42]; rfl) dX4_value_253 rfl (by decide) rfl ?_
            refine fr_goto (n := 10) dX4_value_256 (by decide) ?_
            exact fr_sub [3, 4, 1, 0] rfl h
          · have h := h.2 hc
            refine fr_iload (q := 0) rfl dX4_value_168 rfl ?_
            refine fr_goto (n := 176) dX4_value_170 (by decide) ?_
            refine fr_istore_n (i := 3) (lv' := [(3, .int s0), (5, .int s0), (0, rf g o), (1, rf g a1), (4, .int u4)]) dX4_value_176 rfl (by decide) rfl ?_
            refine fr_goto (n := 253) dX4_value_177 (by decide) ?_
            obtain ⟨y43, hy43⟩ : ∃ y : Int32, y = u4 + 1 := ⟨_, rfl⟩
            have h := h y43 hy43
            refine fr_iinc (q := 4) (v := y43) (lv' := [(4, .int y43), (3, .int s0), (5, .int s0), (0, rf g o), (1, rf g a1)]) rfl (by rw [hy43]; rfl) dX4_value_253 rfl (by decide) rfl ?_
            refine fr_goto (n := 10) dX4_value_256 (by decide) ?_
            exact fr_sub [3, 4, 1, 0] rfl h
        · have h := h.2
          by_cases hs4 : (I a1 u3.toNatClampNeg) = 35
          · have h := h.1 hs4
            refine fr_lookK (n := 180) (y := 35) hs4 dX4_value_57 (by decide) rfl (by decide) ?_
            refine fr_iload (q := 0) rfl dX4_value_180 rfl ?_
            refine fr_istore_n (i := 3) (lv' := [(3, .int s0), (5, .int s0), (0, rf g o), (1, rf g a1), (4, .int u4)]) dX4_value_182 rfl (by decide) rfl ?_
            refine fr_goto (n := 253) dX4_value_183 (by decide) ?_
            obtain ⟨y44, hy44⟩ : ∃ y : Int32, y = u4 + 1 := ⟨_, rfl⟩
            have h := h y44 hy44
            refine fr_iinc (q := 4) (v := y44) (lv' := [(4, .int y44), (3, .int s0), (5, .int s0), (0, rf g o), (1, rf g a1)]) rfl (by rw [hy44]; rfl) dX4_value_253 rfl (by decide) rfl ?_
            refine fr_goto (n := 10) dX4_value_256 (by decide) ?_
            exact fr_sub [3, 4, 1, 0] rfl h
          · have h := h.2
            by_cases hs5 : (I a1 u3.toNatClampNeg) = 38
            · have h := h.1 hs5
              refine fr_lookK (n := 208) (y := 38) hs5 dX4_value_57 (by decide) rfl (by decide) ?_
              refine fr_aload_n (i := 0) (q := 1) rfl dX4_value_208 rfl ?_
              refine fr_aload_n (i := 0) (q := 1) rfl dX4_value_209 rfl ?_
              obtain ⟨v45, I46, L47, hc48, h⟩ := h
              refine fr_callV2 (ν := mu_X4_pop) (st2 := [.int v45, rf g o]) (As := []) (st := [rf g o]) (v := (some (.int v45))) (M1 := (Z, I46, L47)) dX4_value_210 rfl ml_X4_26 mo_X4_pop mi_X4_pop (ci := 4) rfl rfl k_o (Nat.le_of_ble_eq_true rfl) rfl rfl (Nat.le_of_ble_eq_true rfl) hc48 rfl ?_
              refine fr_ineg dX4_value_213 rfl ?_
              obtain ⟨I49, L50, hc51, h⟩ := h
              refine fr_callV2 (ν := mu_X4_push) (st2 := []) (As := [.int (-v45)]) (st := []) (v := none) (M1 := (Z, I49, L50)) dX4_value_214 rfl ml_X4_22 mo_X4_push mi_X4_push (ci := 4) rfl rfl k_o (Nat.le_of_ble_eq_true rfl) rfl rfl (Nat.le_of_ble_eq_true rfl) hc51 rfl ?_
              obtain ⟨y52, hy52⟩ : ∃ y : Int32, y = u3 + 1 := ⟨_, rfl⟩
              have h := h y52 hy52
              refine fr_iinc (q := 3) (v := y52) (lv' := [(3, .int y52), (5, .int s0), (0, rf g o), (1, rf g a1), (4, .int u4)]) rfl (by rw [hy52]; rfl) dX4_value_217 rfl (by decide) rfl ?_
              refine fr_goto (n := 253) dX4_value_220 (by decide) ?_
              obtain ⟨y53, hy53⟩ : ∃ y : Int32, y = u4 + 1 := ⟨_, rfl⟩
              have h := h y53 hy53
              refine fr_iinc (q := 4) (v := y53) (lv' := [(4, .int y53), (3, .int y52), (5, .int s0), (0, rf g o), (1, rf g a1)]) rfl (by rw [hy53]; rfl) dX4_value_253 rfl (by decide) rfl ?_
              refine fr_goto (n := 10) dX4_value_256 (by decide) ?_
              exact fr_sub [3, 4, 1, 0] rfl h
            · have h := h.2
              have h := h ⟨hs0, hs1, hs2, hs3, hs4, hs5⟩
              refine fr_look (n := 223) dX4_value_57 (by decide) (look_out (I a1 u3.toNatClampNeg) [18, 19, 20, 34, 35, 38] (by simp only [List.mem_cons, List.not_mem_nil, or_false, not_or]; exact ⟨hs0, hs1, hs2, hs3, hs4, hs5⟩) rfl) (by decide) ?_
              refine fr_aload_n (i := 0) (q := 1) rfl dX4_value_223 rfl ?_
              obtain ⟨v54, I55, L56, hc57, h⟩ := h
              refine fr_callV2 (ν := mu_X4_pop) (st2 := [.int v54]) (As := []) (st := []) (v := (some (.int v54))) (M1 := (Z, I55, L56)) dX4_value_224 rfl ml_X4_26 mo_X4_pop mi_X4_pop (ci := 4) rfl rfl k_o (Nat.le_of_ble_eq_true rfl) rfl rfl (Nat.le_of_ble_eq_true rfl) hc57 rfl ?_
              refine fr_istore (lv' := [(6, .int v54), (5, .int s0), (0, rf g o), (1, rf g a1), (3, .int u3), (4, .int u4)]) dX4_value_227 rfl (by decide) rfl ?_
              refine fr_aload_n (i := 0) (q := 2) rfl dX4_value_229 rfl ?_
              refine fr_aload_n (i := 1) (q := 3) rfl dX4_value_230 rfl ?_
              refine fr_iload_n (i := 3) (q := 4) rfl dX4_value_231 rfl ?_
              obtain ⟨hz58, h⟩ := h
              refine fr_iald dX4_value_232 rfl k_a1 hz58 ?_
              refine fr_aload_n (i := 0) (q := 2) rfl dX4_value_233 rfl ?_
              obtain ⟨v59, I60, L61, hc62, h⟩ := h
              refine fr_callV2 (ν := mu_X4_pop) (st2 := [.int v59, .int (I55 a1 u3.toNatClampNeg), rf g o]) (As := []) (st := [.int (I55 a1 u3.toNatClampNeg), rf g o]) (v := (some (.int v59))) (M1 := (Z, I60, L61)) dX4_value_234 rfl ml_X4_26 mo_X4_pop mi_X4_pop (ci := 4) rfl rfl k_o (Nat.le_of_ble_eq_true rfl) rfl rfl (Nat.le_of_ble_eq_true rfl) hc62 rfl ?_
              refine fr_i2l dX4_value_237 rfl ?_
              refine fr_iload (q := 0) rfl dX4_value_238 rfl ?_
              refine fr_i2l dX4_value_240 rfl ?_
              obtain ⟨v63, hc64, h⟩ := h
              refine fr_callS2 (ν := mu_X4_join) (st2 := [.long v63, rf g o]) (As := [.int (I55 a1 u3.toNatClampNeg), .long v59.toInt64, .long v54.toInt64]) (st := [rf g o]) (v := (some (.long v63))) (M1 := (Z, I60, L61)) dX4_value_241 rfl ml_X4_30 mo_X4_join ms_X4_join (Nat.le_of_ble_eq_true rfl) rfl rfl (Nat.le_of_ble_eq_true rfl) hc64 rfl ?_
              obtain ⟨v65, hc66, h⟩ := h
              refine fr_callS2 (ν := mu_X4_held) (st2 := [.int v65, rf g o]) (As := [.long v63]) (st := [rf g o]) (v := (some (.int v65))) (M1 := (Z, I60, L61)) dX4_value_244 rfl ml_X4_34 mo_X4_held ms_X4_held (Nat.le_of_ble_eq_true rfl) rfl rfl (Nat.le_of_ble_eq_true rfl) hc66 rfl ?_
              obtain ⟨I67, L68, hc69, h⟩ := h
              refine fr_callV2 (ν := mu_X4_push) (st2 := []) (As := [.int v65]) (st := []) (v := none) (M1 := (Z, I67, L68)) dX4_value_247 rfl ml_X4_22 mo_X4_push mi_X4_push (ci := 4) rfl rfl k_o (Nat.le_of_ble_eq_true rfl) rfl rfl (Nat.le_of_ble_eq_true rfl) hc69 rfl ?_
              obtain ⟨y70, hy70⟩ : ∃ y : Int32, y = u3 + 1 := ⟨_, rfl⟩
              have h := h y70 hy70
              refine fr_iinc (q := 4) (v := y70) (lv' := [(3, .int y70), (6, .int v54), (5, .int s0), (0, rf g o), (1, rf g a1), (4, .int u4)]) rfl (by rw [hy70]; rfl) dX4_value_250 rfl (by decide) rfl ?_
              obtain ⟨y71, hy71⟩ : ∃ y : Int32, y = u4 + 1 := ⟨_, rfl⟩
              have h := h y71 hy71
              refine fr_iinc (q := 5) (v := y71) (lv' := [(4, .int y71), (3, .int y70), (6, .int v54), (5, .int s0), (0, rf g o), (1, rf g a1)]) rfl (by rw [hy71]; rfl) dX4_value_253 rfl (by decide) rfl ?_
              refine fr_goto (n := 10) dX4_value_256 (by decide) ?_
              exact fr_sub [4, 5, 1, 0] rfl h
theorem cp_X4_push {g : GE} {Z : Zs} {I : Nat → Nat → Int32} {L : Nat → Nat → Int64} {r : Option Value} {M' : Mem} {o : Nat} {x1 : Int32} {o_waiting : Nat} (k_o : KM Z o 4) (r_o_waiting : Z.2.1 o 1 = some o_waiting) (k_o_waiting : KM Z o_waiting 13) (h : (((nI (Z.2.2.1 o_waiting)) ≤ (I o 2) → (r = none ∧ M' = (Z, I, L))) ∧ (¬ (nI (Z.2.2.1 o_waiting)) ≤ (I o 2) → (vp_in (I o 2) (Z.2.2.1 o_waiting) ∧ (∀ I2 : Nat → Nat → Int32, I2 = rw1 I o_waiting (upd (I o_waiting) (I o 2).toNatClampNeg x1) → (∀ I3 : Nat → Nat → Int32, I3 = rw1 I2 o (upd (I2 o) 2 ((I2 o 2) + 1)) → (r = none ∧ M' = (Z, I3, L)))))))) : Cl g 1 mu_X4_push [rf g o, .int x1] (Z, I, L) r M' := by
  refine cl_of (lv := [(0, rf g o), (1, .int x1)]) (by decide) (Nat.le_of_ble_eq_true rfl) rfl ?_
  refine fr_aload_n (i := 0) (q := 0) rfl dX4_push_0 rfl ?_
  refine fr_getI dX4_push_1 rfl fl_X4_18 k_o ?_
  refine fr_aload_n (i := 0) (q := 0) rfl dX4_push_4 rfl ?_
  refine fr_getR dX4_push_5 rfl fl_X4_15 k_o r_o_waiting ?_
  refine fr_alen dX4_push_8 rfl k_o_waiting (Or.inl rfl) ?_
  refine fr_icmp_ge (tgt := 32) dX4_push_9 (by decide) rfl (fun hc => ?_) (fun hc => ?_)
  · have h := h.1 hc
    exact fr_vret rfl dX4_push_32 h.1 h.2
  · have h := h.2 hc
    refine fr_aload_n (i := 0) (q := 0) rfl dX4_push_12 rfl ?_
    refine fr_getR dX4_push_13 rfl fl_X4_15 k_o r_o_waiting ?_
    refine fr_aload_n (i := 0) (q := 0) rfl dX4_push_16 rfl ?_
    refine fr_getI dX4_push_17 rfl fl_X4_18 k_o ?_
    refine fr_iload_n (i := 1) (q := 1) rfl dX4_push_20 rfl ?_
    obtain ⟨hz1, h⟩ := h
    refine fr_iast dX4_push_21 rfl k_o_waiting hz1 ?_
    refine fr_memI (fun I2 hI2 => ?_)
    have h := h I2 hI2
    refine fr_aload_n (i := 0) (q := 0) rfl dX4_push_22 rfl ?_
    refine fr_dup rfl dX4_push_23 rfl ?_
    refine fr_getI dX4_push_24 rfl fl_X4_18 k_o ?_
    refine fr_iconst (v := 1) (by decide) dX4_push_27 rfl ?_
    refine fr_iadd dX4_push_28 rfl ?_
    refine fr_putI dX4_push_29 rfl fp_X4_18 k_o ?_
    refine fr_memI (fun I3 hI3 => ?_)
    have h := h I3 hI3
    exact fr_vret rfl dX4_push_32 h.1 h.2
theorem cp_X4_pop {g : GE} {Z : Zs} {I : Nat → Nat → Int32} {L : Nat → Nat → Int64} {r : Option Value} {M' : Mem} {o : Nat} {o_waiting : Nat} (k_o : KM Z o 4) (r_o_waiting : Z.2.1 o 1 = some o_waiting) (k_o_waiting : KM Z o_waiting 13) (h : ((0 < (I o 2) → (∀ I1 : Nat → Nat → Int32, I1 = rw1 I o (upd (I o) 2 ((I o 2) - 1)) → (vp_in (I1 o 2) (Z.2.2.1 o_waiting) ∧ (r = some (.int (I1 o_waiting (I1 o 2).toNatClampNeg)) ∧ M' = (Z, I1, L))))) ∧ (¬ 0 < (I o 2) → (r = some (.int 0) ∧ M' = (Z, I, L))))) : Cl g 1 mu_X4_pop [rf g o] (Z, I, L) r M' := by
  refine cl_of (lv := [(0, rf g o)]) (by decide) (Nat.le_of_ble_eq_true rfl) rfl ?_
  refine fr_aload_n (i := 0) (q := 0) rfl dX4_pop_0 rfl ?_
  refine fr_getI dX4_pop_1 rfl fl_X4_18 k_o ?_
  refine fr_if_gt (tgt := 9) dX4_pop_4 (by decide) rfl (fun hc => ?_) (fun hc => ?_)
  · have h := h.1 hc
    refine fr_aload_n (i := 0) (q := 0) rfl dX4_pop_9 rfl ?_
    refine fr_dup rfl dX4_pop_10 rfl ?_
    refine fr_getI dX4_pop_11 rfl fl_X4_18 k_o ?_
    refine fr_iconst (v := 1) (by decide) dX4_pop_14 rfl ?_
    refine fr_isub dX4_pop_15 rfl ?_
    refine fr_putI dX4_pop_16 rfl fp_X4_18 k_o ?_
    refine fr_memI (fun I1 hI1 => ?_)
    have h := h I1 hI1
    refine fr_aload_n (i := 0) (q := 0) rfl dX4_pop_19 rfl ?_
    refine fr_getR dX4_pop_20 rfl fl_X4_15 k_o r_o_waiting ?_
    refine fr_aload_n (i := 0) (q := 0) rfl dX4_pop_23 rfl ?_
    refine fr_getI dX4_pop_24 rfl fl_X4_18 k_o ?_
    obtain ⟨hz2, h⟩ := h
    refine fr_iald dX4_pop_27 rfl k_o_waiting hz2 ?_
    exact fr_iret rfl dX4_pop_28 h.1 h.2
  · have h := h.2 hc
    refine fr_iconst (v := 0) (by decide) dX4_pop_7 rfl ?_
    exact fr_iret rfl dX4_pop_8 h.1 h.2
theorem cp_X4_join {g : GE} {Z : Zs} {I : Nat → Nat → Int32} {L : Nat → Nat → Int64} {r : Option Value} {M' : Mem} {x0 : Int32} {x1 : Int64} {x3 : Int64}  (h : ((x0 < 16 ∨ 30 < x0 → (r = some (.long 0) ∧ M' = (Z, I, L))) ∧ (x0 = 16 → (r = some (.long (x1 ||| x3)) ∧ M' = (Z, I, L))) ∧ (x0 = 17 → (r = some (.long (x1 &&& x3)) ∧ M' = (Z, I, L))) ∧ (x0 = 18 → (r = some (.long 0) ∧ M' = (Z, I, L))) ∧ (x0 = 19 → (r = some (.long 0) ∧ M' = (Z, I, L))) ∧ (x0 = 20 → (r = some (.long 0) ∧ M' = (Z, I, L))) ∧ (x0 = 21 → ((0 ≤ (lg_cmp x1 x3) → (r = some (.long 0) ∧ M' = (Z, I, L))) ∧ (¬ 0 ≤ (lg_cmp x1 x3) → (r = some (.long 1) ∧ M' = (Z, I, L))))) ∧ (x0 = 22 → ((0 < (lg_cmp x1 x3) → (r = some (.long 0) ∧ M' = (Z, I, L))) ∧ (¬ 0 < (lg_cmp x1 x3) → (r = some (.long 1) ∧ M' = (Z, I, L))))) ∧ (x0 = 23 → (((lg_cmp x1 x3) ≤ 0 → (r = some (.long 0) ∧ M' = (Z, I, L))) ∧ (¬ (lg_cmp x1 x3) ≤ 0 → (r = some (.long 1) ∧ M' = (Z, I, L))))) ∧ (x0 = 24 → (((lg_cmp x1 x3) < 0 → (r = some (.long 0) ∧ M' = (Z, I, L))) ∧ (¬ (lg_cmp x1 x3) < 0 → (r = some (.long 1) ∧ M' = (Z, I, L))))) ∧ (x0 = 25 → ((¬ (lg_cmp x1 x3) = 0 → (r = some (.long 0) ∧ M' = (Z, I, L))) ∧ ((lg_cmp x1 x3) = 0 → (r = some (.long 1) ∧ M' = (Z, I, L))))) ∧ (x0 = 26 → (((lg_cmp x1 x3) = 0 → (r = some (.long 0) ∧ M' = (Z, I, L))) ∧ (¬ (lg_cmp x1 x3) = 0 → (r = some (.long 1) ∧ M' = (Z, I, L))))) ∧ (x0 = 27 → (r = some (.long (x1 + x3)) ∧ M' = (Z, I, L))) ∧ (x0 = 28 → (r = some (.long (x1 - x3)) ∧ M' = (Z, I, L))) ∧ (x0 = 29 → (r = some (.long (x1 * x3)) ∧ M' = (Z, I, L))) ∧ (x0 = 30 → ((¬ (lg_cmp x3 0) = 0 → (¬ x3 = 0 ∧ (r = some (.long (x1 / x3)) ∧ M' = (Z, I, L)))) ∧ ((lg_cmp x3 0) = 0 → (r = some (.long 0) ∧ M' = (Z, I, L))))))) : Cl g 1 mu_X4_join [.int x0, .long x1, .long x3] (Z, I, L) r M' := by
  refine cl_of (lv := [(0, .int x0), (1, .long x1), (3, .long x3)]) (by decide) (Nat.le_of_ble_eq_true rfl) rfl ?_
  refine fr_iload_n (i := 0) (q := 0) rfl dX4_join_0 rfl ?_
  rcases sw_cases (x := x0) (lo := 16) (hi := 30) (k := 14) (by decide) (by decide) with hs | ⟨kk, hkk, hs⟩
  · have h := h.1 hs
    refine fr_tabD (n := 182) dX4_join_1 hs (by decide) (by decide) (by decide) ?_
    refine fr_lconst (v := 0) (by decide) dX4_join_182 rfl ?_
    exact fr_lret rfl dX4_join_183 h.1 h.2
  · have h := h.2
    match kk, hkk, hs with
    | 0, _, hs =>
      have hs : x0 = 16 := hs.trans (by decide)
      have h := h.1 hs
      refine fr_tabK (n := 174) (y := 16) hs dX4_join_1 (by decide) (by decide) rfl (by decide) ?_
      refine fr_lload_n (i := 1) (q := 1) rfl dX4_join_174 rfl ?_
      refine fr_lload_n (i := 3) (q := 2) rfl dX4_join_175 rfl ?_
      refine fr_lor dX4_join_176 rfl ?_
      exact fr_lret rfl dX4_join_177 h.1 h.2
    | 1, _, hs =>
      have hs : x0 = 17 := hs.trans (by decide)
      have h := h.2.1 hs
      refine fr_tabK (n := 178) (y := 17) hs dX4_join_1 (by decide) (by decide) rfl (by decide) ?_
      refine fr_lload_n (i := 1) (q := 1) rfl dX4_join_178 rfl ?_
      refine fr_lload_n (i := 3) (q := 2) rfl dX4_join_179 rfl ?_
      refine fr_land dX4_join_180 rfl ?_
      exact fr_lret rfl dX4_join_181 h.1 h.2
    | 2, _, hs =>
      have hs : x0 = 18 := hs.trans (by decide)
      have h := h.2.2.1 hs
      refine fr_tabK (n := 182) (y := 18) hs dX4_join_1 (by decide) (by decide) rfl (by decide) ?_
      refine fr_lconst (v := 0) (by decide) dX4_join_182 rfl ?_
      exact fr_lret rfl dX4_join_183 h.1 h.2
    | 3, _, hs =>
      have hs : x0 = 19 := hs.trans (by decide)
      have h := h.2.2.2.1 hs
      refine fr_tabK (n := 182) (y := 19) hs dX4_join_1 (by decide) (by decide) rfl (by decide) ?_
      refine fr_lconst (v := 0) (by decide) dX4_join_182 rfl ?_
      exact fr_lret rfl dX4_join_183 h.1 h.2
    | 4, _, hs =>
      have hs : x0 = 20 := hs.trans (by decide)
      have h := h.2.2.2.2.1 hs
      refine fr_tabK (n := 182) (y := 20) hs dX4_join_1 (by decide) (by decide) rfl (by decide) ?_
      refine fr_lconst (v := 0) (by decide) dX4_join_182 rfl ?_
      exact fr_lret rfl dX4_join_183 h.1 h.2
    | 5, _, hs =>
      have hs : x0 = 21 := hs.trans (by decide)
      have h := h.2.2.2.2.2.1 hs
      refine fr_tabK (n := 102) (y := 21) hs dX4_join_1 (by decide) (by decide) rfl (by decide) ?_
      refine fr_lload_n (i := 1) (q := 1) rfl dX4_join_102 rfl ?_
      refine fr_lload_n (i := 3) (q := 2) rfl dX4_join_103 rfl ?_
      refine fr_lcmp dX4_join_104 rfl ?_
      refine fr_if_ge (tgt := 112) dX4_join_105 (by decide) rfl (fun hc => ?_) (fun hc => ?_)
      · have h := h.1 hc
        refine fr_lconst (v := 0) (by decide) dX4_join_112 rfl ?_
        exact fr_lret rfl dX4_join_113 h.1 h.2
      · have h := h.2 hc
        refine fr_lconst (v := 1) (by decide) dX4_join_108 rfl ?_
        refine fr_goto (n := 113) dX4_join_109 (by decide) ?_
        exact fr_lret rfl dX4_join_113 h.1 h.2
    | 6, _, hs =>
      have hs : x0 = 22 := hs.trans (by decide)
      have h := h.2.2.2.2.2.2.1 hs
      refine fr_tabK (n := 114) (y := 22) hs dX4_join_1 (by decide) (by decide) rfl (by decide) ?_
      refine fr_lload_n (i := 1) (q := 1) rfl dX4_join_114 rfl ?_
      refine fr_lload_n (i := 3) (q := 2) rfl dX4_join_115 rfl ?_
      refine fr_lcmp dX4_join_116 rfl ?_
      refine fr_if_gt (tgt := 124) dX4_join_117 (by decide) rfl (fun hc => ?_) (fun hc => ?_)
      · have h := h.1 hc
        refine fr_lconst (v := 0) (by decide) dX4_join_124 rfl ?_
        exact fr_lret rfl dX4_join_125 h.1 h.2
      · have h := h.2 hc
        refine fr_lconst (v := 1) (by decide) dX4_join_120 rfl ?_
        refine fr_goto (n := 125) dX4_join_121 (by decide) ?_
        exact fr_lret rfl dX4_join_125 h.1 h.2
    | 7, _, hs =>
      have hs : x0 = 23 := hs.trans (by decide)
      have h := h.2.2.2.2.2.2.2.1 hs
      refine fr_tabK (n := 126) (y := 23) hs dX4_join_1 (by decide) (by decide) rfl (by decide) ?_
      refine fr_lload_n (i := 1) (q := 1) rfl dX4_join_126 rfl ?_
      refine fr_lload_n (i := 3) (q := 2) rfl dX4_join_127 rfl ?_
      refine fr_lcmp dX4_join_128 rfl ?_
      refine fr_if_le (tgt := 136) dX4_join_129 (by decide) rfl (fun hc => ?_) (fun hc => ?_)
      · have h := h.1 hc
        refine fr_lconst (v := 0) (by decide) dX4_join_136 rfl ?_
        exact fr_lret rfl dX4_join_137 h.1 h.2
      · have h := h.2 hc
        refine fr_lconst (v := 1) (by decide) dX4_join_132 rfl ?_
        refine fr_goto (n := 137) dX4_join_133 (by decide) ?_
        exact fr_lret rfl dX4_join_137 h.1 h.2
    | 8, _, hs =>
      have hs : x0 = 24 := hs.trans (by decide)
      have h := h.2.2.2.2.2.2.2.2.1 hs
      refine fr_tabK (n := 138) (y := 24) hs dX4_join_1 (by decide) (by decide) rfl (by decide) ?_
      refine fr_lload_n (i := 1) (q := 1) rfl dX4_join_138 rfl ?_
      refine fr_lload_n (i := 3) (q := 2) rfl dX4_join_139 rfl ?_
      refine fr_lcmp dX4_join_140 rfl ?_
      refine fr_if_lt (tgt := 148) dX4_join_141 (by decide) rfl (fun hc => ?_) (fun hc => ?_)
      · have h := h.1 hc
        refine fr_lconst (v := 0) (by decide) dX4_join_148 rfl ?_
        exact fr_lret rfl dX4_join_149 h.1 h.2
      · have h := h.2 hc
        refine fr_lconst (v := 1) (by decide) dX4_join_144 rfl ?_
        refine fr_goto (n := 149) dX4_join_145 (by decide) ?_
        exact fr_lret rfl dX4_join_149 h.1 h.2
    | 9, _, hs =>
      have hs : x0 = 25 := hs.trans (by decide)
      have h := h.2.2.2.2.2.2.2.2.2.1 hs
      refine fr_tabK (n := 150) (y := 25) hs dX4_join_1 (by decide) (by decide) rfl (by decide) ?_
      refine fr_lload_n (i := 1) (q := 1) rfl dX4_join_150 rfl ?_
      refine fr_lload_n (i := 3) (q := 2) rfl dX4_join_151 rfl ?_
      refine fr_lcmp dX4_join_152 rfl ?_
      refine fr_if_ne (tgt := 160) dX4_join_153 (by decide) rfl (fun hc => ?_) (fun hc => ?_)
      · have h := h.1 hc
        refine fr_lconst (v := 0) (by decide) dX4_join_160 rfl ?_
        exact fr_lret rfl dX4_join_161 h.1 h.2
      · have h := h.2 hc
        refine fr_lconst (v := 1) (by decide) dX4_join_156 rfl ?_
        refine fr_goto (n := 161) dX4_join_157 (by decide) ?_
        exact fr_lret rfl dX4_join_161 h.1 h.2
    | 10, _, hs =>
      have hs : x0 = 26 := hs.trans (by decide)
      have h := h.2.2.2.2.2.2.2.2.2.2.1 hs
      refine fr_tabK (n := 162) (y := 26) hs dX4_join_1 (by decide) (by decide) rfl (by decide) ?_
      refine fr_lload_n (i := 1) (q := 1) rfl dX4_join_162 rfl ?_
      refine fr_lload_n (i := 3) (q := 2) rfl dX4_join_163 rfl ?_
      refine fr_lcmp dX4_join_164 rfl ?_
      refine fr_if_eq (tgt := 172) dX4_join_165 (by decide) rfl (fun hc => ?_) (fun hc => ?_)
      · have h := h.1 hc
        refine fr_lconst (v := 0) (by decide) dX4_join_172 rfl ?_
        exact fr_lret rfl dX4_join_173 h.1 h.2
      · have h := h.2 hc
        refine fr_lconst (v := 1) (by decide) dX4_join_168 rfl ?_
        refine fr_goto (n := 173) dX4_join_169 (by decide) ?_
        exact fr_lret rfl dX4_join_173 h.1 h.2
    | 11, _, hs =>
      have hs : x0 = 27 := hs.trans (by decide)
      have h := h.2.2.2.2.2.2.2.2.2.2.2.1 hs
      refine fr_tabK (n := 76) (y := 27) hs dX4_join_1 (by decide) (by decide) rfl (by decide) ?_
      refine fr_lload_n (i := 1) (q := 1) rfl dX4_join_76 rfl ?_
      refine fr_lload_n (i := 3) (q := 2) rfl dX4_join_77 rfl ?_
      refine fr_ladd dX4_join_78 rfl ?_
      exact fr_lret rfl dX4_join_79 h.1 h.2
    | 12, _, hs =>
      have hs : x0 = 28 := hs.trans (by decide)
      have h := h.2.2.2.2.2.2.2.2.2.2.2.2.1 hs
      refine fr_tabK (n := 80) (y := 28) hs dX4_join_1 (by decide) (by decide) rfl (by decide) ?_
      refine fr_lload_n (i := 1) (q := 1) rfl dX4_join_80 rfl ?_
      refine fr_lload_n (i := 3) (q := 2) rfl dX4_join_81 rfl ?_
      refine fr_lsub dX4_join_82 rfl ?_
      exact fr_lret rfl dX4_join_83 h.1 h.2
    | 13, _, hs =>
      have hs : x0 = 29 := hs.trans (by decide)
      have h := h.2.2.2.2.2.2.2.2.2.2.2.2.2.1 hs
      refine fr_tabK (n := 84) (y := 29) hs dX4_join_1 (by decide) (by decide) rfl (by decide) ?_
      refine fr_lload_n (i := 1) (q := 1) rfl dX4_join_84 rfl ?_
      refine fr_lload_n (i := 3) (q := 2) rfl dX4_join_85 rfl ?_
      refine fr_lmul dX4_join_86 rfl ?_
      exact fr_lret rfl dX4_join_87 h.1 h.2
    | 14, _, hs =>
      have hs : x0 = 30 := hs.trans (by decide)
      have h := h.2.2.2.2.2.2.2.2.2.2.2.2.2.2 hs
      refine fr_tabK (n := 88) (y := 30) hs dX4_join_1 (by decide) (by decide) rfl (by decide) ?_
      refine fr_lload_n (i := 3) (q := 2) rfl dX4_join_88 rfl ?_
      refine fr_lconst (v := 0) (by decide) dX4_join_89 rfl ?_
      refine fr_lcmp dX4_join_90 rfl ?_
      refine fr_if_ne (tgt := 98) dX4_join_91 (by decide) rfl (fun hc => ?_) (fun hc => ?_)
      · have h := h.1 hc
        refine fr_lload_n (i := 1) (q := 1) rfl dX4_join_98 rfl ?_
        refine fr_lload_n (i := 3) (q := 2) rfl dX4_join_99 rfl ?_
        obtain ⟨hz1, h⟩ := h
        refine fr_ldiv hz1 dX4_join_100 rfl ?_
        exact fr_lret rfl dX4_join_101 h.1 h.2
      · have h := h.2 hc
        refine fr_lconst (v := 0) (by decide) dX4_join_94 rfl ?_
        refine fr_goto (n := 101) dX4_join_95 (by decide) ?_
        exact fr_lret rfl dX4_join_101 h.1 h.2
    | kk + 15, hkk, _ => exact absurd hkk (by omega)
theorem cp_X4_held {g : GE} {Z : Zs} {I : Nat → Nat → Int32} {L : Nat → Nat → Int64} {r : Option Value} {M' : Mem} {x0 : Int64}  (h : (r = some (.int ((if (if x0 < 1000000 then x0 else 1000000) < ((-1000000)) then ((-1000000)) else (if x0 < 1000000 then x0 else 1000000)).toInt32)) ∧ M' = (Z, I, L))) : Cl g 2 mu_X4_held [.long x0] (Z, I, L) r M' := by
  refine cl_of (lv := [(0, .long x0)]) (by decide) (Nat.le_of_ble_eq_true rfl) rfl ?_
  refine fr_ldc2 (v := (-1000000)) kc_X4_38 dX4_held_0 rfl ?_
  refine fr_ldc2 (v := 1000000) kc_X4_40 dX4_held_3 rfl ?_
  refine fr_lload_n (i := 0) (q := 0) rfl dX4_held_6 rfl ?_
  refine fr_mmin_long dX4_held_7 rfl ml_X4_42 w_mminL (Nat.le_of_ble_eq_true rfl) (Nat.le_of_ble_eq_true rfl) ?_
  refine fr_mmax_long dX4_held_10 rfl ml_X4_48 w_mmaxL (Nat.le_of_ble_eq_true rfl) (Nat.le_of_ble_eq_true rfl) ?_
  refine fr_l2i dX4_held_13 rfl ?_
  exact fr_iret rfl dX4_held_14 h.1 h.2
theorem cp_X11_isTap {g : GE} {Z : Zs} {I : Nat → Nat → Int32} {L : Nat → Nat → Int64} {r : Option Value} {M' : Mem} {x0 : Int32}  (h : ((x0 < 0 → (r = some (.int 0) ∧ M' = (Z, I, L))) ∧ (¬ x0 < 0 → ((4 ≤ x0 → (r = some (.int 0) ∧ M' = (Z, I, L))) ∧ (¬ 4 ≤ x0 → (r = some (.int 1) ∧ M' = (Z, I, L))))))) : Cl g 1 mu_X11_isTap [.int x0] (Z, I, L) r M' := by
  refine cl_of (lv := [(0, .int x0)]) (by decide) (Nat.le_of_ble_eq_true rfl) rfl ?_
  refine fr_iload_n (i := 0) (q := 0) rfl dX11_isTap_0 rfl ?_
  refine fr_if_lt (tgt := 13) dX11_isTap_1 (by decide) rfl (fun hc => ?_) (fun hc => ?_)
  · have h := h.1 hc
    refine fr_iconst (v := 0) (by decide) dX11_isTap_13 rfl ?_
    exact fr_zret (by decide) rfl dX11_isTap_14 h.1 h.2
  · have h := h.2 hc
    refine fr_iload_n (i := 0) (q := 0) rfl dX11_isTap_4 rfl ?_
    refine fr_iconst (v := 4) (by decide) dX11_isTap_5 rfl ?_
    refine fr_icmp_ge (tgt := 13) dX11_isTap_6 (by decide) rfl (fun hc => ?_) (fun hc => ?_)
    · have h := h.1 hc
      refine fr_iconst (v := 0) (by decide) dX11_isTap_13 rfl ?_
      exact fr_zret (by decide) rfl dX11_isTap_14 h.1 h.2
    · have h := h.2 hc
      refine fr_iconst (v := 1) (by decide) dX11_isTap_9 rfl ?_
      refine fr_goto (n := 14) dX11_isTap_10 (by decide) ?_
      exact fr_zret (by decide) rfl dX11_isTap_14 h.1 h.2
theorem cp_X11_poseOf {g : GE} {Z : Zs} {I : Nat → Nat → Int32} {L : Nat → Nat → Int64} {r : Option Value} {M' : Mem} {x0 : Int32}  (h : (r = some (.int (x0 - x0 / 200 * 200)) ∧ M' = (Z, I, L))) : Cl g 1 mu_X11_poseOf [.int x0] (Z, I, L) r M' := by
  refine cl_of (lv := [(0, .int x0)]) (by decide) (Nat.le_of_ble_eq_true rfl) rfl ?_
  refine fr_iload_n (i := 0) (q := 0) rfl dX11_poseOf_0 rfl ?_
  refine fr_sipush (v := 200) (by decide) dX11_poseOf_1 rfl ?_
  refine fr_irem (by decide) dX11_poseOf_4 rfl ?_
  exact fr_iret rfl dX11_poseOf_5 h.1 h.2
theorem cp_X11_hasBumped {g : GE} {Z : Zs} {I : Nat → Nat → Int32} {L : Nat → Nat → Int64} {r : Option Value} {M' : Mem} {x0 : Int32}  (h : ((x0 < 200 → (r = some (.int 0) ∧ M' = (Z, I, L))) ∧ (¬ x0 < 200 → ((400 ≤ x0 → (r = some (.int 0) ∧ M' = (Z, I, L))) ∧ (¬ 400 ≤ x0 → (r = some (.int 1) ∧ M' = (Z, I, L))))))) : Cl g 1 mu_X11_hasBumped [.int x0] (Z, I, L) r M' := by
  refine cl_of (lv := [(0, .int x0)]) (by decide) (Nat.le_of_ble_eq_true rfl) rfl ?_
  refine fr_iload_n (i := 0) (q := 0) rfl dX11_hasBumped_0 rfl ?_
  refine fr_sipush (v := 200) (by decide) dX11_hasBumped_1 rfl ?_
  refine fr_icmp_lt (tgt := 18) dX11_hasBumped_4 (by decide) rfl (fun hc => ?_) (fun hc => ?_)
  · have h := h.1 hc
    refine fr_iconst (v := 0) (by decide) dX11_hasBumped_18 rfl ?_
    exact fr_zret (by decide) rfl dX11_hasBumped_19 h.1 h.2
  · have h := h.2 hc
    refine fr_iload_n (i := 0) (q := 0) rfl dX11_hasBumped_7 rfl ?_
    refine fr_sipush (v := 400) (by decide) dX11_hasBumped_8 rfl ?_
    refine fr_icmp_ge (tgt := 18) dX11_hasBumped_11 (by decide) rfl (fun hc => ?_) (fun hc => ?_)
    · have h := h.1 hc
      refine fr_iconst (v := 0) (by decide) dX11_hasBumped_18 rfl ?_
      exact fr_zret (by decide) rfl dX11_hasBumped_19 h.1 h.2
    · have h := h.2 hc
      refine fr_iconst (v := 1) (by decide) dX11_hasBumped_14 rfl ?_
      refine fr_goto (n := 19) dX11_hasBumped_15 (by decide) ?_
      exact fr_zret (by decide) rfl dX11_hasBumped_19 h.1 h.2
abbrev Lp_J7_fill_d0a16_6 (g : GE) (d : Nat) (a0 : Nat) (u1 : Int64) (u3 : Int32) (u4 : Int32) (M : Mem) (r : Option Value) (M' : Mem) : Prop := Fr g d mu_J7_fill_d0a16 6 [(0, rf g a0), (1, .long u1), (3, .int u3), (4, .int u4)] [] M r M'
theorem cp_J7_fill_d0a16 {g : GE} {Z : Zs} {I : Nat → Nat → Int32} {L : Nat → Nat → Int64} {r : Option Value} {M' : Mem} {a0 : Nat} {x1 : Int64} (k_a0 : KM Z a0 14) (h : (∀ y1 : Int32, y1 = (nI (Z.2.2.1 a0)) → Lp_J7_fill_d0a16_6 g 1 a0 x1 0 y1 (Z, I, L) r M')) : Cl g 1 mu_J7_fill_d0a16 [rf g a0, .long x1] (Z, I, L) r M' := by
  refine cl_of (lv := [(0, rf g a0), (1, .long x1)]) (by decide) (Nat.le_of_ble_eq_true rfl) rfl ?_
  refine fr_iconst (v := 0) (by decide) dJ7_fill_d0a16_0 rfl ?_
  refine fr_istore_n (i := 3) (lv' := [(3, .int 0), (0, rf g a0), (1, .long x1)]) dJ7_fill_d0a16_1 rfl (by decide) rfl ?_
  refine fr_aload_n (i := 0) (q := 1) rfl dJ7_fill_d0a16_2 rfl ?_
  refine fr_alen dJ7_fill_d0a16_3 rfl k_a0 (Or.inr (Or.inl rfl)) ?_
  refine fr_topi (fun y1 hy1 => ?_)
  have h := h y1 hy1
  refine fr_istore (lv' := [(4, .int y1), (3, .int 0), (0, rf g a0), (1, .long x1)]) dJ7_fill_d0a16_4 rfl (by decide) rfl ?_
  exact fr_sub [2, 3, 1, 0] rfl h
theorem wp_J7_fill_d0a16_6 {g : GE} {Z : Zs} {I : Nat → Nat → Int32} {L : Nat → Nat → Int64} {r : Option Value} {M' : Mem} {a0 : Nat} {u1 : Int64} {u3 : Int32} {u4 : Int32} (k_a0 : KM Z a0 14) (h : ((u4 ≤ u3 → (r = none ∧ M' = (Z, I, L))) ∧ (¬ u4 ≤ u3 → (vp_in u3 (Z.2.2.1 a0) ∧ (∀ L2 : Nat → Nat → Int64, L2 = rw1 L a0 (vp_updL (L a0) u3.toNatClampNeg u1) → (∀ y3 : Int32, y3 = (u3 + 1) → Lp_J7_fill_d0a16_6 g 1 a0 u1 y3 u4 (Z, I, L2) r M')))))) : Lp_J7_fill_d0a16_6 g 1 a0 u1 u3 u4 (Z, I, L) r M' := by
  refine fr_iload_n (i := 3) (q := 2) rfl dJ7_fill_d0a16_6 rfl ?_
  refine fr_iload (q := 3) rfl dJ7_fill_d0a16_7 rfl ?_
  refine fr_icmp_ge (tgt := 22) dJ7_fill_d0a16_9 (by decide) rfl (fun hc => ?_) (fun hc => ?_)
  · have h := h.1 hc
    exact fr_vret rfl dJ7_fill_d0a16_22 h.1 h.2
  · have h := h.2 hc
    refine fr_aload_n (i := 0) (q := 0) rfl dJ7_fill_d0a16_12 rfl ?_
    refine fr_iload_n (i := 3) (q := 2) rfl dJ7_fill_d0a16_13 rfl ?_
    refine fr_lload_n (i := 1) (q := 1) rfl dJ7_fill_d0a16_14 rfl ?_
    obtain ⟨hz1, h⟩ := h
    refine fr_last dJ7_fill_d0a16_15 rfl k_a0 hz1 ?_
    refine fr_memL (fun L2 hL2 => ?_)
    have h := h L2 hL2
    obtain ⟨y3, hy3⟩ : ∃ y : Int32, y = u3 + 1 := ⟨_, rfl⟩
    have h := h y3 hy3
    refine fr_iinc (q := 2) (v := y3) (lv' := [(3, .int y3), (0, rf g a0), (1, .long u1), (4, .int u4)]) rfl (by rw [hy3]; rfl) dJ7_fill_d0a16_16 rfl (by decide) rfl ?_
    refine fr_goto (n := 6) dJ7_fill_d0a16_19 (by decide) ?_
    exact fr_sub [1, 2, 0, 3] rfl h
abbrev Lp_J7_fill_53178_5 (g : GE) (d : Nat) (a0 : Nat) (u1 : Int32) (u2 : Int32) (u3 : Int32) (M : Mem) (r : Option Value) (M' : Mem) : Prop := Fr g d mu_J7_fill_53178 5 [(0, rf g a0), (1, .int u1), (2, .int u2), (3, .int u3)] [] M r M'
theorem cp_J7_fill_53178 {g : GE} {Z : Zs} {I : Nat → Nat → Int32} {L : Nat → Nat → Int64} {r : Option Value} {M' : Mem} {a0 : Nat} {x1 : Int32} (k_a0 : KM Z a0 13) (h : (∀ y1 : Int32, y1 = (nI (Z.2.2.1 a0)) → Lp_J7_fill_53178_5 g 1 a0 x1 0 y1 (Z, I, L) r M')) : Cl g 1 mu_J7_fill_53178 [rf g a0, .int x1] (Z, I, L) r M' := by
  refine cl_of (lv := [(0, rf g a0), (1, .int x1)]) (by decide) (Nat.le_of_ble_eq_true rfl) rfl ?_
  refine fr_iconst (v := 0) (by decide) dJ7_fill_53178_0 rfl ?_
  refine fr_istore_n (i := 2) (lv' := [(2, .int 0), (0, rf g a0), (1, .int x1)]) dJ7_fill_53178_1 rfl (by decide) rfl ?_
  refine fr_aload_n (i := 0) (q := 1) rfl dJ7_fill_53178_2 rfl ?_
  refine fr_alen dJ7_fill_53178_3 rfl k_a0 (Or.inl rfl) ?_
  refine fr_topi (fun y1 hy1 => ?_)
  have h := h y1 hy1
  refine fr_istore_n (i := 3) (lv' := [(3, .int y1), (2, .int 0), (0, rf g a0), (1, .int x1)]) dJ7_fill_53178_4 rfl (by decide) rfl ?_
  exact fr_sub [2, 3, 1, 0] rfl h
theorem wp_J7_fill_53178_5 {g : GE} {Z : Zs} {I : Nat → Nat → Int32} {L : Nat → Nat → Int64} {r : Option Value} {M' : Mem} {a0 : Nat} {u1 : Int32} {u2 : Int32} {u3 : Int32} (k_a0 : KM Z a0 13) (h : ((u3 ≤ u2 → (r = none ∧ M' = (Z, I, L))) ∧ (¬ u3 ≤ u2 → (vp_in u2 (Z.2.2.1 a0) ∧ (∀ I2 : Nat → Nat → Int32, I2 = rw1 I a0 (upd (I a0) u2.toNatClampNeg u1) → (∀ y3 : Int32, y3 = (u2 + 1) → Lp_J7_fill_53178_5 g 1 a0 u1 y3 u3 (Z, I2, L) r M')))))) : Lp_J7_fill_53178_5 g 1 a0 u1 u2 u3 (Z, I, L) r M' := by
  refine fr_iload_n (i := 2) (q := 2) rfl dJ7_fill_53178_5 rfl ?_
  refine fr_iload_n (i := 3) (q := 3) rfl dJ7_fill_53178_6 rfl ?_
  refine fr_icmp_ge (tgt := 20) dJ7_fill_53178_7 (by decide) rfl (fun hc => ?_) (fun hc => ?_)
  · have h := h.1 hc
    exact fr_vret rfl dJ7_fill_53178_20 h.1 h.2
  · have h := h.2 hc
    refine fr_aload_n (i := 0) (q := 0) rfl dJ7_fill_53178_10 rfl ?_
    refine fr_iload_n (i := 2) (q := 2) rfl dJ7_fill_53178_11 rfl ?_
    refine fr_iload_n (i := 1) (q := 1) rfl dJ7_fill_53178_12 rfl ?_
    obtain ⟨hz1, h⟩ := h
    refine fr_iast dJ7_fill_53178_13 rfl k_a0 hz1 ?_
    refine fr_memI (fun I2 hI2 => ?_)
    have h := h I2 hI2
    obtain ⟨y3, hy3⟩ : ∃ y : Int32, y = u2 + 1 := ⟨_, rfl⟩
    have h := h y3 hy3
    refine fr_iinc (q := 2) (v := y3) (lv' := [(2, .int y3), (0, rf g a0), (1, .int u1), (3, .int u3)]) rfl (by rw [hy3]; rfl) dJ7_fill_53178_14 rfl (by decide) rfl ?_
    refine fr_goto (n := 5) dJ7_fill_53178_17 (by decide) ?_
    exact fr_sub [1, 2, 0, 3] rfl h
theorem cp_J6_bitCount_0f7a4 {g : GE} {Z : Zs} {I : Nat → Nat → Int32} {L : Nat → Nat → Int64} {r : Option Value} {M' : Mem} {x0 : Int32}  (h : (∀ y1 : Int32, y1 = (x0 - (((x0.toUInt32 >>> ((1 : Int32).toUInt32 &&& Int32.toUInt32 31)).toInt32) &&& 1431655765)) → (∀ y2 : Int32, y2 = ((y1 &&& 858993459) + (((y1.toUInt32 >>> ((2 : Int32).toUInt32 &&& Int32.toUInt32 31)).toInt32) &&& 858993459)) → (∀ y3 : Int32, y3 = ((y2 + ((y2.toUInt32 >>> ((4 : Int32).toUInt32 &&& Int32.toUInt32 31)).toInt32)) &&& 252645135) → (∀ y4 : Int32, y4 = (y3 + ((y3.toUInt32 >>> ((8 : Int32).toUInt32 &&& Int32.toUInt32 31)).toInt32)) → (∀ y5 : Int32, y5 = (y4 + ((y4.toUInt32 >>> ((16 : Int32).toUInt32 &&& Int32.toUInt32 31)).toInt32)) → (r = some (.int (y5 &&& 63)) ∧ M' = (Z, I, L)))))))) : Cl g 1 mu_J6_bitCount_0f7a4 [.int x0] (Z, I, L) r M' := by
  refine cl_of (lv := [(0, .int x0)]) (by decide) (Nat.le_of_ble_eq_true rfl) rfl ?_
  refine fr_iload_n (i := 0) (q := 0) rfl dJ6_bitCount_0f7a4_0 rfl ?_
  refine fr_iload_n (i := 0) (q := 0) rfl dJ6_bitCount_0f7a4_1 rfl ?_
  refine fr_iconst (v := 1) (by decide) dJ6_bitCount_0f7a4_2 rfl ?_
  refine fr_iushr dJ6_bitCount_0f7a4_3 rfl ?_
  refine fr_ldcw (v := 1431655765) kc_J6_265 dJ6_bitCount_0f7a4_4 rfl ?_
  refine fr_iand dJ6_bitCount_0f7a4_7 rfl ?_
  refine fr_isub dJ6_bitCount_0f7a4_8 rfl ?_
  refine fr_topi (fun y1 hy1 => ?_)
  have h := h y1 hy1
  refine fr_istore_n (i := 0) (lv' := [(0, .int y1)]) dJ6_bitCount_0f7a4_9 rfl (by decide) rfl ?_
  refine fr_iload_n (i := 0) (q := 0) rfl dJ6_bitCount_0f7a4_10 rfl ?_
  refine fr_ldcw (v := 858993459) kc_J6_266 dJ6_bitCount_0f7a4_11 rfl ?_
  refine fr_iand dJ6_bitCount_0f7a4_14 rfl ?_
  refine fr_iload_n (i := 0) (q := 0) rfl dJ6_bitCount_0f7a4_15 rfl ?_
  refine fr_iconst (v := 2) (by decide) dJ6_bitCount_0f7a4_16 rfl ?_
  refine fr_iushr dJ6_bitCount_0f7a4_17 rfl ?_
  refine fr_ldcw (v := 858993459) kc_J6_266 dJ6_bitCount_0f7a4_18 rfl ?_
  refine fr_iand dJ6_bitCount_0f7a4_21 rfl ?_
  refine fr_iadd dJ6_bitCount_0f7a4_22 rfl ?_
  refine fr_topi (fun y2 hy2 => ?_)
  have h := h y2 hy2
  refine fr_istore_n (i := 0) (lv' := [(0, .int y2)]) dJ6_bitCount_0f7a4_23 rfl (by decide) rfl ?_
  refine fr_iload_n (i := 0) (q := 0) rfl dJ6_bitCount_0f7a4_24 rfl ?_
  refine fr_iload_n (i := 0) (q := 0) rfl dJ6_bitCount_0f7a4_25 rfl ?_
  refine fr_iconst (v := 4) (by decide) dJ6_bitCount_0f7a4_26 rfl ?_
  refine fr_iushr dJ6_bitCount_0f7a4_27 rfl ?_
  refine fr_iadd dJ6_bitCount_0f7a4_28 rfl ?_
  refine fr_ldcw (v := 252645135) kc_J6_267 dJ6_bitCount_0f7a4_29 rfl ?_
  refine fr_iand dJ6_bitCount_0f7a4_32 rfl ?_
  refine fr_topi (fun y3 hy3 => ?_)
  have h := h y3 hy3
  refine fr_istore_n (i := 0) (lv' := [(0, .int y3)]) dJ6_bitCount_0f7a4_33 rfl (by decide) rfl ?_
  refine fr_iload_n (i := 0) (q := 0) rfl dJ6_bitCount_0f7a4_34 rfl ?_
  refine fr_iload_n (i := 0) (q := 0) rfl dJ6_bitCount_0f7a4_35 rfl ?_
  refine fr_bipush (v := 8) (by decide) dJ6_bitCount_0f7a4_36 rfl ?_
  refine fr_iushr dJ6_bitCount_0f7a4_38 rfl ?_
  refine fr_iadd dJ6_bitCount_0f7a4_39 rfl ?_
  refine fr_topi (fun y4 hy4 => ?_)
  have h := h y4 hy4
  refine fr_istore_n (i := 0) (lv' := [(0, .int y4)]) dJ6_bitCount_0f7a4_40 rfl (by decide) rfl ?_
  refine fr_iload_n (i := 0) (q := 0) rfl dJ6_bitCount_0f7a4_41 rfl ?_
  refine fr_iload_n (i := 0) (q := 0) rfl dJ6_bitCount_0f7a4_42 rfl ?_
  refine fr_bipush (v := 16) (by decide) dJ6_bitCount_0f7a4_43 rfl ?_
  refine fr_iushr dJ6_bitCount_0f7a4_45 rfl ?_
  refine fr_iadd dJ6_bitCount_0f7a4_46 rfl ?_
  refine fr_topi (fun y5 hy5 => ?_)
  have h := h y5 hy5
  refine fr_istore_n (i := 0) (lv' := [(0, .int y5)]) dJ6_bitCount_0f7a4_47 rfl (by decide) rfl ?_
  refine fr_iload_n (i := 0) (q := 0) rfl dJ6_bitCount_0f7a4_48 rfl ?_
  refine fr_bipush (v := 63) (by decide) dJ6_bitCount_0f7a4_49 rfl ?_
  refine fr_iand dJ6_bitCount_0f7a4_51 rfl ?_
  exact fr_iret rfl dJ6_bitCount_0f7a4_52 h.1 h.2
