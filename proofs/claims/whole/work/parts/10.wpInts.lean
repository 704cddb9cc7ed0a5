theorem cp_X2_size {g : GE} {Z : Zs} {I : Nat → Nat → Int32} {L : Nat → Nat → Int64} {r : Option Value} {M' : Mem} {o : Nat} (k_o : KM Z o 2) (h : (r = some (.int (I o 1)) ∧ M' = (Z, I, L))) : Cl g 1 mu_X2_size [rf g o] (Z, I, L) r M' := by
  refine cl_of (lv := [(0, rf g o)]) (by decide) (Nat.le_of_ble_eq_true rfl) rfl ?_
  refine fr_aload_n (i := 0) (q := 0) rfl dX2_size_0 rfl ?_
  refine fr_getI dX2_size_1 rfl fl_X2_19 k_o ?_
  exact fr_iret rfl dX2_size_4 h.1 h.2
theorem cp_X2_at {g : GE} {Z : Zs} {I : Nat → Nat → Int32} {L : Nat → Nat → Int64} {r : Option Value} {M' : Mem} {o : Nat} {x1 : Int32} {o_items : Nat} (k_o : KM Z o 2) (r_o_items : Z.2.1 o 0 = some o_items) (k_o_items : KM Z o_items 13) (h : ((x1 < 0 → (r = some (.int 0) ∧ M' = (Z, I, L))) ∧ (¬ x1 < 0 → (((I o 1) ≤ x1 → (r = some (.int 0) ∧ M' = (Z, I, L))) ∧ (¬ (I o 1) ≤ x1 → (vp_in x1 (Z.2.2.1 o_items) ∧ (r = some (.int (I o_items x1.toNatClampNeg)) ∧ M' = (Z, I, L)))))))) : Cl g 1 mu_X2_at [rf g o, .int x1] (Z, I, L) r M' := by
  refine cl_of (lv := [(0, rf g o), (1, .int x1)]) (by decide) (Nat.le_of_ble_eq_true rfl) rfl ?_
  refine fr_iload_n (i := 1) (q := 1) rfl dX2_at_0 rfl ?_
  refine fr_if_lt (tgt := 21) dX2_at_1 (by decide) rfl (fun hc => ?_) (fun hc => ?_)
  · have h := h.1 hc
    refine fr_iconst (v := 0) (by decide) dX2_at_21 rfl ?_
    exact fr_iret rfl dX2_at_22 h.1 h.2
  · have h := h.2 hc
    refine fr_iload_n (i := 1) (q := 1) rfl dX2_at_4 rfl ?_
    refine fr_aload_n (i := 0) (q := 0) rfl dX2_at_5 rfl ?_
    refine fr_getI dX2_at_6 rfl fl_X2_19 k_o ?_
    refine fr_icmp_ge (tgt := 21) dX2_at_9 (by decide) rfl (fun hc => ?_) (fun hc => ?_)
    · have h := h.1 hc
      refine fr_iconst (v := 0) (by decide) dX2_at_21 rfl ?_
      exact fr_iret rfl dX2_at_22 h.1 h.2
    · have h := h.2 hc
      refine fr_aload_n (i := 0) (q := 0) rfl dX2_at_12 rfl ?_
      refine fr_getR dX2_at_13 rfl fl_X2_13 k_o r_o_items ?_
      refine fr_iload_n (i := 1) (q := 1) rfl dX2_at_16 rfl ?_
      obtain ⟨hz1, h⟩ := h
      refine fr_iald dX2_at_17 rfl k_o_items hz1 ?_
      refine fr_goto (n := 22) dX2_at_18 (by decide) ?_
      exact fr_iret rfl dX2_at_22 h.1 h.2
theorem cp_X2_put {g : GE} {Z : Zs} {I : Nat → Nat → Int32} {L : Nat → Nat → Int64} {r : Option Value} {M' : Mem} {o : Nat} {x1 : Int32} {x2 : Int32} {o_items : Nat} (k_o : KM Z o 2) (r_o_items : Z.2.1 o 0 = some o_items) (k_o_items : KM Z o_items 13) (h : ((x1 < 0 → (r = none ∧ M' = (Z, I, L))) ∧ (¬ x1 < 0 → (((I o 1) ≤ x1 → (r = none ∧ M' = (Z, I, L))) ∧ (¬ (I o 1) ≤ x1 → (vp_in x1 (Z.2.2.1 o_items) ∧ (∀ I2 : Nat → Nat → Int32, I2 = rw1 I o_items (upd (I o_items) x1.toNatClampNeg x2) → (r = none ∧ M' = (Z, I2, L))))))))) : Cl g 1 mu_X2_put [rf g o, .int x1, .int x2] (Z, I, L) r M' := by
  refine cl_of (lv := [(0, rf g o), (1, .int x1), (2, .int x2)]) (by decide) (Nat.le_of_ble_eq_true rfl) rfl ?_
  refine fr_iload_n (i := 1) (q := 1) rfl dX2_put_0 rfl ?_
  refine fr_if_lt (tgt := 19) dX2_put_1 (by decide) rfl (fun hc => ?_) (fun hc => ?_)
  · have h := h.1 hc
    exact fr_vret rfl dX2_put_19 h.1 h.2
  · have h := h.2 hc
    refine fr_iload_n (i := 1) (q := 1) rfl dX2_put_4 rfl ?_
    refine fr_aload_n (i := 0) (q := 0) rfl dX2_put_5 rfl ?_
    refine fr_getI dX2_put_6 rfl fl_X2_19 k_o ?_
    refine fr_icmp_ge (tgt := 19) dX2_put_9 (by decide) rfl (fun hc => ?_) (fun hc => ?_)
    · have h := h.1 hc
      exact fr_vret rfl dX2_put_19 h.1 h.2
    · have h := h.2 hc
      refine fr_aload_n (i := 0) (q := 0) rfl dX2_put_12 rfl ?_
      refine fr_getR dX2_put_13 rfl fl_X2_13 k_o r_o_items ?_
      refine fr_iload_n (i := 1) (q := 1) rfl dX2_put_16 rfl ?_
      refine fr_iload_n (i := 2) (q := 2) rfl dX2_put_17 rfl ?_
      obtain ⟨hz1, h⟩ := h
      refine fr_iast dX2_put_18 rfl k_o_items hz1 ?_
      refine fr_memI (fun I2 hI2 => ?_)
      have h := h I2 hI2
      exact fr_vret rfl dX2_put_19 h.1 h.2
theorem cp_X2_add {g : GE} {Z : Zs} {I : Nat → Nat → Int32} {L : Nat → Nat → Int64} {r : Option Value} {M' : Mem} {o : Nat} {x1 : Int32} {o_items : Nat} (k_o : KM Z o 2) (r_o_items : Z.2.1 o 0 = some o_items) (k_o_items : KM Z o_items 13) (h : (((nI (Z.2.2.1 o_items)) ≤ (I o 1) → (r = none ∧ M' = (Z, I, L))) ∧ (¬ (nI (Z.2.2.1 o_items)) ≤ (I o 1) → (vp_in (I o 1) (Z.2.2.1 o_items) ∧ (∀ I2 : Nat → Nat → Int32, I2 = rw1 I o_items (upd (I o_items) (I o 1).toNatClampNeg x1) → (∀ I3 : Nat → Nat → Int32, I3 = rw1 I2 o (upd (I2 o) 1 ((I2 o 1) + 1)) → (r = none ∧ M' = (Z, I3, L)))))))) : Cl g 1 mu_X2_add [rf g o, .int x1] (Z, I, L) r M' := by
  refine cl_of (lv := [(0, rf g o), (1, .int x1)]) (by decide) (Nat.le_of_ble_eq_true rfl) rfl ?_
  refine fr_aload_n (i := 0) (q := 0) rfl dX2_add_0 rfl ?_
  refine fr_getI dX2_add_1 rfl fl_X2_19 k_o ?_
  refine fr_aload_n (i := 0) (q := 0) rfl dX2_add_4 rfl ?_
  refine fr_getR dX2_add_5 rfl fl_X2_13 k_o r_o_items ?_
  refine fr_alen dX2_add_8 rfl k_o_items (Or.inl rfl) ?_
  refine fr_icmp_ge (tgt := 32) dX2_add_9 (by decide) rfl (fun hc => ?_) (fun hc => ?_)
  · have h := h.1 hc
    exact fr_vret rfl dX2_add_32 h.1 h.2
  · have h := h.2 hc
    refine fr_aload_n (i := 0) (q := 0) rfl dX2_add_12 rfl ?_
    refine fr_getR dX2_add_13 rfl fl_X2_13 k_o r_o_items ?_
    refine fr_aload_n (i := 0) (q := 0) rfl dX2_add_16 rfl ?_
    refine fr_getI dX2_add_17 rfl fl_X2_19 k_o ?_
    refine fr_iload_n (i := 1) (q := 1) rfl dX2_add_20 rfl ?_
    obtain ⟨hz1, h⟩ := h
    refine fr_iast dX2_add_21 rfl k_o_items hz1 ?_
    refine fr_memI (fun I2 hI2 => ?_)
    have h := h I2 hI2
    refine fr_aload_n (i := 0) (q := 0) rfl dX2_add_22 rfl ?_
    refine fr_dup rfl dX2_add_23 rfl ?_
    refine fr_getI dX2_add_24 rfl fl_X2_19 k_o ?_
    refine fr_iconst (v := 1) (by decide) dX2_add_27 rfl ?_
    refine fr_iadd dX2_add_28 rfl ?_
    refine fr_putI dX2_add_29 rfl fp_X2_19 k_o ?_
    refine fr_memI (fun I3 hI3 => ?_)
    have h := h I3 hI3
    exact fr_vret rfl dX2_add_32 h.1 h.2
theorem cp_X2_cutTo {g : GE} {Z : Zs} {I : Nat → Nat → Int32} {L : Nat → Nat → Int64} {r : Option Value} {M' : Mem} {o : Nat} {x1 : Int32} (k_o : KM Z o 2) (h : (∀ I1 : Nat → Nat → Int32, I1 = rw1 I o (upd (I o) 1 (if 0 < (if x1 < (I o 1) then x1 else (I o 1)) then (if x1 < (I o 1) then x1 else (I o 1)) else 0)) → (r = none ∧ M' = (Z, I1, L)))) : Cl g 2 mu_X2_cutTo [rf g o, .int x1] (Z, I, L) r M' := by
  refine cl_of (lv := [(0, rf g o), (1, .int x1)]) (by decide) (Nat.le_of_ble_eq_true rfl) rfl ?_
  refine fr_aload_n (i := 0) (q := 0) rfl dX2_cutTo_0 rfl ?_
  refine fr_iconst (v := 0) (by decide) dX2_cutTo_1 rfl ?_
  refine fr_aload_n (i := 0) (q := 0) rfl dX2_cutTo_2 rfl ?_
  refine fr_getI dX2_cutTo_3 rfl fl_X2_19 k_o ?_
  refine fr_iload_n (i := 1) (q := 1) rfl dX2_cutTo_6 rfl ?_
  refine fr_mmin dX2_cutTo_7 rfl ml_X2_23 w_mmin (Nat.le_of_ble_eq_true rfl) (Nat.le_of_ble_eq_true rfl) ?_
  refine fr_mmax dX2_cutTo_10 rfl ml_X2_7 w_mmax (Nat.le_of_ble_eq_true rfl) (Nat.le_of_ble_eq_true rfl) ?_
  refine fr_putI dX2_cutTo_13 rfl fp_X2_19 k_o ?_
  refine fr_memI (fun I1 hI1 => ?_)
  have h := h I1 hI1
  exact fr_vret rfl dX2_cutTo_16 h.1 h.2
theorem cp_X2_dropFirst {g : GE} {Z : Zs} {I : Nat → Nat → Int32} {L : Nat → Nat → Int64} {r : Option Value} {M' : Mem} {o : Nat} {o_items : Nat} (k_o : KM Z o 2) (r_o_items : Z.2.1 o 0 = some o_items) (k_o_items : KM Z o_items 13) (h : (((I o 1) ≤ 0 → (r = none ∧ M' = (Z, I, L))) ∧ (¬ (I o 1) ≤ 0 → (¬ 1 < 0 ∧ ¬ 0 < 0 ∧ ¬ ((I o 1) - 1) < 0 ∧ (1 : Int32).toNatClampNeg + ((I o 1) - 1).toNatClampNeg ≤ Z.2.2.1 o_items ∧ (0 : Int32).toNatClampNeg + ((I o 1) - 1).toNatClampNeg ≤ Z.2.2.1 o_items ∧ (∀ I2 : Nat → Nat → Int32, I2 = rw1 I o_items (va_cpy (I o_items) (I o_items) (1 : Int32).toNatClampNeg (0 : Int32).toNatClampNeg ((I o 1) - 1).toNatClampNeg) → (∀ I3 : Nat → Nat → Int32, I3 = rw1 I2 o (upd (I2 o) 1 ((I2 o 1) - 1)) → (r = none ∧ M' = (Z, I3, L)))))))) : Cl g 2 mu_X2_dropFirst [rf g o] (Z, I, L) r M' := by
  refine cl_of (lv := [(0, rf g o)]) (by decide) (Nat.le_of_ble_eq_true rfl) rfl ?_
  refine fr_aload_n (i := 0) (q := 0) rfl dX2_dropFirst_0 rfl ?_
  refine fr_getI dX2_dropFirst_1 rfl fl_X2_19 k_o ?_
  refine fr_if_le (tgt := 36) dX2_dropFirst_4 (by decide) rfl (fun hc => ?_) (fun hc => ?_)
  · have h := h.1 hc
    exact fr_vret rfl dX2_dropFirst_36 h.1 h.2
  · have h := h.2 hc
    refine fr_aload_n (i := 0) (q := 0) rfl dX2_dropFirst_7 rfl ?_
    refine fr_getR dX2_dropFirst_8 rfl fl_X2_13 k_o r_o_items ?_
    refine fr_iconst (v := 1) (by decide) dX2_dropFirst_11 rfl ?_
    refine fr_aload_n (i := 0) (q := 0) rfl dX2_dropFirst_12 rfl ?_
    refine fr_getR dX2_dropFirst_13 rfl fl_X2_13 k_o r_o_items ?_
    refine fr_iconst (v := 0) (by decide) dX2_dropFirst_16 rfl ?_
    refine fr_aload_n (i := 0) (q := 0) rfl dX2_dropFirst_17 rfl ?_
    refine fr_getI dX2_dropFirst_18 rfl fl_X2_19 k_o ?_
    refine fr_iconst (v := 1) (by decide) dX2_dropFirst_21 rfl ?_
    refine fr_isub dX2_dropFirst_22 rfl ?_
    obtain ⟨hz11, hz12, hz13, hz14, hz15, h⟩ := h
    refine fr_copyI dX2_dropFirst_23 rfl ml_X2_26 w_copy (Nat.le_of_ble_eq_true rfl) (Nat.le_of_ble_eq_true rfl) k_o_items k_o_items hz11 hz12 hz13 hz14 hz15 ?_
    refine fr_memI (fun I2 hI2 => ?_)
    have h := h I2 hI2
    refine fr_aload_n (i := 0) (q := 0) rfl dX2_dropFirst_26 rfl ?_
    refine fr_dup rfl dX2_dropFirst_27 rfl ?_
    refine fr_getI dX2_dropFirst_28 rfl fl_X2_19 k_o ?_
    refine fr_iconst (v := 1) (by decide) dX2_dropFirst_31 rfl ?_
    refine fr_isub dX2_dropFirst_32 rfl ?_
    refine fr_putI dX2_dropFirst_33 rfl fp_X2_19 k_o ?_
    refine fr_memI (fun I3 hI3 => ?_)
    have h := h I3 hI3
    exact fr_vret rfl dX2_dropFirst_36 h.1 h.2
theorem cp_X2_copyFrom {g : GE} {Z : Zs} {I : Nat → Nat → Int32} {L : Nat → Nat → Int64} {r : Option Value} {M' : Mem} {o : Nat} {a1 : Nat} {o_items : Nat} {a1_items : Nat} (k_o : KM Z o 2) (k_a1 : KM Z a1 2) (r_o_items : Z.2.1 o 0 = some o_items) (k_o_items : KM Z o_items 13) (r_a1_items : Z.2.1 a1 0 = some a1_items) (k_a1_items : KM Z a1_items 13) (h : (∀ I1 : Nat → Nat → Int32, I1 = rw1 I o (upd (I o) 1 (if (nI (Z.2.2.1 o_items)) < (I a1 1) then (nI (Z.2.2.1 o_items)) else (I a1 1))) → (¬ 0 < 0 ∧ ¬ 0 < 0 ∧ ¬ (I1 o 1) < 0 ∧ (0 : Int32).toNatClampNeg + (I1 o 1).toNatClampNeg ≤ Z.2.2.1 a1_items ∧ (0 : Int32).toNatClampNeg + (I1 o 1).toNatClampNeg ≤ Z.2.2.1 o_items ∧ (∀ I3 : Nat → Nat → Int32, I3 = rw1 I1 o_items (va_cpy (I1 a1_items) (I1 o_items) (0 : Int32).toNatClampNeg (0 : Int32).toNatClampNeg (I1 o 1).toNatClampNeg) → (r = none ∧ M' = (Z, I3, L)))))) : Cl g 2 mu_X2_copyFrom [rf g o, rf g a1] (Z, I, L) r M' := by
  refine cl_of (lv := [(0, rf g o), (1, rf g a1)]) (by decide) (Nat.le_of_ble_eq_true rfl) rfl ?_
  refine fr_aload_n (i := 0) (q := 0) rfl dX2_copyFrom_0 rfl ?_
  refine fr_aload_n (i := 1) (q := 1) rfl dX2_copyFrom_1 rfl ?_
  refine fr_getI dX2_copyFrom_2 rfl fl_X2_19 k_a1 ?_
  refine fr_aload_n (i := 0) (q := 0) rfl dX2_copyFrom_5 rfl ?_
  refine fr_getR dX2_copyFrom_6 rfl fl_X2_13 k_o r_o_items ?_
  refine fr_alen dX2_copyFrom_9 rfl k_o_items (Or.inl rfl) ?_
  refine fr_mmin dX2_copyFrom_10 rfl ml_X2_23 w_mmin (Nat.le_of_ble_eq_true rfl) (Nat.le_of_ble_eq_true rfl) ?_
  refine fr_putI dX2_copyFrom_13 rfl fp_X2_19 k_o ?_
  refine fr_memI (fun I1 hI1 => ?_)
  have h := h I1 hI1
  refine fr_aload_n (i := 1) (q := 1) rfl dX2_copyFrom_16 rfl ?_
  refine fr_getR dX2_copyFrom_17 rfl fl_X2_13 k_a1 r_a1_items ?_
  refine fr_iconst (v := 0) (by decide) dX2_copyFrom_20 rfl ?_
  refine fr_aload_n (i := 0) (q := 0) rfl dX2_copyFrom_21 rfl ?_
  refine fr_getR dX2_copyFrom_22 rfl fl_X2_13 k_o r_o_items ?_
  refine fr_iconst (v := 0) (by decide) dX2_copyFrom_25 rfl ?_
  refine fr_aload_n (i := 0) (q := 0) rfl dX2_copyFrom_26 rfl ?_
  refine fr_getI dX2_copyFrom_27 rfl fl_X2_19 k_o ?_
  obtain ⟨hz21, hz22, hz23, hz24, hz25, h⟩ := h
  refine fr_copyI dX2_copyFrom_30 rfl ml_X2_26 w_copy (Nat.le_of_ble_eq_true rfl) (Nat.le_of_ble_eq_true rfl) k_a1_items k_o_items hz21 hz22 hz23 hz24 hz25 ?_
  refine fr_memI (fun I3 hI3 => ?_)
  have h := h I3 hI3
  exact fr_vret rfl dX2_copyFrom_33 h.1 h.2
theorem cp_X11_isTap {g : GE} {Z : Zs} {I : Nat → Nat → Int32} {L : Nat → Nat → Int64} {r : Option Value} {M' : Mem} {x0 : Int32}  (h : ((x0 < 0 → (r = some (.int 0) ∧ M' = (Z, I, L))) ∧ (¬ x0 < 0 → ((4 ≤ x0 → (r = some (.int 0) ∧ M' = (Z, I, L))) ∧ (¬ 4 ≤ x0 → (r = some (.int 1) ∧ M' = (Z, I, L))))))) : Cl g 1 mu_X11_isTap [.int x0] (Z, I, L) r M' := by
  refine cl_of (lv := [(0, .int x0)]) (by decide) (Nat.le_of_ble_eq_true rfl) rfl ?_
  refine fr_iload_n (i := 0) (q := 0) rfl dX11_isTap_0 rfl ?_
  refine fr_if_lt (tgt := 13) dX11_isTap_1 (by decide) rfl (fun hc => ?_) (fun hc => ?_)
  · have h := h.1 hc
    refine fr_iconst (v := 0) (by decide) dX11_isTap_13 rfl ?_
    exact fr_zret (by decide) rfl dX11_isTap_14 h.1 h.2
  · have h := h.2 hc
    refine fr_iload_n (i := 0) (q := 0) rfl dX11_isTap_4 rfl ?_
    refine fr_iconst (v := 4) (by decide) dX11_isTap_5 rfl ?_
    refine fr_icmp_ge (tgt := 13) dX11_isTap_6 (by decide) rfl (fun hc => ?_) (fun hc => ?_)
    · have h := h.1 hc
      refine fr_iconst (v := 0) (by decide) dX11_isTap_13 rfl ?_
      exact fr_zret (by decide) rfl dX11_isTap_14 h.1 h.2
    · have h := h.2 hc
      refine fr_iconst (v := 1) (by decide) dX11_isTap_9 rfl ?_
      refine fr_goto (n := 14) dX11_isTap_10 (by decide) ?_
      exact fr_zret (by decide) rfl dX11_isTap_14 h.1 h.2
theorem cp_X11_poseOf {g : GE} {Z : Zs} {I : Nat → Nat → Int32} {L : Nat → Nat → Int64} {r : Option Value} {M' : Mem} {x0 : Int32}  (h : (r = some (.int (x0 - x0 / 200 * 200)) ∧ M' = (Z, I, L))) : Cl g 1 mu_X11_poseOf [.int x0] (Z, I, L) r M' := by
  refine cl_of (lv := [(0, .int x0)]) (by decide) (Nat.le_of_ble_eq_true rfl) rfl ?_
  refine fr_iload_n (i := 0) (q := 0) rfl dX11_poseOf_0 rfl ?_
  refine fr_sipush (v := 200) (by decide) dX11_poseOf_1 rfl ?_
  refine fr_irem (by decide) dX11_poseOf_4 rfl ?_
  exact fr_iret rfl dX11_poseOf_5 h.1 h.2
theorem cp_X11_hasBumped {g : GE} {Z : Zs} {I : Nat → Nat → Int32} {L : Nat → Nat → Int64} {r : Option Value} {M' : Mem} {x0 : Int32}  (h : ((x0 < 200 → (r = some (.int 0) ∧ M' = (Z, I, L))) ∧ (¬ x0 < 200 → ((400 ≤ x0 → (r = some (.int 0) ∧ M' = (Z, I, L))) ∧ (¬ 400 ≤ x0 → (r = some (.int 1) ∧ M' = (Z, I, L))))))) : Cl g 1 mu_X11_hasBumped [.int x0] (Z, I, L) r M' := by
  refine cl_of (lv := [(0, .int x0)]) (by decide) (Nat.le_of_ble_eq_true rfl) rfl ?_
  refine fr_iload_n (i := 0) (q := 0) rfl dX11_hasBumped_0 rfl ?_
  refine fr_sipush (v := 200) (by decide) dX11_hasBumped_1 rfl ?_
  refine fr_icmp_lt (tgt := 18) dX11_hasBumped_4 (by decide) rfl (fun hc => ?_) (fun hc => ?_)
  · have h := h.1 hc
    refine fr_iconst (v := 0) (by decide) dX11_hasBumped_18 rfl ?_
    exact fr_zret (by decide) rfl dX11_hasBumped_19 h.1 h.2
  · have h := h.2 hc
    refine fr_iload_n (i := 0) (q := 0) rfl dX11_hasBumped_7 rfl ?_
    refine fr_sipush (v := 400) (by decide) dX11_hasBumped_8 rfl ?_
    refine fr_icmp_ge (tgt := 18) dX11_hasBumped_11 (by decide) rfl (fun hc => ?_) (fun hc => ?_)
    · have h := h.1 hc
      refine fr_iconst (v := 0) (by decide) dX11_hasBumped_18 rfl ?_
      exact fr_zret (by decide) rfl dX11_hasBumped_19 h.1 h.2
    · have h := h.2 hc
      refine fr_iconst (v := 1) (by decide) dX11_hasBumped_14 rfl ?_
      refine fr_goto (n := 19) dX11_hasBumped_15 (by decide) ?_
      exact fr_zret (by decide) rfl dX11_hasBumped_19 h.1 h.2
theorem cp_X4_name {g : GE} {Z : Zs} {I : Nat → Nat → Int32} {L : Nat → Nat → Int64} {r : Option Value} {M' : Mem} {o : Nat} {x1 : Int32} {x2 : Int32} {o_names : Nat} (k_o : KM Z o 4) (r_o_names : Z.2.1 o 0 = some o_names) (k_o_names : KM Z o_names 13) (h : ((x1 < 0 → (r = none ∧ M' = (Z, I, L))) ∧ (¬ x1 < 0 → ((11 ≤ x1 → (r = none ∧ M' = (Z, I, L))) ∧ (¬ 11 ≤ x1 → (vp_in x1 (Z.2.2.1 o_names) ∧ (∀ I2 : Nat → Nat → Int32, I2 = rw1 I o_names (upd (I o_names) x1.toNatClampNeg x2) → (r = none ∧ M' = (Z, I2, L))))))))) : Cl g 1 mu_X4_name [rf g o, .int x1, .int x2] (Z, I, L) r M' := by
  refine cl_of (lv := [(0, rf g o), (1, .int x1), (2, .int x2)]) (by decide) (Nat.le_of_ble_eq_true rfl) rfl ?_
  refine fr_iload_n (i := 1) (q := 1) rfl dX4_name_0 rfl ?_
  refine fr_if_lt (tgt := 17) dX4_name_1 (by decide) rfl (fun hc => ?_) (fun hc => ?_)
  · have h := h.1 hc
    exact fr_vret rfl dX4_name_17 h.1 h.2
  · have h := h.2 hc
    refine fr_iload_n (i := 1) (q := 1) rfl dX4_name_4 rfl ?_
    refine fr_bipush (v := 11) (by decide) dX4_name_5 rfl ?_
    refine fr_icmp_ge (tgt := 17) dX4_name_7 (by decide) rfl (fun hc => ?_) (fun hc => ?_)
    · have h := h.1 hc
      exact fr_vret rfl dX4_name_17 h.1 h.2
    · have h := h.2 hc
      refine fr_aload_n (i := 0) (q := 0) rfl dX4_name_10 rfl ?_
      refine fr_getR dX4_name_11 rfl fl_X4_9 k_o r_o_names ?_
      refine fr_iload_n (i := 1) (q := 1) rfl dX4_name_14 rfl ?_
      refine fr_iload_n (i := 2) (q := 2) rfl dX4_name_15 rfl ?_
      obtain ⟨hz1, h⟩ := h
      refine fr_iast dX4_name_16 rfl k_o_names hz1 ?_
      refine fr_memI (fun I2 hI2 => ?_)
      have h := h I2 hI2
      exact fr_vret rfl dX4_name_17 h.1 h.2
theorem cp_X4_push {g : GE} {Z : Zs} {I : Nat → Nat → Int32} {L : Nat → Nat → Int64} {r : Option Value} {M' : Mem} {o : Nat} {x1 : Int32} {o_waiting : Nat} (k_o : KM Z o 4) (r_o_waiting : Z.2.1 o 1 = some o_waiting) (k_o_waiting : KM Z o_waiting 13) (h : (((nI (Z.2.2.1 o_waiting)) ≤ (I o 2) → (r = none ∧ M' = (Z, I, L))) ∧ (¬ (nI (Z.2.2.1 o_waiting)) ≤ (I o 2) → (vp_in (I o 2) (Z.2.2.1 o_waiting) ∧ (∀ I2 : Nat → Nat → Int32, I2 = rw1 I o_waiting (upd (I o_waiting) (I o 2).toNatClampNeg x1) → (∀ I3 : Nat → Nat → Int32, I3 = rw1 I2 o (upd (I2 o) 2 ((I2 o 2) + 1)) → (r = none ∧ M' = (Z, I3, L)))))))) : Cl g 1 mu_X4_push [rf g o, .int x1] (Z, I, L) r M' := by
  refine cl_of (lv := [(0, rf g o), (1, .int x1)]) (by decide) (Nat.le_of_ble_eq_true rfl) rfl ?_
  refine fr_aload_n (i := 0) (q := 0) rfl dX4_push_0 rfl ?_
  refine fr_getI dX4_push_1 rfl fl_X4_18 k_o ?_
  refine fr_aload_n (i := 0) (q := 0) rfl dX4_push_4 rfl ?_
  refine fr_getR dX4_push_5 rfl fl_X4_15 k_o r_o_waiting ?_
  refine fr_alen dX4_push_8 rfl k_o_waiting (Or.inl rfl) ?_
  refine fr_icmp_ge (tgt := 32) dX4_push_9 (by decide) rfl (fun hc => ?_) (fun hc => ?_)
  · have h := h.1 hc
    exact fr_vret rfl dX4_push_32 h.1 h.2
  · have h := h.2 hc
    refine fr_aload_n (i := 0) (q := 0) rfl dX4_push_12 rfl ?_
    refine fr_getR dX4_push_13 rfl fl_X4_15 k_o r_o_waiting ?_
    refine fr_aload_n (i := 0) (q := 0) rfl dX4_push_16 rfl ?_
    refine fr_getI dX4_push_17 rfl fl_X4_18 k_o ?_
    refine fr_iload_n (i := 1) (q := 1) rfl dX4_push_20 rfl ?_
    obtain ⟨hz1, h⟩ := h
    refine fr_iast dX4_push_21 rfl k_o_waiting hz1 ?_
    refine fr_memI (fun I2 hI2 => ?_)
    have h := h I2 hI2
    refine fr_aload_n (i := 0) (q := 0) rfl dX4_push_22 rfl ?_
    refine fr_dup rfl dX4_push_23 rfl ?_
    refine fr_getI dX4_push_24 rfl fl_X4_18 k_o ?_
    refine fr_iconst (v := 1) (by decide) dX4_push_27 rfl ?_
    refine fr_iadd dX4_push_28 rfl ?_
    refine fr_putI dX4_push_29 rfl fp_X4_18 k_o ?_
    refine fr_memI (fun I3 hI3 => ?_)
    have h := h I3 hI3
    exact fr_vret rfl dX4_push_32 h.1 h.2
theorem cp_X4_pop {g : GE} {Z : Zs} {I : Nat → Nat → Int32} {L : Nat → Nat → Int64} {r : Option Value} {M' : Mem} {o : Nat} {o_waiting : Nat} (k_o : KM Z o 4) (r_o_waiting : Z.2.1 o 1 = some o_waiting) (k_o_waiting : KM Z o_waiting 13) (h : ((0 < (I o 2) → (∀ I1 : Nat → Nat → Int32, I1 = rw1 I o (upd (I o) 2 ((I o 2) - 1)) → (vp_in (I1 o 2) (Z.2.2.1 o_waiting) ∧ (r = some (.int (I1 o_waiting (I1 o 2).toNatClampNeg)) ∧ M' = (Z, I1, L))))) ∧ (¬ 0 < (I o 2) → (r = some (.int 0) ∧ M' = (Z, I, L))))) : Cl g 1 mu_X4_pop [rf g o] (Z, I, L) r M' := by
  refine cl_of (lv := [(0, rf g o)]) (by decide) (Nat.le_of_ble_eq_true rfl) rfl ?_
  refine fr_aload_n (i := 0) (q := 0) rfl dX4_pop_0 rfl ?_
  refine fr_getI dX4_pop_1 rfl fl_X4_18 k_o ?_
  refine fr_if_gt (tgt := 9) dX4_pop_4 (by decide) rfl (fun hc => ?_) (fun hc => ?_)
  · have h := h.1 hc
    refine fr_aload_n (i := 0) (q := 0) rfl dX4_pop_9 rfl ?_
    refine fr_dup rfl dX4_pop_10 rfl ?_
    refine fr_getI dX4_pop_11 rfl fl_X4_18 k_o ?_
    refine fr_iconst (v := 1) (by decide) dX4_pop_14 rfl ?_
    refine fr_isub dX4_pop_15 rfl ?_
    refine fr_putI dX4_pop_16 rfl fp_X4_18 k_o ?_
    refine fr_memI (fun I1 hI1 => ?_)
    have h := h I1 hI1
    refine fr_aload_n (i := 0) (q := 0) rfl dX4_pop_19 rfl ?_
    refine fr_getR dX4_pop_20 rfl fl_X4_15 k_o r_o_waiting ?_
    refine fr_aload_n (i := 0) (q := 0) rfl dX4_pop_23 rfl ?_
    refine fr_getI dX4_pop_24 rfl fl_X4_18 k_o ?_
    obtain ⟨hz2, h⟩ := h
    refine fr_iald dX4_pop_27 rfl k_o_waiting hz2 ?_
    exact fr_iret rfl dX4_pop_28 h.1 h.2
  · have h := h.2 hc
    refine fr_iconst (v := 0) (by decide) dX4_pop_7 rfl ?_
    exact fr_iret rfl dX4_pop_8 h.1 h.2
theorem cp_X4_join {g : GE} {Z : Zs} {I : Nat → Nat → Int32} {L : Nat → Nat → Int64} {r : Option Value} {M' : Mem} {x0 : Int32} {x1 : Int64} {x3 : Int64}  (h : ((x0 < 16 ∨ 30 < x0 → (r = some (.long 0) ∧ M' = (Z, I, L))) ∧ (x0 = 16 → (r = some (.long (x1 ||| x3)) ∧ M' = (Z, I, L))) ∧ (x0 = 17 → (r = some (.long (x1 &&& x3)) ∧ M' = (Z, I, L))) ∧ (x0 = 18 → (r = some (.long 0) ∧ M' = (Z, I, L))) ∧ (x0 = 19 → (r = some (.long 0) ∧ M' = (Z, I, L))) ∧ (x0 = 20 → (r = some (.long 0) ∧ M' = (Z, I, L))) ∧ (x0 = 21 → ((0 ≤ (lg_cmp x1 x3) → (r = some (.long 0) ∧ M' = (Z, I, L))) ∧ (¬ 0 ≤ (lg_cmp x1 x3) → (r = some (.long 1) ∧ M' = (Z, I, L))))) ∧ (x0 = 22 → ((0 < (lg_cmp x1 x3) → (r = some (.long 0) ∧ M' = (Z, I, L))) ∧ (¬ 0 < (lg_cmp x1 x3) → (r = some (.long 1) ∧ M' = (Z, I, L))))) ∧ (x0 = 23 → (((lg_cmp x1 x3) ≤ 0 → (r = some (.long 0) ∧ M' = (Z, I, L))) ∧ (¬ (lg_cmp x1 x3) ≤ 0 → (r = some (.long 1) ∧ M' = (Z, I, L))))) ∧ (x0 = 24 → (((lg_cmp x1 x3) < 0 → (r = some (.long 0) ∧ M' = (Z, I, L))) ∧ (¬ (lg_cmp x1 x3) < 0 → (r = some (.long 1) ∧ M' = (Z, I, L))))) ∧ (x0 = 25 → ((¬ (lg_cmp x1 x3) = 0 → (r = some (.long 0) ∧ M' = (Z, I, L))) ∧ ((lg_cmp x1 x3) = 0 → (r = some (.long 1) ∧ M' = (Z, I, L))))) ∧ (x0 = 26 → (((lg_cmp x1 x3) = 0 → (r = some (.long 0) ∧ M' = (Z, I, L))) ∧ (¬ (lg_cmp x1 x3) = 0 → (r = some (.long 1) ∧ M' = (Z, I, L))))) ∧ (x0 = 27 → (r = some (.long (x1 + x3)) ∧ M' = (Z, I, L))) ∧ (x0 = 28 → (r = some (.long (x1 - x3)) ∧ M' = (Z, I, L))) ∧ (x0 = 29 → (r = some (.long (x1 * x3)) ∧ M' = (Z, I, L))) ∧ (x0 = 30 → ((¬ (lg_cmp x3 0) = 0 → (¬ x3 = 0 ∧ (r = some (.long (x1 / x3)) ∧ M' = (Z, I, L)))) ∧ ((lg_cmp x3 0) = 0 → (r = some (.long 0) ∧ M' = (Z, I, L))))))) : Cl g 1 mu_X4_join [.int x0, .long x1, .long x3] (Z, I, L) r M' := by
  refine cl_of (lv := [(0, .int x0), (1, .long x1), (3, .long x3)]) (by decide) (Nat.le_of_ble_eq_true rfl) rfl ?_
  refine fr_iload_n (i := 0) (q := 0) rfl dX4_join_0 rfl ?_
  rcases sw_cases (x := x0) (lo := 16) (hi := 30) (k := 14) (by decide) (by decide) with hs | ⟨kk, hkk, hs⟩
  · have h := h.1 hs
    refine fr_tabD (n := 182) dX4_join_1 hs (by decide) (by decide) (by decide) ?_
    refine fr_lconst (v := 0) (by decide) dX4_join_182 rfl ?_
    exact fr_lret rfl dX4_join_183 h.1 h.2
  · have h := h.2
    match kk, hkk, hs with
    | 0, _, hs =>
      have hs : x0 = 16 := hs.trans (by decide)
      have h := h.1 hs
      refine fr_tabK (n := 174) (y := 16) hs dX4_join_1 (by decide) (by decide) rfl (by decide) ?_
      refine fr_lload_n (i := 1) (q := 1) rfl dX4_join_174 rfl ?_
      refine fr_lload_n (i := 3) (q := 2) rfl dX4_join_175 rfl ?_
      refine fr_lor dX4_join_176 rfl ?_
      exact fr_lret rfl dX4_join_177 h.1 h.2
    | 1, _, hs =>
      have hs : x0 = 17 := hs.trans (by decide)
      have h := h.2.1 hs
      refine fr_tabK (n := 178) (y := 17) hs dX4_join_1 (by decide) (by decide) rfl (by decide) ?_
      refine fr_lload_n (i := 1) (q := 1) rfl dX4_join_178 rfl ?_
      refine fr_lload_n (i := 3) (q := 2) rfl dX4_join_179 rfl ?_
      refine fr_land dX4_join_180 rfl ?_
      exact fr_lret rfl dX4_join_181 h.1 h.2
    | 2, _, hs =>
      have hs : x0 = 18 := hs.trans (by decide)
      have h := h.2.2.1 hs
      refine fr_tabK (n := 182) (y := 18) hs dX4_join_1 (by decide) (by decide) rfl (by decide) ?_
      refine fr_lconst (v := 0) (by decide) dX4_join_182 rfl ?_
      exact fr_lret rfl dX4_join_183 h.1 h.2
    | 3, _, hs =>
      have hs : x0 = 19 := hs.trans (by decide)
      have h := h.2.2.2.1 hs
      refine fr_tabK (n := 182) (y := 19) hs dX4_join_1 (by decide) (by decide) rfl (by decide) ?_
      refine fr_lconst (v := 0) (by decide) dX4_join_182 rfl ?_
      exact fr_lret rfl dX4_join_183 h.1 h.2
    | 4, _, hs =>
      have hs : x0 = 20 := hs.trans (by decide)
      have h := h.2.2.2.2.1 hs
      refine fr_tabK (n := 182) (y := 20) hs dX4_join_1 (by decide) (by decide) rfl (by decide) ?_
      refine fr_lconst (v := 0) (by decide) dX4_join_182 rfl ?_
      exact fr_lret rfl dX4_join_183 h.1 h.2
    | 5, _, hs =>
      have hs : x0 = 21 := hs.trans (by decide)
      have h := h.2.2.2.2.2.1 hs
      refine fr_tabK (n := 102) (y := 21) hs dX4_join_1 (by decide) (by decide) rfl (by decide) ?_
      refine fr_lload_n (i := 1) (q := 1) rfl dX4_join_102 rfl ?_
      refine fr_lload_n (i := 3) (q := 2) rfl dX4_join_103 rfl ?_
      refine fr_lcmp dX4_join_104 rfl ?_
      refine fr_if_ge (tgt := 112) dX4_join_105 (by decide) rfl (fun hc => ?_) (fun hc => ?_)
      · have h := h.1 hc
        refine fr_lconst (v := 0) (by decide) dX4_join_112 rfl ?_
        exact fr_lret rfl dX4_join_113 h.1 h.2
      · have h := h.2 hc
        refine fr_lconst (v := 1) (by decide) dX4_join_108 rfl ?_
        refine fr_goto (n := 113) dX4_join_109 (by decide) ?_
        exact fr_lret rfl dX4_join_113 h.1 h.2
    | 6, _, hs =>
      have hs : x0 = 22 := hs.trans (by decide)
      have h := h.2.2.2.2.2.2.1 hs
      refine fr_tabK (n := 114) (y := 22) hs dX4_join_1 (by decide) (by decide) rfl (by decide) ?_
      refine fr_lload_n (i := 1) (q := 1) rfl dX4_join_114 rfl ?_
      refine fr_lload_n (i := 3) (q := 2) rfl dX4_join_115 rfl ?_
      refine fr_lcmp dX4_join_116 rfl ?_
      refine fr_if_gt (tgt := 124) dX4_join_117 (by decide) rfl (fun hc => ?_) (fun hc => ?_)
      · have h := h.1 hc
        refine fr_lconst (v := 0) (by decide) dX4_join_124 rfl ?_
        exact fr_lret rfl dX4_join_125 h.1 h.2
      · have h := h.2 hc
        refine fr_lconst (v := 1) (by decide) dX4_join_120 rfl ?_
        refine fr_goto (n := 125) dX4_join_121 (by decide) ?_
        exact fr_lret rfl dX4_join_125 h.1 h.2
    | 7, _, hs =>
      have hs : x0 = 23 := hs.trans (by decide)
      have h := h.2.2.2.2.2.2.2.1 hs
      refine fr_tabK (n := 126) (y := 23) hs dX4_join_1 (by decide) (by decide) rfl (by decide) ?_
      refine fr_lload_n (i := 1) (q := 1) rfl dX4_join_126 rfl ?_
      refine fr_lload_n (i := 3) (q := 2) rfl dX4_join_127 rfl ?_
      refine fr_lcmp dX4_join_128 rfl ?_
      refine fr_if_le (tgt := 136) dX4_join_129 (by decide) rfl (fun hc => ?_) (fun hc => ?_)
      · have h := h.1 hc
        refine fr_lconst (v := 0) (by decide) dX4_join_136 rfl ?_
        exact fr_lret rfl dX4_join_137 h.1 h.2
      · have h := h.2 hc
        refine fr_lconst (v := 1) (by decide) dX4_join_132 rfl ?_
        refine fr_goto (n := 137) dX4_join_133 (by decide) ?_
        exact fr_lret rfl dX4_join_137 h.1 h.2
    | 8, _, hs =>
      have hs : x0 = 24 := hs.trans (by decide)
      have h := h.2.2.2.2.2.2.2.2.1 hs
      refine fr_tabK (n := 138) (y := 24) hs dX4_join_1 (by decide) (by decide) rfl (by decide) ?_
      refine fr_lload_n (i := 1) (q := 1) rfl dX4_join_138 rfl ?_
      refine fr_lload_n (i := 3) (q := 2) rfl dX4_join_139 rfl ?_
      refine fr_lcmp dX4_join_140 rfl ?_
      refine fr_if_lt (tgt := 148) dX4_join_141 (by decide) rfl (fun hc => ?_) (fun hc => ?_)
      · have h := h.1 hc
        refine fr_lconst (v := 0) (by decide) dX4_join_148 rfl ?_
        exact fr_lret rfl dX4_join_149 h.1 h.2
      · have h := h.2 hc
        refine fr_lconst (v := 1) (by decide) dX4_join_144 rfl ?_
        refine fr_goto (n := 149) dX4_join_145 (by decide) ?_
        exact fr_lret rfl dX4_join_149 h.1 h.2
    | 9, _, hs =>
      have hs : x0 = 25 := hs.trans (by decide)
      have h := h.2.2.2.2.2.2.2.2.2.1 hs
      refine fr_tabK (n := 150) (y := 25) hs dX4_join_1 (by decide) (by decide) rfl (by decide) ?_
      refine fr_lload_n (i := 1) (q := 1) rfl dX4_join_150 rfl ?_
      refine fr_lload_n (i := 3) (q := 2) rfl dX4_join_151 rfl ?_
      refine fr_lcmp dX4_join_152 rfl ?_
      refine fr_if_ne (tgt := 160) dX4_join_153 (by decide) rfl (fun hc => ?_) (fun hc => ?_)
      · have h := h.1 hc
        refine fr_lconst (v := 0) (by decide) dX4_join_160 rfl ?_
        exact fr_lret rfl dX4_join_161 h.1 h.2
      · have h := h.2 hc
        refine fr_lconst (v := 1) (by decide) dX4_join_156 rfl ?_
        refine fr_goto (n := 161) dX4_join_157 (by decide) ?_
        exact fr_lret rfl dX4_join_161 h.1 h.2
    | 10, _, hs =>
      have hs : x0 = 26 := hs.trans (by decide)
      have h := h.2.2.2.2.2.2.2.2.2.2.1 hs
      refine fr_tabK (n := 162) (y := 26) hs dX4_join_1 (by decide) (by decide) rfl (by decide) ?_
      refine fr_lload_n (i := 1) (q := 1) rfl dX4_join_162 rfl ?_
      refine fr_lload_n (i := 3) (q := 2) rfl dX4_join_163 rfl ?_
      refine fr_lcmp dX4_join_164 rfl ?_
      refine fr_if_eq (tgt := 172) dX4_join_165 (by decide) rfl (fun hc => ?_) (fun hc => ?_)
      · have h := h.1 hc
        refine fr_lconst (v := 0) (by decide) dX4_join_172 rfl ?_
        exact fr_lret rfl dX4_join_173 h.1 h.2
      · have h := h.2 hc
        refine fr_lconst (v := 1) (by decide) dX4_join_168 rfl ?_
        refine fr_goto (n := 173) dX4_join_169 (by decide) ?_
        exact fr_lret rfl dX4_join_173 h.1 h.2
    | 11, _, hs =>
      have hs : x0 = 27 := hs.trans (by decide)
      have h := h.2.2.2.2.2.2.2.2.2.2.2.1 hs
      refine fr_tabK (n := 76) (y := 27) hs dX4_join_1 (by decide) (by decide) rfl (by decide) ?_
      refine fr_lload_n (i := 1) (q := 1) rfl dX4_join_76 rfl ?_
      refine fr_lload_n (i := 3) (q := 2) rfl dX4_join_77 rfl ?_
      refine fr_ladd dX4_join_78 rfl ?_
      exact fr_lret rfl dX4_join_79 h.1 h.2
    | 12, _, hs =>
      have hs : x0 = 28 := hs.trans (by decide)
      have h := h.2.2.2.2.2.2.2.2.2.2.2.2.1 hs
      refine fr_tabK (n := 80) (y := 28) hs dX4_join_1 (by decide) (by decide) rfl (by decide) ?_
      refine fr_lload_n (i := 1) (q := 1) rfl dX4_join_80 rfl ?_
      refine fr_lload_n (i := 3) (q := 2) rfl dX4_join_81 rfl ?_
      refine fr_lsub dX4_join_82 rfl ?_
      exact fr_lret rfl dX4_join_83 h.1 h.2
    | 13, _, hs =>
      have hs : x0 = 29 := hs.trans (by decide)
      have h := h.2.2.2.2.2.2.2.2.2.2.2.2.2.1 hs
      refine fr_tabK (n := 84) (y := 29) hs dX4_join_1 (by decide) (by decide) rfl (by decide) ?_
      refine fr_lload_n (i := 1) (q := 1) rfl dX4_join_84 rfl ?_
      refine fr_lload_n (i := 3) (q := 2) rfl dX4_join_85 rfl ?_
      refine fr_lmul dX4_join_86 rfl ?_
      exact fr_lret rfl dX4_join_87 h.1 h.2
    | 14, _, hs =>
      have hs : x0 = 30 := hs.trans (by decide)
      have h := h.2.2.2.2.2.2.2.2.2.2.2.2.2.2 hs
      refine fr_tabK (n := 88) (y := 30) hs dX4_join_1 (by decide) (by decide) rfl (by decide) ?_
      refine fr_lload_n (i := 3) (q := 2) rfl dX4_join_88 rfl ?_
      refine fr_lconst (v := 0) (by decide) dX4_join_89 rfl ?_
      refine fr_lcmp dX4_join_90 rfl ?_
      refine fr_if_ne (tgt := 98) dX4_join_91 (by decide) rfl (fun hc => ?_) (fun hc => ?_)
      · have h := h.1 hc
        refine fr_lload_n (i := 1) (q := 1) rfl dX4_join_98 rfl ?_
        refine fr_lload_n (i := 3) (q := 2) rfl dX4_join_99 rfl ?_
        obtain ⟨hz1, h⟩ := h
        refine fr_ldiv hz1 dX4_join_100 rfl ?_
        exact fr_lret rfl dX4_join_101 h.1 h.2
      · have h := h.2 hc
        refine fr_lconst (v := 0) (by decide) dX4_join_94 rfl ?_
        refine fr_goto (n := 101) dX4_join_95 (by decide) ?_
        exact fr_lret rfl dX4_join_101 h.1 h.2
    | kk + 15, hkk, _ => exact absurd hkk (by omega)
theorem cp_X4_held {g : GE} {Z : Zs} {I : Nat → Nat → Int32} {L : Nat → Nat → Int64} {r : Option Value} {M' : Mem} {x0 : Int64}  (h : (r = some (.int ((if (if x0 < 1000000 then x0 else 1000000) < ((-1000000)) then ((-1000000)) else (if x0 < 1000000 then x0 else 1000000)).toInt32)) ∧ M' = (Z, I, L))) : Cl g 2 mu_X4_held [.long x0] (Z, I, L) r M' := by
  refine cl_of (lv := [(0, .long x0)]) (by decide) (Nat.le_of_ble_eq_true rfl) rfl ?_
  refine fr_ldc2 (v := (-1000000)) kc_X4_38 dX4_held_0 rfl ?_
  refine fr_ldc2 (v := 1000000) kc_X4_40 dX4_held_3 rfl ?_
  refine fr_lload_n (i := 0) (q := 0) rfl dX4_held_6 rfl ?_
  refine fr_mmin_long dX4_held_7 rfl ml_X4_42 w_mminL (Nat.le_of_ble_eq_true rfl) (Nat.le_of_ble_eq_true rfl) ?_
  refine fr_mmax_long dX4_held_10 rfl ml_X4_48 w_mmaxL (Nat.le_of_ble_eq_true rfl) (Nat.le_of_ble_eq_true rfl) ?_
  refine fr_l2i dX4_held_13 rfl ?_
  exact fr_iret rfl dX4_held_14 h.1 h.2
