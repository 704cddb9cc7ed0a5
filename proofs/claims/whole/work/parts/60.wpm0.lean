theorem KM.nw (M : Mem) (t n : Nat) : KM (nw M t n).1 (mx M) t := ⟨Nat.lt_succ_self _, rw1_s _ _ _⟩
theorem cp_X2_init {g : GE} {M : Mem} {r : Option Value} {M' : Mem} {o : Nat} {x1 : Int32} (k_o : KM M.1 o 2) (h : (¬ (if 0 < x1 then x1 else 0) < 0 ∧ (if 0 < x1 then x1 else 0).toNatClampNeg ≤ 60000 ∧ (∀ M2 : Mem, M2 = nw M 13 ((if 0 < x1 then x1 else 0).toNatClampNeg) → (∀ M5 : Mem, M5 = sR M2 o (va_up (mR M2 o) 0 (some (mx M))) → (r = none ∧ M' = M5))))) : Cl g 2 mu_X2_init [rf g o, .int x1] M r M' := by
  refine cl_of (lv := [(0, rf g o), (1, .int x1)]) (by decide) (Nat.le_of_ble_eq_true rfl) rfl ?_
  refine fr_aload_n (i := 0) (q := 0) rfl dX2_init_0 rfl ?_
  refine fr_obj dX2_init_1 rfl ⟨ml_X2_1, wo_init.1, wo_init.2⟩ (Nat.le_of_ble_eq_true rfl) (Nat.le_of_ble_eq_true rfl) ?_
  refine fr_aload_n (i := 0) (q := 0) rfl dX2_init_4 rfl ?_
  refine fr_iconst (v := 0) (by decide) dX2_init_5 rfl ?_
  refine fr_iload_n (i := 1) (q := 1) rfl dX2_init_6 rfl ?_
  refine fr_mmax dX2_init_7 rfl ml_X2_7 w_mmax (Nat.le_of_ble_eq_true rfl) (Nat.le_of_ble_eq_true rfl) ?_
  obtain ⟨hz1, hz1b, h⟩ := h
  refine fr_newI dX2_init_10 rfl ac_int hz1 hz1b ?_
  refine fr_mem (fun M2 hM2 => ?_)
  have h := h M2 hM2
  have k3 : KM M2.1 o 2 := by rw [hM2]; exact KM.ext k_o (Ext.nw _ _ _)
  have k4 : KM M2.1 (mx M) 13 := by rw [hM2]; exact KM.nw _ _ _
  refine fr_putFA rfl dX2_init_12 rfl fp_X2_13 k3 ?_
  refine fr_mem (fun M5 hM5 => ?_)
  have h := h M5 hM5
  have k6 : KM M5.1 o 2 := by rw [hM5]; exact k3
  have k7 : KM M5.1 (mx M) 13 := by rw [hM5]; exact k4
  exact fr_vret rfl dX2_init_15 h.1 h.2
theorem cp_X9_init {g : GE} {M : Mem} {r : Option Value} {M' : Mem} {o : Nat} (k_o : KM M.1 o 9) (h : (∀ M1 : Mem, M1 = nw M 2 2 → (∃ (M4 : Mem), Cl g 2 mu_X2_init [rf g (mx M), .int 301] M1 none M4 ∧ (∀ M8 : Mem, M8 = sR M4 o (va_up (mR M4 o) 0 (some (mx M))) → (∀ M11 : Mem, M11 = nw M8 2 2 → (∃ (M15 : Mem), Cl g 2 mu_X2_init [rf g (mx M8), .int 301] M11 none M15 ∧ (∀ M20 : Mem, M20 = sR M15 o (va_up (mR M15 o) 1 (some (mx M8))) → (∀ M24 : Mem, M24 = nw M20 2 2 → (∃ (M29 : Mem), Cl g 2 mu_X2_init [rf g (mx M20), .int 301] M24 none M29 ∧ (∀ M35 : Mem, M35 = sR M29 o (va_up (mR M29 o) 2 (some (mx M20))) → (r = none ∧ M' = M35))))))))))) : Cl g 3 mu_X9_init [rf g o] M r M' := by
  refine cl_of (lv := [(0, rf g o)]) (by decide) (Nat.le_of_ble_eq_true rfl) rfl ?_
  refine fr_aload_n (i := 0) (q := 0) rfl dX9_init_0 rfl ?_
  refine fr_obj dX9_init_1 rfl ⟨ml_X9_3, wo_init.1, wo_init.2⟩ (Nat.le_of_ble_eq_true rfl) (Nat.le_of_ble_eq_true rfl) ?_
  refine fr_aload_n (i := 0) (q := 0) rfl dX9_init_4 rfl ?_
  refine fr_new dX9_init_5 rfl nl_X9_9 ?_
  refine fr_mem (fun M1 hM1 => ?_)
  have h := h M1 hM1
  have k2 : KM M1.1 o 9 := by rw [hM1]; exact KM.ext k_o (Ext.nw _ _ _)
  have k3 : KM M1.1 (mx M) 2 := by rw [hM1]; exact KM.nw _ _ _
  refine fr_dup rfl dX9_init_8 rfl ?_
  refine fr_sipush (v := 301) (by decide) dX9_init_9 rfl ?_
  obtain ⟨M4, hc5, h⟩ := h
  refine fr_callI (ν := mu_X2_init) (As := [.int 301]) (st := [rf g (mx M), rf g o]) (M1 := M4) rfl rfl dX9_init_12 rfl ml_X9_11 mo_X2_init mn_X2_init (Nat.le_of_ble_eq_true rfl) rfl rfl (Nat.le_of_ble_eq_true rfl) hc5 ?_
  have k6 : KM M4.1 o 9 := KM.ext k2 hc5.1
  have k7 : KM M4.1 (mx M) 2 := KM.ext k3 hc5.1
  refine fr_putFR rfl dX9_init_15 rfl fp_X9_14 k6 ?_
  refine fr_mem (fun M8 hM8 => ?_)
  have h := h M8 hM8
  have k9 : KM M8.1 o 9 := by rw [hM8]; exact k6
  have k10 : KM M8.1 (mx M) 2 := by rw [hM8]; exact k7
  refine fr_aload_n (i := 0) (q := 0) rfl dX9_init_18 rfl ?_
  refine fr_new dX9_init_19 rfl nl_X9_9 ?_
  refine fr_mem (fun M11 hM11 => ?_)
  have h := h M11 hM11
  have k12 : KM M11.1 o 9 := by rw [hM11]; exact KM.ext k9 (Ext.nw _ _ _)
  have k13 : KM M11.1 (mx M) 2 := by rw [hM11]; exact KM.ext k10 (Ext.nw _ _ _)
  have k14 : KM M11.1 (mx M8) 2 := by rw [hM11]; exact KM.nw _ _ _
  refine fr_dup rfl dX9_init_22 rfl ?_
  refine fr_sipush (v := 301) (by decide) dX9_init_23 rfl ?_
  obtain ⟨M15, hc16, h⟩ := h
  refine fr_callI (ν := mu_X2_init) (As := [.int 301]) (st := [rf g (mx M8), rf g o]) (M1 := M15) rfl rfl dX9_init_26 rfl ml_X9_11 mo_X2_init mn_X2_init (Nat.le_of_ble_eq_true rfl) rfl rfl (Nat.le_of_ble_eq_true rfl) hc16 ?_
  have k17 : KM M15.1 o 9 := KM.ext k12 hc16.1
  have k18 : KM M15.1 (mx M) 2 := KM.ext k13 hc16.1
  have k19 : KM M15.1 (mx M8) 2 := KM.ext k14 hc16.1
  refine fr_putFR rfl dX9_init_29 rfl fp_X9_20 k17 ?_
  refine fr_mem (fun M20 hM20 => ?_)
  have h := h M20 hM20
  have k21 : KM M20.1 o 9 := by rw [hM20]; exact k17
  have k22 : KM M20.1 (mx M) 2 := by rw [hM20]; exact k18
  have k23 : KM M20.1 (mx M8) 2 := by rw [hM20]; exact k19
  refine fr_aload_n (i := 0) (q := 0) rfl dX9_init_32 rfl ?_
  refine fr_new dX9_init_33 rfl nl_X9_9 ?_
  refine fr_mem (fun M24 hM24 => ?_)
  have h := h M24 hM24
  have k25 : KM M24.1 o 9 := by rw [hM24]; exact KM.ext k21 (Ext.nw _ _ _)
  have k26 : KM M24.1 (mx M) 2 := by rw [hM24]; exact KM.ext k22 (Ext.nw _ _ _)
  have k27 : KM M24.1 (mx M8) 2 := by rw [hM24]; exact KM.ext k23 (Ext.nw _ _ _)
  have k28 : KM M24.1 (mx M20) 2 := by rw [hM24]; exact KM.nw _ _ _
  refine fr_dup rfl dX9_init_36 rfl ?_
  refine fr_sipush (v := 301) (by decide) dX9_init_37 rfl ?_
  obtain ⟨M29, hc30, h⟩ := h
  refine fr_callI (ν := mu_X2_init) (As := [.int 301]) (st := [rf g (mx M20), rf g o]) (M1 := M29) rfl rfl dX9_init_40 rfl ml_X9_11 mo_X2_init mn_X2_init (Nat.le_of_ble_eq_true rfl) rfl rfl (Nat.le_of_ble_eq_true rfl) hc30 ?_
  have k31 : KM M29.1 o 9 := KM.ext k25 hc30.1
  have k32 : KM M29.1 (mx M) 2 := KM.ext k26 hc30.1
  have k33 : KM M29.1 (mx M8) 2 := KM.ext k27 hc30.1
  have k34 : KM M29.1 (mx M20) 2 := KM.ext k28 hc30.1
  refine fr_putFR rfl dX9_init_43 rfl fp_X9_23 k31 ?_
  refine fr_mem (fun M35 hM35 => ?_)
  have h := h M35 hM35
  have k36 : KM M35.1 o 9 := by rw [hM35]; exact k31
  have k37 : KM M35.1 (mx M) 2 := by rw [hM35]; exact k32
  have k38 : KM M35.1 (mx M8) 2 := by rw [hM35]; exact k33
  have k39 : KM M35.1 (mx M20) 2 := by rw [hM35]; exact k34
  exact fr_vret rfl dX9_init_46 h.1 h.2
theorem cp_X5_init {g : GE} {M : Mem} {r : Option Value} {M' : Mem} {o : Nat} (k_o : KM M.1 o 5) (h : (∀ M1 : Mem, M1 = nw M 9 3 → (∃ (M4 : Mem), Cl g 3 mu_X9_init [rf g (mx M)] M1 none M4 ∧ (∀ M8 : Mem, M8 = sR M4 o (va_up (mR M4 o) 0 (some (mx M))) → (∀ M12 : Mem, M12 = nw M8 13 ((602 : Int32).toNatClampNeg) → (∀ M16 : Mem, M16 = sR M12 o (va_up (mR M12 o) 1 (some (mx M8))) → (∀ M21 : Mem, M21 = nw M16 13 ((3 : Int32).toNatClampNeg) → (∀ M26 : Mem, M26 = sR M21 o (va_up (mR M21 o) 2 (some (mx M16))) → (r = none ∧ M' = M26))))))))) : Cl g 4 mu_X5_init [rf g o] M r M' := by
  refine cl_of (lv := [(0, rf g o)]) (by decide) (Nat.le_of_ble_eq_true rfl) rfl ?_
  refine fr_aload_n (i := 0) (q := 0) rfl dX5_init_0 rfl ?_
  refine fr_obj dX5_init_1 rfl ⟨ml_X5_3, wo_init.1, wo_init.2⟩ (Nat.le_of_ble_eq_true rfl) (Nat.le_of_ble_eq_true rfl) ?_
  refine fr_aload_n (i := 0) (q := 0) rfl dX5_init_4 rfl ?_
  refine fr_new dX5_init_5 rfl nl_X5_9 ?_
  refine fr_mem (fun M1 hM1 => ?_)
  have h := h M1 hM1
  have k2 : KM M1.1 o 5 := by rw [hM1]; exact KM.ext k_o (Ext.nw _ _ _)
  have k3 : KM M1.1 (mx M) 9 := by rw [hM1]; exact KM.nw _ _ _
  refine fr_dup rfl dX5_init_8 rfl ?_
  obtain ⟨M4, hc5, h⟩ := h
  refine fr_callIN (ν := mu_X9_init) (As := []) (st := [rf g (mx M), rf g o]) (M1 := M4) rfl rfl dX5_init_9 rfl (by decide) mo_X9_init mn_X9_init (Nat.le_of_ble_eq_true rfl) rfl rfl (Nat.le_of_ble_eq_true rfl) hc5 ?_
  have k6 : KM M4.1 o 5 := KM.ext k2 hc5.1
  have k7 : KM M4.1 (mx M) 9 := KM.ext k3 hc5.1
  refine fr_putFR rfl dX5_init_12 rfl fp_X5_12 k6 ?_
  refine fr_mem (fun M8 hM8 => ?_)
  have h := h M8 hM8
  have k9 : KM M8.1 o 5 := by rw [hM8]; exact k6
  have k10 : KM M8.1 (mx M) 9 := by rw [hM8]; exact k7
  refine fr_aload_n (i := 0) (q := 0) rfl dX5_init_15 rfl ?_
  refine fr_sipush (v := 602) (by decide) dX5_init_16 rfl ?_
  refine fr_newI dX5_init_19 rfl ac_int (by decide) (by decide) ?_
  refine fr_mem (fun M12 hM12 => ?_)
  have h := h M12 hM12
  have k13 : KM M12.1 o 5 := by rw [hM12]; exact KM.ext k9 (Ext.nw _ _ _)
  have k14 : KM M12.1 (mx M) 9 := by rw [hM12]; exact KM.ext k10 (Ext.nw _ _ _)
  have k15 : KM M12.1 (mx M8) 13 := by rw [hM12]; exact KM.nw _ _ _
  refine fr_putFA rfl dX5_init_21 rfl fp_X5_18 k13 ?_
  refine fr_mem (fun M16 hM16 => ?_)
  have h := h M16 hM16
  have k17 : KM M16.1 o 5 := by rw [hM16]; exact k13
  have k18 : KM M16.1 (mx M) 9 := by rw [hM16]; exact k14
  have k19 : KM M16.1 (mx M8) 13 := by rw [hM16]; exact k15
  refine fr_aload_n (i := 0) (q := 0) rfl dX5_init_24 rfl ?_
  refine fr_iconst (v := 3) (by decide) dX5_init_25 rfl ?_
  refine fr_newI dX5_init_26 rfl ac_int (by decide) (by decide) ?_
  refine fr_mem (fun M21 hM21 => ?_)
  have h := h M21 hM21
  have k22 : KM M21.1 o 5 := by rw [hM21]; exact KM.ext k17 (Ext.nw _ _ _)
  have k23 : KM M21.1 (mx M) 9 := by rw [hM21]; exact KM.ext k18 (Ext.nw _ _ _)
  have k24 : KM M21.1 (mx M8) 13 := by rw [hM21]; exact KM.ext k19 (Ext.nw _ _ _)
  have k25 : KM M21.1 (mx M16) 13 := by rw [hM21]; exact KM.nw _ _ _
  refine fr_putFA rfl dX5_init_28 rfl fp_X5_22 k22 ?_
  refine fr_mem (fun M26 hM26 => ?_)
  have h := h M26 hM26
  have k27 : KM M26.1 o 5 := by rw [hM26]; exact k22
  have k28 : KM M26.1 (mx M) 9 := by rw [hM26]; exact k23
  have k29 : KM M26.1 (mx M8) 13 := by rw [hM26]; exact k24
  have k30 : KM M26.1 (mx M16) 13 := by rw [hM26]; exact k25
  exact fr_vret rfl dX5_init_31 h.1 h.2
theorem cp_X4_init {g : GE} {M : Mem} {r : Option Value} {M' : Mem} {o : Nat} (k_o : KM M.1 o 4) (h : (∀ M2 : Mem, M2 = nw M 13 ((11 : Int32).toNatClampNeg) → (∀ M5 : Mem, M5 = sR M2 o (va_up (mR M2 o) 0 (some (mx M))) → (∀ M9 : Mem, M9 = nw M5 13 ((64 : Int32).toNatClampNeg) → (∀ M13 : Mem, M13 = sR M9 o (va_up (mR M9 o) 1 (some (mx M5))) → (r = none ∧ M' = M13)))))) : Cl g 2 mu_X4_init [rf g o] M r M' := by
  refine cl_of (lv := [(0, rf g o)]) (by decide) (Nat.le_of_ble_eq_true rfl) rfl ?_
  refine fr_aload_n (i := 0) (q := 0) rfl dX4_init_0 rfl ?_
  refine fr_obj dX4_init_1 rfl ⟨ml_X4_3, wo_init.1, wo_init.2⟩ (Nat.le_of_ble_eq_true rfl) (Nat.le_of_ble_eq_true rfl) ?_
  refine fr_aload_n (i := 0) (q := 0) rfl dX4_init_4 rfl ?_
  refine fr_bipush (v := 11) (by decide) dX4_init_5 rfl ?_
  refine fr_newI dX4_init_7 rfl ac_int (by decide) (by decide) ?_
  refine fr_mem (fun M2 hM2 => ?_)
  have h := h M2 hM2
  have k3 : KM M2.1 o 4 := by rw [hM2]; exact KM.ext k_o (Ext.nw _ _ _)
  have k4 : KM M2.1 (mx M) 13 := by rw [hM2]; exact KM.nw _ _ _
  refine fr_putFA rfl dX4_init_9 rfl fp_X4_9 k3 ?_
  refine fr_mem (fun M5 hM5 => ?_)
  have h := h M5 hM5
  have k6 : KM M5.1 o 4 := by rw [hM5]; exact k3
  have k7 : KM M5.1 (mx M) 13 := by rw [hM5]; exact k4
  refine fr_aload_n (i := 0) (q := 0) rfl dX4_init_12 rfl ?_
  refine fr_bipush (v := 64) (by decide) dX4_init_13 rfl ?_
  refine fr_newI dX4_init_15 rfl ac_int (by decide) (by decide) ?_
  refine fr_mem (fun M9 hM9 => ?_)
  have h := h M9 hM9
  have k10 : KM M9.1 o 4 := by rw [hM9]; exact KM.ext k6 (Ext.nw _ _ _)
  have k11 : KM M9.1 (mx M) 13 := by rw [hM9]; exact KM.ext k7 (Ext.nw _ _ _)
  have k12 : KM M9.1 (mx M5) 13 := by rw [hM9]; exact KM.nw _ _ _
  refine fr_putFA rfl dX4_init_17 rfl fp_X4_15 k10 ?_
  refine fr_mem (fun M13 hM13 => ?_)
  have h := h M13 hM13
  have k14 : KM M13.1 o 4 := by rw [hM13]; exact k10
  have k15 : KM M13.1 (mx M) 13 := by rw [hM13]; exact k11
  have k16 : KM M13.1 (mx M5) 13 := by rw [hM13]; exact k12
  exact fr_vret rfl dX4_init_20 h.1 h.2
theorem cp_X3_init {g : GE} {M : Mem} {r : Option Value} {M' : Mem} {o : Nat} {a1 : Nat} {a2 : Nat} (k_o : KM M.1 o 3) (k_a1 : KM M.1 a1 8) (k_a2 : KM M.1 a2 4) (h : (∀ M1 : Mem, M1 = sR M o (va_up (mR M o) 0 (some a1)) → (∀ M5 : Mem, M5 = sR M1 o (va_up (mR M1 o) 1 (some a2)) → (∃ (v9 : Int32) (M10 : Mem), Cl g 1 mu_X8_posesInAll [rf g a1] M5 (some (.int v9)) M10 ∧ (¬ (16 * v9) < 0 ∧ (16 * v9).toNatClampNeg ≤ 60000 ∧ (∀ M16 : Mem, M16 = nw M10 13 ((16 * v9).toNatClampNeg) → (∀ M21 : Mem, M21 = sR M16 o (va_up (mR M16 o) 2 (some (mx M10))) → (∃ b26 : Nat, mR M21 o 2 = some b26 ∧ KM M21.1 b26 13 ∧ (∃ (M27 : Mem), Cl g 1 mu_J7_fill_53178 [rf g b26, .int ((-1))] M21 none M27 ∧ (r = none ∧ M' = M27)))))))))) : Cl g 2 mu_X3_init [rf g o, rf g a1, rf g a2] M r M' := by
  refine cl_of (lv := [(0, rf g o), (1, rf g a1), (2, rf g a2)]) (by decide) (Nat.le_of_ble_eq_true rfl) rfl ?_
  refine fr_aload_n (i := 0) (q := 0) rfl dX3_init_0 rfl ?_
  refine fr_obj dX3_init_1 rfl ⟨ml_X3_3, wo_init.1, wo_init.2⟩ (Nat.le_of_ble_eq_true rfl) (Nat.le_of_ble_eq_true rfl) ?_
  refine fr_aload_n (i := 0) (q := 0) rfl dX3_init_4 rfl ?_
  refine fr_aload_n (i := 1) (q := 1) rfl dX3_init_5 rfl ?_
  refine fr_putFR rfl dX3_init_6 rfl fp_X3_9 k_o ?_
  refine fr_mem (fun M1 hM1 => ?_)
  have h := h M1 hM1
  have k2 : KM M1.1 o 3 := by rw [hM1]; exact k_o
  have k3 : KM M1.1 a1 8 := by rw [hM1]; exact k_a1
  have k4 : KM M1.1 a2 4 := by rw [hM1]; exact k_a2
  refine fr_aload_n (i := 0) (q := 0) rfl dX3_init_9 rfl ?_
  refine fr_aload_n (i := 2) (q := 2) rfl dX3_init_10 rfl ?_
  refine fr_putFR rfl dX3_init_11 rfl fp_X3_15 k2 ?_
  refine fr_mem (fun M5 hM5 => ?_)
  have h := h M5 hM5
  have k6 : KM M5.1 o 3 := by rw [hM5]; exact k2
  have k7 : KM M5.1 a1 8 := by rw [hM5]; exact k3
  have k8 : KM M5.1 a2 4 := by rw [hM5]; exact k4
  refine fr_aload_n (i := 0) (q := 0) rfl dX3_init_14 rfl ?_
  refine fr_bipush (v := 16) (by decide) dX3_init_15 rfl ?_
  refine fr_aload_n (i := 1) (q := 1) rfl dX3_init_17 rfl ?_
  obtain ⟨v9, M10, hc11, h⟩ := h
  refine fr_callV2 (ν := mu_X8_posesInAll) (st2 := [.int v9, .int 16, rf g o]) (As := []) (st := [.int 16, rf g o]) (v := (some (.int v9))) (M1 := M10) dX3_init_18 rfl ml_X3_19 mo_X8_posesInAll mi_X8_posesInAll (ci := 8) rfl rfl k7 (Nat.le_of_ble_eq_true rfl) rfl rfl (Nat.le_of_ble_eq_true rfl) hc11 rfl ?_
  have k12 : KM M10.1 o 3 := KM.ext k6 hc11.1
  have k13 : KM M10.1 a1 8 := KM.ext k7 hc11.1
  have k14 : KM M10.1 a2 4 := KM.ext k8 hc11.1
  refine fr_imul dX3_init_21 rfl ?_
  obtain ⟨hz15, hz15b, h⟩ := h
  refine fr_newI dX3_init_22 rfl ac_int hz15 hz15b ?_
  refine fr_mem (fun M16 hM16 => ?_)
  have h := h M16 hM16
  have k17 : KM M16.1 o 3 := by rw [hM16]; exact KM.ext k12 (Ext.nw _ _ _)
  have k18 : KM M16.1 a1 8 := by rw [hM16]; exact KM.ext k13 (Ext.nw _ _ _)
  have k19 : KM M16.1 a2 4 := by rw [hM16]; exact KM.ext k14 (Ext.nw _ _ _)
  have k20 : KM M16.1 (mx M10) 13 := by rw [hM16]; exact KM.nw _ _ _
  refine fr_putFA rfl dX3_init_24 rfl fp_X3_25 k17 ?_
  refine fr_mem (fun M21 hM21 => ?_)
  have h := h M21 hM21
  have k22 : KM M21.1 o 3 := by rw [hM21]; exact k17
  have k23 : KM M21.1 a1 8 := by rw [hM21]; exact k18
  have k24 : KM M21.1 a2 4 := by rw [hM21]; exact k19
  have k25 : KM M21.1 (mx M10) 13 := by rw [hM21]; exact k20
  refine fr_aload_n (i := 0) (q := 0) rfl dX3_init_27 rfl ?_
  obtain ⟨b26, r_b26, k_b26, h⟩ := h
  refine fr_getR dX3_init_28 rfl fl_X3_25 k22 r_b26 ?_
  refine fr_iconst (v := (-1)) (by decide) dX3_init_31 rfl ?_
  obtain ⟨M27, hc28, h⟩ := h
  refine fr_callS2 (ν := mu_J7_fill_53178) (st2 := []) (As := [rf g b26, .int ((-1))]) (st := []) (v := none) (M1 := M27) dX3_init_32 rfl ml_X3_29 mo_J7_fill_53178 ms_J7_fill_53178 (Nat.le_of_ble_eq_true rfl) rfl rfl (Nat.le_of_ble_eq_true rfl) hc28 rfl ?_
  have k29 : KM M27.1 o 3 := KM.ext k22 hc28.1
  have k30 : KM M27.1 a1 8 := KM.ext k23 hc28.1
  have k31 : KM M27.1 a2 4 := KM.ext k24 hc28.1
  have k32 : KM M27.1 (mx M10) 13 := KM.ext k25 hc28.1
  have k33 : KM M27.1 b26 13 := KM.ext k_b26 hc28.1
  exact fr_vret rfl dX3_init_35 h.1 h.2
theorem cp_X10_init {g : GE} {M : Mem} {r : Option Value} {M' : Mem} {o : Nat} {a1 : Nat} {a2 : Nat} (k_o : KM M.1 o 10) (k_a1 : KM M.1 a1 8) (k_a2 : KM M.1 a2 4) (h : (∀ M2 : Mem, M2 = nw M 13 ((36 : Int32).toNatClampNeg) → (∀ M7 : Mem, M7 = sR M2 o (va_up (mR M2 o) 2 (some (mx M))) → (∀ M13 : Mem, M13 = nw M7 13 ((36 : Int32).toNatClampNeg) → (∀ M19 : Mem, M19 = sR M13 o (va_up (mR M13 o) 3 (some (mx M7))) → (∀ M26 : Mem, M26 = nw M19 15 ((36 : Int32).toNatClampNeg) → (∀ M33 : Mem, M33 = sR M26 o (va_up (mR M26 o) 4 (some (mx M19))) → (∀ M41 : Mem, M41 = nw M33 13 ((6 : Int32).toNatClampNeg) → (∀ M49 : Mem, M49 = sR M41 o (va_up (mR M41 o) 5 (some (mx M33))) → (∀ M58 : Mem, M58 = nw M49 13 ((6 : Int32).toNatClampNeg) → (∀ M67 : Mem, M67 = sR M58 o (va_up (mR M58 o) 6 (some (mx M49))) → (∀ M76 : Mem, M76 = sR M67 o (va_up (mR M67 o) 0 (some a1)) → (∀ M85 : Mem, M85 = sR M76 o (va_up (mR M76 o) 1 (some a2)) → (r = none ∧ M' = M85)))))))))))))) : Cl g 2 mu_X10_init [rf g o, rf g a1, rf g a2] M r M' := by
  refine cl_of (lv := [(0, rf g o), (1, rf g a1), (2, rf g a2)]) (by decide) (Nat.le_of_ble_eq_true rfl) rfl ?_
  refine fr_aload_n (i := 0) (q := 0) rfl dX10_init_0 rfl ?_
  refine fr_obj dX10_init_1 rfl ⟨ml_X10_3, wo_init.1, wo_init.2⟩ (Nat.le_of_ble_eq_true rfl) (Nat.le_of_ble_eq_true rfl) ?_
  refine fr_aload_n (i := 0) (q := 0) rfl dX10_init_4 rfl ?_
  refine fr_bipush (v := 36) (by decide) dX10_init_5 rfl ?_
  refine fr_newI dX10_init_7 rfl ac_int (by decide) (by decide) ?_
  refine fr_mem (fun M2 hM2 => ?_)
  have h := h M2 hM2
  have k3 : KM M2.1 o 10 := by rw [hM2]; exact KM.ext k_o (Ext.nw _ _ _)
  have k4 : KM M2.1 a1 8 := by rw [hM2]; exact KM.ext k_a1 (Ext.nw _ _ _)
  have k5 : KM M2.1 a2 4 := by rw [hM2]; exact KM.ext k_a2 (Ext.nw _ _ _)
  have k6 : KM M2.1 (mx M) 13 := by rw [hM2]; exact KM.nw _ _ _
  refine fr_putFA rfl dX10_init_9 rfl fp_X10_11 k3 ?_
  refine fr_mem (fun M7 hM7 => ?_)
  have h := h M7 hM7
  have k8 : KM M7.1 o 10 := by rw [hM7]; exact k3
  have k9 : KM M7.1 a1 8 := by rw [hM7]; exact k4
  have k10 : KM M7.1 a2 4 := by rw [hM7]; exact k5
  have k11 : KM M7.1 (mx M) 13 := by rw [hM7]; exact k6
  refine fr_aload_n (i := 0) (q := 0) rfl dX10_init_12 rfl ?_
  refine fr_bipush (v := 36) (by decide) dX10_init_13 rfl ?_
  refine fr_newI dX10_init_15 rfl ac_int (by decide) (by decide) ?_
  refine fr_mem (fun M13 hM13 => ?_)
  have h := h M13 hM13
  have k14 : KM M13.1 o 10 := by rw [hM13]; exact KM.ext k8 (Ext.nw _ _ _)
  have k15 : KM M13.1 a1 8 := by rw [hM13]; exact KM.ext k9 (Ext.nw _ _ _)
  have k16 : KM M13.1 a2 4 := by rw [hM13]; exact KM.ext k10 (Ext.nw _ _ _)
  have k17 : KM M13.1 (mx M) 13 := by rw [hM13]; exact KM.ext k11 (Ext.nw _ _ _)
  have k18 : KM M13.1 (mx M7) 13 := by rw [hM13]; exact KM.nw _ _ _
  refine fr_putFA rfl dX10_init_17 rfl fp_X10_15 k14 ?_
  refine fr_mem (fun M19 hM19 => ?_)
  have h := h M19 hM19
  have k20 : KM M19.1 o 10 := by rw [hM19]; exact k14
  have k21 : KM M19.1 a1 8 := by rw [hM19]; exact k15
  have k22 : KM M19.1 a2 4 := by rw [hM19]; exact k16
  have k23 : KM M19.1 (mx M) 13 := by rw [hM19]; exact k17
  have k24 : KM M19.1 (mx M7) 13 := by rw [hM19]; exact k18
  refine fr_aload_n (i := 0) (q := 0) rfl dX10_init_20 rfl ?_
  refine fr_bipush (v := 36) (by decide) dX10_init_21 rfl ?_
  refine fr_newZ dX10_init_23 rfl ac_boolean (by decide) (by decide) ?_
  refine fr_mem (fun M26 hM26 => ?_)
  have h := h M26 hM26
  have k27 : KM M26.1 o 10 := by rw [hM26]; exact KM.ext k20 (Ext.nw _ _ _)
  have k28 : KM M26.1 a1 8 := by rw [hM26]; exact KM.ext k21 (Ext.nw _ _ _)
  have k29 : KM M26.1 a2 4 := by rw [hM26]; exact KM.ext k22 (Ext.nw _ _ _)
  have k30 : KM M26.1 (mx M) 13 := by rw [hM26]; exact KM.ext k23 (Ext.nw _ _ _)
  have k31 : KM M26.1 (mx M7) 13 := by rw [hM26]; exact KM.ext k24 (Ext.nw _ _ _)
  have k32 : KM M26.1 (mx M19) 15 := by rw [hM26]; exact KM.nw _ _ _
  refine fr_putFA rfl dX10_init_25 rfl fp_X10_18 k27 ?_
  refine fr_mem (fun M33 hM33 => ?_)
  have h := h M33 hM33
  have k34 : KM M33.1 o 10 := by rw [hM33]; exact k27
  have k35 : KM M33.1 a1 8 := by rw [hM33]; exact k28
  have k36 : KM M33.1 a2 4 := by rw [hM33]; exact k29
  have k37 : KM M33.1 (mx M) 13 := by rw [hM33]; exact k30
  have k38 : KM M33.1 (mx M7) 13 := by rw [hM33]; exact k31
  have k39 : KM M33.1 (mx M19) 15 := by rw [hM33]; exact k32
  refine fr_aload_n (i := 0) (q := 0) rfl dX10_init_28 rfl ?_
  refine fr_bipush (v := 6) (by decide) dX10_init_29 rfl ?_
  refine fr_newI dX10_init_31 rfl ac_int (by decide) (by decide) ?_
  refine fr_mem (fun M41 hM41 => ?_)
  have h := h M41 hM41
  have k42 : KM M41.1 o 10 := by rw [hM41]; exact KM.ext k34 (Ext.nw _ _ _)
  have k43 : KM M41.1 a1 8 := by rw [hM41]; exact KM.ext k35 (Ext.nw _ _ _)
  have k44 : KM M41.1 a2 4 := by rw [hM41]; exact KM.ext k36 (Ext.nw _ _ _)
  have k45 : KM M41.1 (mx M) 13 := by rw [hM41]; exact KM.ext k37 (Ext.nw _ _ _)
  have k46 : KM M41.1 (mx M7) 13 := by rw [hM41]; exact KM.ext k38 (Ext.nw _ _ _)
  have k47 : KM M41.1 (mx M19) 15 := by rw [hM41]; exact KM.ext k39 (Ext.nw _ _ _)
  have k48 : KM M41.1 (mx M33) 13 := by rw [hM41]; exact KM.nw _ _ _
  refine fr_putFA rfl dX10_init_33 rfl fp_X10_22 k42 ?_
  refine fr_mem (fun M49 hM49 => ?_)
  have h := h M49 hM49
  have k50 : KM M49.1 o 10 := by rw [hM49]; exact k42
  have k51 : KM M49.1 a1 8 := by rw [hM49]; exact k43
  have k52 : KM M49.1 a2 4 := by rw [hM49]; exact k44
  have k53 : KM M49.1 (mx M) 13 := by rw [hM49]; exact k45
  have k54 : KM M49.1 (mx M7) 13 := by rw [hM49]; exact k46
  have k55 : KM M49.1 (mx M19) 15 := by rw [hM49]; exact k47
  have k56 : KM M49.1 (mx M33) 13 := by rw [hM49]; exact k48
  refine fr_aload_n (i := 0) (q := 0) rfl dX10_init_36 rfl ?_
  refine fr_bipush (v := 6) (by decide) dX10_init_37 rfl ?_
  refine fr_newI dX10_init_39 rfl ac_int (by decide) (by decide) ?_
  refine fr_mem (fun M58 hM58 => ?_)
  have h := h M58 hM58
  have k59 : KM M58.1 o 10 := by rw [hM58]; exact KM.ext k50 (Ext.nw _ _ _)
  have k60 : KM M58.1 a1 8 := by rw [hM58]; exact KM.ext k51 (Ext.nw _ _ _)
  have k61 : KM M58.1 a2 4 := by rw [hM58]; exact KM.ext k52 (Ext.nw _ _ _)
  have k62 : KM M58.1 (mx M) 13 := by rw [hM58]; exact KM.ext k53 (Ext.nw _ _ _)
  have k63 : KM M58.1 (mx M7) 13 := by rw [hM58]; exact KM.ext k54 (Ext.nw _ _ _)
  have k64 : KM M58.1 (mx M19) 15 := by rw [hM58]; exact KM.ext k55 (Ext.nw _ _ _)
  have k65 : KM M58.1 (mx M33) 13 := by rw [hM58]; exact KM.ext k56 (Ext.nw _ _ _)
  have k66 : KM M58.1 (mx M49) 13 := by rw [hM58]; exact KM.nw _ _ _
  refine fr_putFA rfl dX10_init_41 rfl fp_X10_25 k59 ?_
  refine fr_mem (fun M67 hM67 => ?_)
  have h := h M67 hM67
  have k68 : KM M67.1 o 10 := by rw [hM67]; exact k59
  have k69 : KM M67.1 a1 8 := by rw [hM67]; exact k60
  have k70 : KM M67.1 a2 4 := by rw [hM67]; exact k61
  have k71 : KM M67.1 (mx M) 13 := by rw [hM67]; exact k62
  have k72 : KM M67.1 (mx M7) 13 := by rw [hM67]; exact k63
  have k73 : KM M67.1 (mx M19) 15 := by rw [hM67]; exact k64
  have k74 : KM M67.1 (mx M33) 13 := by rw [hM67]; exact k65
  have k75 : KM M67.1 (mx M49) 13 := by rw [hM67]; exact k66
  refine fr_aload_n (i := 0) (q := 0) rfl dX10_init_44 rfl ?_
  refine fr_aload_n (i := 1) (q := 1) rfl dX10_init_45 rfl ?_
  refine fr_putFR rfl dX10_init_46 rfl fp_X10_28 k68 ?_
  refine fr_mem (fun M76 hM76 => ?_)
  have h := h M76 hM76
  have k77 : KM M76.1 o 10 := by rw [hM76]; exact k68
  have k78 : KM M76.1 a1 8 := by rw [hM76]; exact k69
  have k79 : KM M76.1 a2 4 := by rw [hM76]; exact k70
  have k80 : KM M76.1 (mx M) 13 := by rw [hM76]; exact k71
  have k81 : KM M76.1 (mx M7) 13 := by rw [hM76]; exact k72
  have k82 : KM M76.1 (mx M19) 15 := by rw [hM76]; exact k73
  have k83 : KM M76.1 (mx M33) 13 := by rw [hM76]; exact k74
  have k84 : KM M76.1 (mx M49) 13 := by rw [hM76]; exact k75
  refine fr_aload_n (i := 0) (q := 0) rfl dX10_init_49 rfl ?_
  refine fr_aload_n (i := 2) (q := 2) rfl dX10_init_50 rfl ?_
  refine fr_putFR rfl dX10_init_51 rfl fp_X10_32 k77 ?_
  refine fr_mem (fun M85 hM85 => ?_)
  have h := h M85 hM85
  have k86 : KM M85.1 o 10 := by rw [hM85]; exact k77
  have k87 : KM M85.1 a1 8 := by rw [hM85]; exact k78
  have k88 : KM M85.1 a2 4 := by rw [hM85]; exact k79
  have k89 : KM M85.1 (mx M) 13 := by rw [hM85]; exact k80
  have k90 : KM M85.1 (mx M7) 13 := by rw [hM85]; exact k81
  have k91 : KM M85.1 (mx M19) 15 := by rw [hM85]; exact k82
  have k92 : KM M85.1 (mx M33) 13 := by rw [hM85]; exact k83
  have k93 : KM M85.1 (mx M49) 13 := by rw [hM85]; exact k84
  exact fr_vret rfl dX10_init_54 h.1 h.2
theorem cp_X1_init {g : GE} {M : Mem} {r : Option Value} {M' : Mem} {o : Nat} {a1 : Nat} {a2 : Nat} (k_o : KM M.1 o 1) (k_a1 : KM M.1 a1 8) (k_a2 : KM M.1 a2 3) (h : (∀ M2 : Mem, M2 = nw M 13 ((6 : Int32).toNatClampNeg) → (∀ M7 : Mem, M7 = sR M2 o (va_up (mR M2 o) 2 (some (mx M))) → (∀ M12 : Mem, M12 = sR M7 o (va_up (mR M7 o) 0 (some a1)) → (∀ M17 : Mem, M17 = sR M12 o (va_up (mR M12 o) 1 (some a2)) → (r = none ∧ M' = M17)))))) : Cl g 2 mu_X1_init [rf g o, rf g a1, rf g a2] M r M' := by
  refine cl_of (lv := [(0, rf g o), (1, rf g a1), (2, rf g a2)]) (by decide) (Nat.le_of_ble_eq_true rfl) rfl ?_
  refine fr_aload_n (i := 0) (q := 0) rfl dX1_init_0 rfl ?_
  refine fr_obj dX1_init_1 rfl ⟨ml_X1_3, wo_init.1, wo_init.2⟩ (Nat.le_of_ble_eq_true rfl) (Nat.le_of_ble_eq_true rfl) ?_
  refine fr_aload_n (i := 0) (q := 0) rfl dX1_init_4 rfl ?_
  refine fr_bipush (v := 6) (by decide) dX1_init_5 rfl ?_
  refine fr_newI dX1_init_7 rfl ac_int (by decide) (by decide) ?_
  refine fr_mem (fun M2 hM2 => ?_)
  have h := h M2 hM2
  have k3 : KM M2.1 o 1 := by rw [hM2]; exact KM.ext k_o (Ext.nw _ _ _)
  have k4 : KM M2.1 a1 8 := by rw [hM2]; exact KM.ext k_a1 (Ext.nw _ _ _)
  have k5 : KM M2.1 a2 3 := by rw [hM2]; exact KM.ext k_a2 (Ext.nw _ _ _)
  have k6 : KM M2.1 (mx M) 13 := by rw [hM2]; exact KM.nw _ _ _
  refine fr_putFA rfl dX1_init_9 rfl fp_X1_9 k3 ?_
  refine fr_mem (fun M7 hM7 => ?_)
  have h := h M7 hM7
  have k8 : KM M7.1 o 1 := by rw [hM7]; exact k3
  have k9 : KM M7.1 a1 8 := by rw [hM7]; exact k4
  have k10 : KM M7.1 a2 3 := by rw [hM7]; exact k5
  have k11 : KM M7.1 (mx M) 13 := by rw [hM7]; exact k6
  refine fr_aload_n (i := 0) (q := 0) rfl dX1_init_12 rfl ?_
  refine fr_aload_n (i := 1) (q := 1) rfl dX1_init_13 rfl ?_
  refine fr_putFR rfl dX1_init_14 rfl fp_X1_15 k8 ?_
  refine fr_mem (fun M12 hM12 => ?_)
  have h := h M12 hM12
  have k13 : KM M12.1 o 1 := by rw [hM12]; exact k8
  have k14 : KM M12.1 a1 8 := by rw [hM12]; exact k9
  have k15 : KM M12.1 a2 3 := by rw [hM12]; exact k10
  have k16 : KM M12.1 (mx M) 13 := by rw [hM12]; exact k11
  refine fr_aload_n (i := 0) (q := 0) rfl dX1_init_17 rfl ?_
  refine fr_aload_n (i := 2) (q := 2) rfl dX1_init_18 rfl ?_
  refine fr_putFR rfl dX1_init_19 rfl fp_X1_19 k13 ?_
  refine fr_mem (fun M17 hM17 => ?_)
  have h := h M17 hM17
  have k18 : KM M17.1 o 1 := by rw [hM17]; exact k13
  have k19 : KM M17.1 a1 8 := by rw [hM17]; exact k14
  have k20 : KM M17.1 a2 3 := by rw [hM17]; exact k15
  have k21 : KM M17.1 (mx M) 13 := by rw [hM17]; exact k16
  exact fr_vret rfl dX1_init_22 h.1 h.2
abbrev Lp_X8_init_190 (g : GE) (d : Nat) (o : Nat) (u3 : Int32) (M : Mem) (r : Option Value) (M' : Mem) : Prop := Fr g d mu_X8_init 190 [(0, rf g o), (3, .int u3)] [] M r M'
theorem cp_X8_init {g : GE} {M : Mem} {r : Option Value} {M' : Mem} {o : Nat} {x1 : Int32} {x2 : Int32} (k_o : KM M.1 o 8) (h : (∀ M1 : Mem, M1 = nw M 2 2 → (∃ (M4 : Mem), Cl g 2 mu_X2_init [rf g (mx M), .int 6] M1 none M4 ∧ (∀ M8 : Mem, M8 = sR M4 o (va_up (mR M4 o) 3 (some (mx M))) → (∀ M11 : Mem, M11 = nw M8 2 2 → (∃ (M15 : Mem), Cl g 2 mu_X2_init [rf g (mx M8), .int 6] M11 none M15 ∧ (∀ M20 : Mem, M20 = sR M15 o (va_up (mR M15 o) 4 (some (mx M8))) → (∀ M24 : Mem, M24 = nw M20 2 2 → (∃ (M29 : Mem), Cl g 2 mu_X2_init [rf g (mx M20), .int 16] M24 none M29 ∧ (∀ M35 : Mem, M35 = sR M29 o (va_up (mR M29 o) 5 (some (mx M20))) → (∀ M40 : Mem, M40 = nw M35 2 2 → (∃ (M46 : Mem), Cl g 2 mu_X2_init [rf g (mx M35), .int 30] M40 none M46 ∧ (∀ M53 : Mem, M53 = sR M46 o (va_up (mR M46 o) 6 (some (mx M35))) → (∀ M59 : Mem, M59 = nw M53 2 2 → (∃ (M66 : Mem), Cl g 2 mu_X2_init [rf g (mx M53), .int 30] M59 none M66 ∧ (∀ M74 : Mem, M74 = sR M66 o (va_up (mR M66 o) 7 (some (mx M53))) → (∀ M81 : Mem, M81 = nw M74 2 2 → (∃ (M89 : Mem), Cl g 2 mu_X2_init [rf g (mx M74), .int 20] M81 none M89 ∧ (∀ M98 : Mem, M98 = sR M89 o (va_up (mR M89 o) 8 (some (mx M74))) → (∀ M106 : Mem, M106 = nw M98 2 2 → (∃ (M115 : Mem), Cl g 2 mu_X2_init [rf g (mx M98), .int 20] M106 none M115 ∧ (∀ M125 : Mem, M125 = sR M115 o (va_up (mR M115 o) 9 (some (mx M98))) → (∀ M134 : Mem, M134 = nw M125 2 2 → (∃ (M144 : Mem), Cl g 2 mu_X2_init [rf g (mx M125), .int 20] M134 none M144 ∧ (∀ M155 : Mem, M155 = sR M144 o (va_up (mR M144 o) 10 (some (mx M125))) → (∀ M165 : Mem, M165 = nw M155 2 2 → (∃ (M176 : Mem), Cl g 2 mu_X2_init [rf g (mx M155), .int 6] M165 none M176 ∧ (∀ M188 : Mem, M188 = sR M176 o (va_up (mR M176 o) 11 (some (mx M155))) → (∀ M199 : Mem, M199 = nw M188 2 2 → (∃ (M211 : Mem), Cl g 2 mu_X2_init [rf g (mx M188), .int 6] M199 none M211 ∧ (∀ M224 : Mem, M224 = sR M211 o (va_up (mR M211 o) 12 (some (mx M188))) → (∀ M237 : Mem, M237 = nw M224 16 ((4 : Int32).toNatClampNeg) → (∀ M250 : Mem, M250 = sR M237 o (va_up (mR M237 o) 13 (some (mx M224))) → (∀ M263 : Mem, M263 = sI M250 o (upd (mI M250 o) 0 (if 2 < (if x1 < 5 then x1 else 5) then (if x1 < 5 then x1 else 5) else 2)) → (∀ M276 : Mem, M276 = sI M263 o (upd (mI M263 o) 1 (if 2 < (if x2 < 5 then x2 else 5) then (if x2 < 5 then x2 else 5) else 2)) → (∀ M289 : Mem, M289 = nw M276 2 2 → (∃ (M303 : Mem), Cl g 2 mu_X2_init [rf g (mx M276), .int ((mI M289 o 0) * (mI M289 o 1))] M289 none M303 ∧ (∀ M318 : Mem, M318 = sR M303 o (va_up (mR M303 o) 2 (some (mx M276))) → Lp_X8_init_190 g 3 o 0 M318 r M')))))))))))))))))))))))))))))))))))))) : Cl g 3 mu_X8_init [rf g o, .int x1, .int x2] M r M' := by
  refine cl_of (lv := [(0, rf g o), (1, .int x1), (2, .int x2)]) (by decide) (Nat.le_of_ble_eq_true rfl) rfl ?_
  refine fr_aload_n (i := 0) (q := 0) rfl dX8_init_0 rfl ?_
  refine fr_obj dX8_init_1 rfl ⟨ml_X8_3, wo_init.1, wo_init.2⟩ (Nat.le_of_ble_eq_true rfl) (Nat.le_of_ble_eq_true rfl) ?_
  refine fr_aload_n (i := 0) (q := 0) rfl dX8_init_4 rfl ?_
  refine fr_new dX8_init_5 rfl nl_X8_9 ?_
  refine fr_mem (fun M1 hM1 => ?_)
  have h := h M1 hM1
  have k2 : KM M1.1 o 8 := by rw [hM1]; exact KM.ext k_o (Ext.nw _ _ _)
  have k3 : KM M1.1 (mx M) 2 := by rw [hM1]; exact KM.nw _ _ _
  refine fr_dup rfl dX8_init_8 rfl ?_
  refine fr_bipush (v := 6) (by decide) dX8_init_9 rfl ?_
  obtain ⟨M4, hc5, h⟩ := h
  refine fr_callI (ν := mu_X2_init) (As := [.int 6]) (st := [rf g (mx M), rf g o]) (M1 := M4) rfl rfl dX8_init_11 rfl ml_X8_11 mo_X2_init mn_X2_init (Nat.le_of_ble_eq_true rfl) rfl rfl (Nat.le_of_ble_eq_true rfl) hc5 ?_
  have k6 : KM M4.1 o 8 := KM.ext k2 hc5.1
  have k7 : KM M4.1 (mx M) 2 := KM.ext k3 hc5.1
  refine fr_putFR rfl dX8_init_14 rfl fp_X8_14 k6 ?_
  refine fr_mem (fun M8 hM8 => ?_)
  have h := h M8 hM8
  have k9 : KM M8.1 o 8 := by rw [hM8]; exact k6
  have k10 : KM M8.1 (mx M) 2 := by rw [hM8]; exact k7
  refine fr_aload_n (i := 0) (q := 0) rfl dX8_init_17 rfl ?_
  refine fr_new dX8_init_18 rfl nl_X8_9 ?_
  refine fr_mem (fun M11 hM11 => ?_)
  have h := h M11 hM11
  have k12 : KM M11.1 o 8 := by rw [hM11]; exact KM.ext k9 (Ext.nw _ _ _)
  have k13 : KM M11.1 (mx M) 2 := by rw [hM11]; exact KM.ext k10 (Ext.nw _ _ _)
  have k14 : KM M11.1 (mx M8) 2 := by rw [hM11]; exact KM.nw _ _ _
  refine fr_dup rfl dX8_init_21 rfl ?_
  refine fr_bipush (v := 6) (by decide) dX8_init_22 rfl ?_
  obtain ⟨M15, hc16, h⟩ := h
  refine fr_callI (ν := mu_X2_init) (As := [.int 6]) (st := [rf g (mx M8), rf g o]) (M1 := M15) rfl rfl dX8_init_24 rfl ml_X8_11 mo_X2_init mn_X2_init (Nat.le_of_ble_eq_true rfl) rfl rfl (Nat.le_of_ble_eq_true rfl) hc16 ?_
  have k17 : KM M15.1 o 8 := KM.ext k12 hc16.1
  have k18 : KM M15.1 (mx M) 2 := KM.ext k13 hc16.1
  have k19 : KM M15.1 (mx M8) 2 := KM.ext k14 hc16.1
  refine fr_putFR rfl dX8_init_27 rfl fp_X8_20 k17 ?_
  refine fr_mem (fun M20 hM20 => ?_)
  have h := h M20 hM20
  have k21 : KM M20.1 o 8 := by rw [hM20]; exact k17
  have k22 : KM M20.1 (mx M) 2 := by rw [hM20]; exact k18
  have k23 : KM M20.1 (mx M8) 2 := by rw [hM20]; exact k19
  refine fr_aload_n (i := 0) (q := 0) rfl dX8_init_30 rfl ?_
  refine fr_new dX8_init_31 rfl nl_X8_9 ?_
  refine fr_mem (fun M24 hM24 => ?_)
  have h := h M24 hM24
  have k25 : KM M24.1 o 8 := by rw [hM24]; exact KM.ext k21 (Ext.nw _ _ _)
  have k26 : KM M24.1 (mx M) 2 := by rw [hM24]; exact KM.ext k22 (Ext.nw _ _ _)
  have k27 : KM M24.1 (mx M8) 2 := by rw [hM24]; exact KM.ext k23 (Ext.nw _ _ _)
  have k28 : KM M24.1 (mx M20) 2 := by rw [hM24]; exact KM.nw _ _ _
  refine fr_dup rfl dX8_init_34 rfl ?_
  refine fr_bipush (v := 16) (by decide) dX8_init_35 rfl ?_
  obtain ⟨M29, hc30, h⟩ := h
  refine fr_callI (ν := mu_X2_init) (As := [.int 16]) (st := [rf g (mx M20), rf g o]) (M1 := M29) rfl rfl dX8_init_37 rfl ml_X8_11 mo_X2_init mn_X2_init (Nat.le_of_ble_eq_true rfl) rfl rfl (Nat.le_of_ble_eq_true rfl) hc30 ?_
  have k31 : KM M29.1 o 8 := KM.ext k25 hc30.1
  have k32 : KM M29.1 (mx M) 2 := KM.ext k26 hc30.1
  have k33 : KM M29.1 (mx M8) 2 := KM.ext k27 hc30.1
  have k34 : KM M29.1 (mx M20) 2 := KM.ext k28 hc30.1
  refine fr_putFR rfl dX8_init_40 rfl fp_X8_23 k31 ?_
  refine fr_mem (fun M35 hM35 => ?_)
  have h := h M35 hM35
  have k36 : KM M35.1 o 8 := by rw [hM35]; exact k31
  have k37 : KM M35.1 (mx M) 2 := by rw [hM35]; exact k32
  have k38 : KM M35.1 (mx M8) 2 := by rw [hM35]; exact k33
  have k39 : KM M35.1 (mx M20) 2 := by rw [hM35]; exact k34
  refine fr_aload_n (i := 0) (q := 0) rfl dX8_init_43 rfl ?_
  refine fr_new dX8_init_44 rfl nl_X8_9 ?_
  refine fr_mem (fun M40 hM40 => ?_)
  have h := h M40 hM40
  have k41 : KM M40.1 o 8 := by rw [hM40]; exact KM.ext k36 (Ext.nw _ _ _)
  have k42 : KM M40.1 (mx M) 2 := by rw [hM40]; exact KM.ext k37 (Ext.nw _ _ _)
  have k43 : KM M40.1 (mx M8) 2 := by rw [hM40]; exact KM.ext k38 (Ext.nw _ _ _)
  have k44 : KM M40.1 (mx M20) 2 := by rw [hM40]; exact KM.ext k39 (Ext.nw _ _ _)
  have k45 : KM M40.1 (mx M35) 2 := by rw [hM40]; exact KM.nw _ _ _
  refine fr_dup rfl dX8_init_47 rfl ?_
  refine fr_bipush (v := 30) (by decide) dX8_init_48 rfl ?_
  obtain ⟨M46, hc47, h⟩ := h
  refine fr_callI (ν := mu_X2_init) (As := [.int 30]) (st := [rf g (mx M35), rf g o]) (M1 := M46) rfl rfl dX8_init_50 rfl ml_X8_11 mo_X2_init mn_X2_init (Nat.le_of_ble_eq_true rfl) rfl rfl (Nat.le_of_ble_eq_true rfl) hc47 ?_
  have k48 : KM M46.1 o 8 := KM.ext k41 hc47.1
  have k49 : KM M46.1 (mx M) 2 := KM.ext k42 hc47.1
  have k50 : KM M46.1 (mx M8) 2 := KM.ext k43 hc47.1
  have k51 : KM M46.1 (mx M20) 2 := KM.ext k44 hc47.1
  have k52 : KM M46.1 (mx M35) 2 := KM.ext k45 hc47.1
  refine fr_putFR rfl dX8_init_53 rfl fp_X8_26 k48 ?_
  refine fr_mem (fun M53 hM53 => ?_)
  have h := h M53 hM53
  have k54 : KM M53.1 o 8 := by rw [hM53]; exact k48
  have k55 : KM M53.1 (mx M) 2 := by rw [hM53]; exact k49
  have k56 : KM M53.1 (mx M8) 2 := by rw [hM53]; exact k50
  have k57 : KM M53.1 (mx M20) 2 := by rw [hM53]; exact k51
  have k58 : KM M53.1 (mx M35) 2 := by rw [hM53]; exact k52
  refine fr_aload_n (i := 0) (q := 0) rfl dX8_init_56 rfl ?_
  refine fr_new dX8_init_57 rfl nl_X8_9 ?_
  refine fr_mem (fun M59 hM59 => ?_)
  have h := h M59 hM59
  have k60 : KM M59.1 o 8 := by rw [hM59]; exact KM.ext k54 (Ext.nw _ _ _)
  have k61 : KM M59.1 (mx M) 2 := by rw [hM59]; exact KM.ext k55 (Ext.nw _ _ _)
  have k62 : KM M59.1 (mx M8) 2 := by rw [hM59]; exact KM.ext k56 (Ext.nw _ _ _)
  have k63 : KM M59.1 (mx M20) 2 := by rw [hM59]; exact KM.ext k57 (Ext.nw _ _ _)
  have k64 : KM M59.1 (mx M35) 2 := by rw [hM59]; exact KM.ext k58 (Ext.nw _ _ _)
  have k65 : KM M59.1 (mx M53) 2 := by rw [hM59]; exact KM.nw _ _ _
  refine fr_dup rfl dX8_init_60 rfl ?_
  refine fr_bipush (v := 30) (by decide) dX8_init_61 rfl ?_
  obtain ⟨M66, hc67, h⟩ := h
  refine fr_callI (ν := mu_X2_init) (As := [.int 30]) (st := [rf g (mx M53), rf g o]) (M1 := M66) rfl rfl dX8_init_63 rfl ml_X8_11 mo_X2_init mn_X2_init (Nat.le_of_ble_eq_true rfl) rfl rfl (Nat.le_of_ble_eq_true rfl) hc67 ?_
  have k68 : KM M66.1 o 8 := KM.ext k60 hc67.1
  have k69 : KM M66.1 (mx M) 2 := KM.ext k61 hc67.1
  have k70 : KM M66.1 (mx M8) 2 := KM.ext k62 hc67.1
  have k71 : KM M66.1 (mx M20) 2 := KM.ext k63 hc67.1
  have k72 : KM M66.1 (mx M35) 2 := KM.ext k64 hc67.1
  have k73 : KM M66.1 (mx M53) 2 := KM.ext k65 hc67.1
  refine fr_putFR rfl dX8_init_66 rfl fp_X8_29 k68 ?_
  refine fr_mem (fun M74 hM74 => ?_)
  have h := h M74 hM74
  have k75 : KM M74.1 o 8 := by rw [hM74]; exact k68
  have k76 : KM M74.1 (mx M) 2 := by rw [hM74]; exact k69
  have k77 : KM M74.1 (mx M8) 2 := by rw [hM74]; exact k70
  have k78 : KM M74.1 (mx M20) 2 := by rw [hM74]; exact k71
  have k79 : KM M74.1 (mx M35) 2 := by rw [hM74]; exact k72
  have k80 : KM M74.1 (mx M53) 2 := by rw [hM74]; exact k73
  refine fr_aload_n (i := 0) (q := 0) rfl dX8_init_69 rfl ?_
  refine fr_new dX8_init_70 rfl nl_X8_9 ?_
  refine fr_mem (fun M81 hM81 => ?_)
  have h := h M81 hM81
  have k82 : KM M81.1 o 8 := by rw [hM81]; exact KM.ext k75 (Ext.nw _ _ _)
  have k83 : KM M81.1 (mx M) 2 := by rw [hM81]; exact KM.ext k76 (Ext.nw _ _ _)
  have k84 : KM M81.1 (mx M8) 2 := by rw [hM81]; exact KM.ext k77 (Ext.nw _ _ _)
  have k85 : KM M81.1 (mx M20) 2 := by rw [hM81]; exact KM.ext k78 (Ext.nw _ _ _)
  have k86 : KM M81.1 (mx M35) 2 := by rw [hM81]; exact KM.ext k79 (Ext.nw _ _ _)
  have k87 : KM M81.1 (mx M53) 2 := by rw [hM81]; exact KM.ext k80 (Ext.nw _ _ _)
  have k88 : KM M81.1 (mx M74) 2 := by rw [hM81]; exact KM.nw _ _ _
  refine fr_dup rfl dX8_init_73 rfl ?_
  refine fr_bipush (v := 20) (by decide) dX8_init_74 rfl ?_
  obtain ⟨M89, hc90, h⟩ := h
  refine fr_callI (ν := mu_X2_init) (As := [.int 20]) (st := [rf g (mx M74), rf g o]) (M1 := M89) rfl rfl dX8_init_76 rfl ml_X8_11 mo_X2_init mn_X2_init (Nat.le_of_ble_eq_true rfl) rfl rfl (Nat.le_of_ble_eq_true rfl) hc90 ?_
  have k91 : KM M89.1 o 8 := KM.ext k82 hc90.1
  have k92 : KM M89.1 (mx M) 2 := KM.ext k83 hc90.1
  have k93 : KM M89.1 (mx M8) 2 := KM.ext k84 hc90.1
  have k94 : KM M89.1 (mx M20) 2 := KM.ext k85 hc90.1
  have k95 : KM M89.1 (mx M35) 2 := KM.ext k86 hc90.1
  have k96 : KM M89.1 (mx M53) 2 := KM.ext k87 hc90.1
  have k97 : KM M89.1 (mx M74) 2 := KM.ext k88 hc90.1
  refine fr_putFR rfl dX8_init_79 rfl fp_X8_32 k91 ?_
  refine fr_mem (fun M98 hM98 => ?_)
  have h := h M98 hM98
  have k99 : KM M98.1 o 8 := by rw [hM98]; exact k91
  have k100 : KM M98.1 (mx M) 2 := by rw [hM98]; exact k92
  have k101 : KM M98.1 (mx M8) 2 := by rw [hM98]; exact k93
  have k102 : KM M98.1 (mx M20) 2 := by rw [hM98]; exact k94
  have k103 : KM M98.1 (mx M35) 2 := by rw [hM98]; exact k95
  have k104 : KM M98.1 (mx M53) 2 := by rw [hM98]; exact k96
  have k105 : KM M98.1 (mx M74) 2 := by rw [hM98]; exact k97
  refine fr_aload_n (i := 0) (q := 0) rfl dX8_init_82 rfl ?_
  refine fr_new dX8_init_83 rfl nl_X8_9 ?_
  refine fr_mem (fun M106 hM106 => ?_)
  have h := h M106 hM106
  have k107 : KM M106.1 o 8 := by rw [hM106]; exact KM.ext k99 (Ext.nw _ _ _)
  have k108 : KM M106.1 (mx M) 2 := by rw [hM106]; exact KM.ext k100 (Ext.nw _ _ _)
  have k109 : KM M106.1 (mx M8) 2 := by rw [hM106]; exact KM.ext k101 (Ext.nw _ _ _)
  have k110 : KM M106.1 (mx M20) 2 := by rw [hM106]; exact KM.ext k102 (Ext.nw _ _ _)
  have k111 : KM M106.1 (mx M35) 2 := by rw [hM106]; exact KM.ext k103 (Ext.nw _ _ _)
  have k112 : KM M106.1 (mx M53) 2 := by rw [hM106]; exact KM.ext k104 (Ext.nw _ _ _)
  have k113 : KM M106.1 (mx M74) 2 := by rw [hM106]; exact KM.ext k105 (Ext.nw _ _ _)
  have k114 : KM M106.1 (mx M98) 2 := by rw [hM106]; exact KM.nw _ _ _
  refine fr_dup rfl dX8_init_86 rfl ?_
  refine fr_bipush (v := 20) (by decide) dX8_init_87 rfl ?_
  obtain ⟨M115, hc116, h⟩ := h
  refine fr_callI (ν := mu_X2_init) (As := [.int 20]) (st := [rf g (mx M98), rf g o]) (M1 := M115) rfl rfl dX8_init_89 rfl ml_X8_11 mo_X2_init mn_X2_init (Nat.le_of_ble_eq_true rfl) rfl rfl (Nat.le_of_ble_eq_true rfl) hc116 ?_
  have k117 : KM M115.1 o 8 := KM.ext k107 hc116.1
  have k118 : KM M115.1 (mx M) 2 := KM.ext k108 hc116.1
  have k119 : KM M115.1 (mx M8) 2 := KM.ext k109 hc116.1
  have k120 : KM M115.1 (mx M20) 2 := KM.ext k110 hc116.1
  have k121 : KM M115.1 (mx M35) 2 := KM.ext k111 hc116.1
  have k122 : KM M115.1 (mx M53) 2 := KM.ext k112 hc116.1
  have k123 : KM M115.1 (mx M74) 2 := KM.ext k113 hc116.1
  have k124 : KM M115.1 (mx M98) 2 := KM.ext k114 hc116.1
  refine fr_putFR rfl dX8_init_92 rfl fp_X8_35 k117 ?_
  refine fr_mem (fun M125 hM125 => ?_)
  have h := h M125 hM125
  have k126 : KM M125.1 o 8 := by rw [hM125]; exact k117
  have k127 : KM M125.1 (mx M) 2 := by rw [hM125]; exact k118
  have k128 : KM M125.1 (mx M8) 2 := by rw [hM125]; exact k119
  have k129 : KM M125.1 (mx M20) 2 := by rw [hM125]; exact k120
  have k130 : KM M125.1 (mx M35) 2 := by rw [hM125]; exact k121
  have k131 : KM M125.1 (mx M53) 2 := by rw [hM125]; exact k122
  have k132 : KM M125.1 (mx M74) 2 := by rw [hM125]; exact k123
  have k133 : KM M125.1 (mx M98) 2 := by rw [hM125]; exact k124
  refine fr_aload_n (i := 0) (q := 0) rfl dX8_init_95 rfl ?_
  refine fr_new dX8_init_96 rfl nl_X8_9 ?_
  refine fr_mem (fun M134 hM134 => ?_)
  have h := h M134 hM134
  have k135 : KM M134.1 o 8 := by rw [hM134]; exact KM.ext k126 (Ext.nw _ _ _)
  have k136 : KM M134.1 (mx M) 2 := by rw [hM134]; exact KM.ext k127 (Ext.nw _ _ _)
  have k137 : KM M134.1 (mx M8) 2 := by rw [hM134]; exact KM.ext k128 (Ext.nw _ _ _)
  have k138 : KM M134.1 (mx M20) 2 := by rw [hM134]; exact KM.ext k129 (Ext.nw _ _ _)
  have k139 : KM M134.1 (mx M35) 2 := by rw [hM134]; exact KM.ext k130 (Ext.nw _ _ _)
  have k140 : KM M134.1 (mx M53) 2 := by rw [hM134]; exact KM.ext k131 (Ext.nw _ _ _)
  have k141 : KM M134.1 (mx M74) 2 := by rw [hM134]; exact KM.ext k132 (Ext.nw _ _ _)
  have k142 : KM M134.1 (mx M98) 2 := by rw [hM134]; exact KM.ext k133 (Ext.nw _ _ _)
  have k143 : KM M134.1 (mx M125) 2 := by rw [hM134]; exact KM.nw _ _ _
  refine fr_dup rfl dX8_init_99 rfl ?_
  refine fr_bipush (v := 20) (by decide) dX8_init_100 rfl ?_
  obtain ⟨M144, hc145, h⟩ := h
  refine fr_callI (ν := mu_X2_init) (As := [.int 20]) (st := [rf g (mx M125), rf g o]) (M1 := M144) rfl rfl dX8_init_102 rfl ml_X8_11 mo_X2_init mn_X2_init (Nat.le_of_ble_eq_true rfl) rfl rfl (Nat.le_of_ble_eq_true rfl) hc145 ?_
  have k146 : KM M144.1 o 8 := KM.ext k135 hc145.1
  have k147 : KM M144.1 (mx M) 2 := KM.ext k136 hc145.1
  have k148 : KM M144.1 (mx M8) 2 := KM.ext k137 hc145.1
  have k149 : KM M144.1 (mx M20) 2 := KM.ext k138 hc145.1
  have k150 : KM M144.1 (mx M35) 2 := KM.ext k139 hc145.1
  have k151 : KM M144.1 (mx M53) 2 := KM.ext k140 hc145.1
  have k152 : KM M144.1 (mx M74) 2 := KM.ext k141 hc145.1
  have k153 : KM M144.1 (mx M98) 2 := KM.ext k142 hc145.1
  have k154 : KM M144.1 (mx M125) 2 := KM.ext k143 hc145.1
  refine fr_putFR rfl dX8_init_105 rfl fp_X8_38 k146 ?_
  refine fr_mem (fun M155 hM155 => ?_)
  have h := h M155 hM155
  have k156 : KM M155.1 o 8 := by rw [hM155]; exact k146
  have k157 : KM M155.1 (mx M) 2 := by rw [hM155]; exact k147
  have k158 : KM M155.1 (mx M8) 2 := by rw [hM155]; exact k148
  have k159 : KM M155.1 (mx M20) 2 := by rw [hM155]; exact k149
  have k160 : KM M155.1 (mx M35) 2 := by rw [hM155]; exact k150
  have k161 : KM M155.1 (mx M53) 2 := by rw [hM155]; exact k151
  have k162 : KM M155.1 (mx M74) 2 := by rw [hM155]; exact k152
  have k163 : KM M155.1 (mx M98) 2 := by rw [hM155]; exact k153
  have k164 : KM M155.1 (mx M125) 2 := by rw [hM155]; exact k154
  refine fr_aload_n (i := 0) (q := 0) rfl dX8_init_108 rfl ?_
  refine fr_new dX8_init_109 rfl nl_X8_9 ?_
  refine fr_mem (fun M165 hM165 => ?_)
  have h := h M165 hM165
  have k166 : KM M165.1 o 8 := by rw [hM165]; exact KM.ext k156 (Ext.nw _ _ _)
  have k167 : KM M165.1 (mx M) 2 := by rw [hM165]; exact KM.ext k157 (Ext.nw _ _ _)
  have k168 : KM M165.1 (mx M8) 2 := by rw [hM165]; exact KM.ext k158 (Ext.nw _ _ _)
  have k169 : KM M165.1 (mx M20) 2 := by rw [hM165]; exact KM.ext k159 (Ext.nw _ _ _)
  have k170 : KM M165.1 (mx M35) 2 := by rw [hM165]; exact KM.ext k160 (Ext.nw _ _ _)
  have k171 : KM M165.1 (mx M53) 2 := by rw [hM165]; exact KM.ext k161 (Ext.nw _ _ _)
  have k172 : KM M165.1 (mx M74) 2 := by rw [hM165]; exact KM.ext k162 (Ext.nw _ _ _)
  have k173 : KM M165.1 (mx M98) 2 := by rw [hM165]; exact KM.ext k163 (Ext.nw _ _ _)
  have k174 : KM M165.1 (mx M125) 2 := by rw [hM165]; exact KM.ext k164 (Ext.nw _ _ _)
  have k175 : KM M165.1 (mx M155) 2 := by rw [hM165]; exact KM.nw _ _ _
  refine fr_dup rfl dX8_init_112 rfl ?_
  refine fr_bipush (v := 6) (by decide) dX8_init_113 rfl ?_
  obtain ⟨M176, hc177, h⟩ := h
  refine fr_callI (ν := mu_X2_init) (As := [.int 6]) (st := [rf g (mx M155), rf g o]) (M1 := M176) rfl rfl dX8_init_115 rfl ml_X8_11 mo_X2_init mn_X2_init (Nat.le_of_ble_eq_true rfl) rfl rfl (Nat.le_of_ble_eq_true rfl) hc177 ?_
  have k178 : KM M176.1 o 8 := KM.ext k166 hc177.1
  have k179 : KM M176.1 (mx M) 2 := KM.ext k167 hc177.1
  have k180 : KM M176.1 (mx M8) 2 := KM.ext k168 hc177.1
  have k181 : KM M176.1 (mx M20) 2 := KM.ext k169 hc177.1
  have k182 : KM M176.1 (mx M35) 2 := KM.ext k170 hc177.1
  have k183 : KM M176.1 (mx M53) 2 := KM.ext k171 hc177.1
  have k184 : KM M176.1 (mx M74) 2 := KM.ext k172 hc177.1
  have k185 : KM M176.1 (mx M98) 2 := KM.ext k173 hc177.1
  have k186 : KM M176.1 (mx M125) 2 := KM.ext k174 hc177.1
  have k187 : KM M176.1 (mx M155) 2 := KM.ext k175 hc177.1
  refine fr_putFR rfl dX8_init_118 rfl fp_X8_41 k178 ?_
  refine fr_mem (fun M188 hM188 => ?_)
  have h := h M188 hM188
  have k189 : KM M188.1 o 8 := by rw [hM188]; exact k178
  have k190 : KM M188.1 (mx M) 2 := by rw [hM188]; exact k179
  have k191 : KM M188.1 (mx M8) 2 := by rw [hM188]; exact k180
  have k192 : KM M188.1 (mx M20) 2 := by rw [hM188]; exact k181
  have k193 : KM M188.1 (mx M35) 2 := by rw [hM188]; exact k182
  have k194 : KM M188.1 (mx M53) 2 := by rw [hM188]; exact k183
  have k195 : KM M188.1 (mx M74) 2 := by rw [hM188]; exact k184
  have k196 : KM M188.1 (mx M98) 2 := by rw [hM188]; exact k185
  have k197 : KM M188.1 (mx M125) 2 := by rw [hM188]; exact k186
  have k198 : KM M188.1 (mx M155) 2 := by rw [hM188]; exact k187
  refine fr_aload_n (i := 0) (q := 0) rfl dX8_init_121 rfl ?_
  refine fr_new dX8_init_122 rfl nl_X8_9 ?_
  refine fr_mem (fun M199 hM199 => ?_)
  have h := h M199 hM199
  have k200 : KM M199.1 o 8 := by rw [hM199]; exact KM.ext k189 (Ext.nw _ _ _)
  have k201 : KM M199.1 (mx M) 2 := by rw [hM199]; exact KM.ext k190 (Ext.nw _ _ _)
  have k202 : KM M199.1 (mx M8) 2 := by rw [hM199]; exact KM.ext k191 (Ext.nw _ _ _)
  have k203 : KM M199.1 (mx M20) 2 := by rw [hM199]; exact KM.ext k192 (Ext.nw _ _ _)
  have k204 : KM M199.1 (mx M35) 2 := by rw [hM199]; exact KM.ext k193 (Ext.nw _ _ _)
  have k205 : KM M199.1 (mx M53) 2 := by rw [hM199]; exact KM.ext k194 (Ext.nw _ _ _)
  have k206 : KM M199.1 (mx M74) 2 := by rw [hM199]; exact KM.ext k195 (Ext.nw _ _ _)
  have k207 : KM M199.1 (mx M98) 2 := by rw [hM199]; exact KM.ext k196 (Ext.nw _ _ _)
  have k208 : KM M199.1 (mx M125) 2 := by rw [hM199]; exact KM.ext k197 (Ext.nw _ _ _)
  have k209 : KM M199.1 (mx M155) 2 := by rw [hM199]; exact KM.ext k198 (Ext.nw _ _ _)
  have k210 : KM M199.1 (mx M188) 2 := by rw [hM199]; exact KM.nw _ _ _
  refine fr_dup rfl dX8_init_125 rfl ?_
  refine fr_bipush (v := 6) (by decide) dX8_init_126 rfl ?_
  obtain ⟨M211, hc212, h⟩ := h
  refine fr_callI (ν := mu_X2_init) (As := [.int 6]) (st := [rf g (mx M188), rf g o]) (M1 := M211) rfl rfl dX8_init_128 rfl ml_X8_11 mo_X2_init mn_X2_init (Nat.le_of_ble_eq_true rfl) rfl rfl (Nat.le_of_ble_eq_true rfl) hc212 ?_
  have k213 : KM M211.1 o 8 := KM.ext k200 hc212.1
  have k214 : KM M211.1 (mx M) 2 := KM.ext k201 hc212.1
  have k215 : KM M211.1 (mx M8) 2 := KM.ext k202 hc212.1
  have k216 : KM M211.1 (mx M20) 2 := KM.ext k203 hc212.1
  have k217 : KM M211.1 (mx M35) 2 := KM.ext k204 hc212.1
  have k218 : KM M211.1 (mx M53) 2 := KM.ext k205 hc212.1
  have k219 : KM M211.1 (mx M74) 2 := KM.ext k206 hc212.1
  have k220 : KM M211.1 (mx M98) 2 := KM.ext k207 hc212.1
  have k221 : KM M211.1 (mx M125) 2 := KM.ext k208 hc212.1
  have k222 : KM M211.1 (mx M155) 2 := KM.ext k209 hc212.1
  have k223 : KM M211.1 (mx M188) 2 := KM.ext k210 hc212.1
  refine fr_putFR rfl dX8_init_131 rfl fp_X8_44 k213 ?_
  refine fr_mem (fun M224 hM224 => ?_)
  have h := h M224 hM224
  have k225 : KM M224.1 o 8 := by rw [hM224]; exact k213
  have k226 : KM M224.1 (mx M) 2 := by rw [hM224]; exact k214
  have k227 : KM M224.1 (mx M8) 2 := by rw [hM224]; exact k215
  have k228 : KM M224.1 (mx M20) 2 := by rw [hM224]; exact k216
  have k229 : KM M224.1 (mx M35) 2 := by rw [hM224]; exact k217
  have k230 : KM M224.1 (mx M53) 2 := by rw [hM224]; exact k218
  have k231 : KM M224.1 (mx M74) 2 := by rw [hM224]; exact k219
  have k232 : KM M224.1 (mx M98) 2 := by rw [hM224]; exact k220
  have k233 : KM M224.1 (mx M125) 2 := by rw [hM224]; exact k221
  have k234 : KM M224.1 (mx M155) 2 := by rw [hM224]; exact k222
  have k235 : KM M224.1 (mx M188) 2 := by rw [hM224]; exact k223
  refine fr_aload_n (i := 0) (q := 0) rfl dX8_init_134 rfl ?_
  refine fr_iconst (v := 4) (by decide) dX8_init_135 rfl ?_
  refine fr_newA dX8_init_136 rfl cl_X8_47 (by decide) (by decide) ?_
  refine fr_mem (fun M237 hM237 => ?_)
  have h := h M237 hM237
  have k238 : KM M237.1 o 8 := by rw [hM237]; exact KM.ext k225 (Ext.nw _ _ _)
  have k239 : KM M237.1 (mx M) 2 := by rw [hM237]; exact KM.ext k226 (Ext.nw _ _ _)
  have k240 : KM M237.1 (mx M8) 2 := by rw [hM237]; exact KM.ext k227 (Ext.nw _ _ _)
  have k241 : KM M237.1 (mx M20) 2 := by rw [hM237]; exact KM.ext k228 (Ext.nw _ _ _)
  have k242 : KM M237.1 (mx M35) 2 := by rw [hM237]; exact KM.ext k229 (Ext.nw _ _ _)
  have k243 : KM M237.1 (mx M53) 2 := by rw [hM237]; exact KM.ext k230 (Ext.nw _ _ _)
  have k244 : KM M237.1 (mx M74) 2 := by rw [hM237]; exact KM.ext k231 (Ext.nw _ _ _)
  have k245 : KM M237.1 (mx M98) 2 := by rw [hM237]; exact KM.ext k232 (Ext.nw _ _ _)
  have k246 : KM M237.1 (mx M125) 2 := by rw [hM237]; exact KM.ext k233 (Ext.nw _ _ _)
  have k247 : KM M237.1 (mx M155) 2 := by rw [hM237]; exact KM.ext k234 (Ext.nw _ _ _)
  have k248 : KM M237.1 (mx M188) 2 := by rw [hM237]; exact KM.ext k235 (Ext.nw _ _ _)
  have k249 : KM M237.1 (mx M224) 16 := by rw [hM237]; exact KM.nw _ _ _
  refine fr_putFA rfl dX8_init_139 rfl fp_X8_49 k238 ?_
  refine fr_mem (fun M250 hM250 => ?_)
  have h := h M250 hM250
  have k251 : KM M250.1 o 8 := by rw [hM250]; exact k238
  have k252 : KM M250.1 (mx M) 2 := by rw [hM250]; exact k239
  have k253 : KM M250.1 (mx M8) 2 := by rw [hM250]; exact k240
  have k254 : KM M250.1 (mx M20) 2 := by rw [hM250]; exact k241
  have k255 : KM M250.1 (mx M35) 2 := by rw [hM250]; exact k242
  have k256 : KM M250.1 (mx M53) 2 := by rw [hM250]; exact k243
  have k257 : KM M250.1 (mx M74) 2 := by rw [hM250]; exact k244
  have k258 : KM M250.1 (mx M98) 2 := by rw [hM250]; exact k245
  have k259 : KM M250.1 (mx M125) 2 := by rw [hM250]; exact k246
  have k260 : KM M250.1 (mx M155) 2 := by rw [hM250]; exact k247
  have k261 : KM M250.1 (mx M188) 2 := by rw [hM250]; exact k248
  have k262 : KM M250.1 (mx M224) 16 := by rw [hM250]; exact k249
  refine fr_aload_n (i := 0) (q := 0) rfl dX8_init_142 rfl ?_
  refine fr_iconst (v := 2) (by decide) dX8_init_143 rfl ?_
  refine fr_iconst (v := 5) (by decide) dX8_init_144 rfl ?_
  refine fr_iload_n (i := 1) (q := 1) rfl dX8_init_145 rfl ?_
  refine fr_mmin dX8_init_146 rfl ml_X8_53 w_mmin (Nat.le_of_ble_eq_true rfl) (Nat.le_of_ble_eq_true rfl) ?_
  refine fr_mmax dX8_init_149 rfl ml_X8_59 w_mmax (Nat.le_of_ble_eq_true rfl) (Nat.le_of_ble_eq_true rfl) ?_
  refine fr_putFI rfl dX8_init_152 rfl fp_X8_62 k251 ?_
  refine fr_mem (fun M263 hM263 => ?_)
  have h := h M263 hM263
  have k264 : KM M263.1 o 8 := by rw [hM263]; exact k251
  have k265 : KM M263.1 (mx M) 2 := by rw [hM263]; exact k252
  have k266 : KM M263.1 (mx M8) 2 := by rw [hM263]; exact k253
  have k267 : KM M263.1 (mx M20) 2 := by rw [hM263]; exact k254
  have k268 : KM M263.1 (mx M35) 2 := by rw [hM263]; exact k255
  have k269 : KM M263.1 (mx M53) 2 := by rw [hM263]; exact k256
  have k270 : KM M263.1 (mx M74) 2 := by rw [hM263]; exact k257
  have k271 : KM M263.1 (mx M98) 2 := by rw [hM263]; exact k258
  have k272 : KM M263.1 (mx M125) 2 := by rw [hM263]; exact k259
  have k273 : KM M263.1 (mx M155) 2 := by rw [hM263]; exact k260
  have k274 : KM M263.1 (mx M188) 2 := by rw [hM263]; exact k261
  have k275 : KM M263.1 (mx M224) 16 := by rw [hM263]; exact k262
  refine fr_aload_n (i := 0) (q := 0) rfl dX8_init_155 rfl ?_
  refine fr_iconst (v := 2) (by decide) dX8_init_156 rfl ?_
  refine fr_iconst (v := 5) (by decide) dX8_init_157 rfl ?_
  refine fr_iload_n (i := 2) (q := 2) rfl dX8_init_158 rfl ?_
  refine fr_mmin dX8_init_159 rfl ml_X8_53 w_mmin (Nat.le_of_ble_eq_true rfl) (Nat.le_of_ble_eq_true rfl) ?_
  refine fr_mmax dX8_init_162 rfl ml_X8_59 w_mmax (Nat.le_of_ble_eq_true rfl) (Nat.le_of_ble_eq_true rfl) ?_
  refine fr_putFI rfl dX8_init_165 rfl fp_X8_66 k264 ?_
  refine fr_mem (fun M276 hM276 => ?_)
  have h := h M276 hM276
  have k277 : KM M276.1 o 8 := by rw [hM276]; exact k264
  have k278 : KM M276.1 (mx M) 2 := by rw [hM276]; exact k265
  have k279 : KM M276.1 (mx M8) 2 := by rw [hM276]; exact k266
  have k280 : KM M276.1 (mx M20) 2 := by rw [hM276]; exact k267
  have k281 : KM M276.1 (mx M35) 2 := by rw [hM276]; exact k268
  have k282 : KM M276.1 (mx M53) 2 := by rw [hM276]; exact k269
  have k283 : KM M276.1 (mx M74) 2 := by rw [hM276]; exact k270
  have k284 : KM M276.1 (mx M98) 2 := by rw [hM276]; exact k271
  have k285 : KM M276.1 (mx M125) 2 := by rw [hM276]; exact k272
  have k286 : KM M276.1 (mx M155) 2 := by rw [hM276]; exact k273
  have k287 : KM M276.1 (mx M188) 2 := by rw [hM276]; exact k274
  have k288 : KM M276.1 (mx M224) 16 := by rw [hM276]; exact k275
  refine fr_aload_n (i := 0) (q := 0) rfl dX8_init_168 rfl ?_
  refine fr_new dX8_init_169 rfl nl_X8_9 ?_
  refine fr_mem (fun M289 hM289 => ?_)
  have h := h M289 hM289
  have k290 : KM M289.1 o 8 := by rw [hM289]; exact KM.ext k277 (Ext.nw _ _ _)
  have k291 : KM M289.1 (mx M) 2 := by rw [hM289]; exact KM.ext k278 (Ext.nw _ _ _)
  have k292 : KM M289.1 (mx M8) 2 := by rw [hM289]; exact KM.ext k279 (Ext.nw _ _ _)
  have k293 : KM M289.1 (mx M20) 2 := by rw [hM289]; exact KM.ext k280 (Ext.nw _ _ _)
  have k294 : KM M289.1 (mx M35) 2 := by rw [hM289]; exact KM.ext k281 (Ext.nw _ _ _)
  have k295 : KM M289.1 (mx M53) 2 := by rw [hM289]; exact KM.ext k282 (Ext.nw _ _ _)
  have k296 : KM M289.1 (mx M74) 2 := by rw [hM289]; exact KM.ext k283 (Ext.nw _ _ _)
  have k297 : KM M289.1 (mx M98) 2 := by rw [hM289]; exact KM.ext k284 (Ext.nw _ _ _)
  have k298 : KM M289.1 (mx M125) 2 := by rw [hM289]; exact KM.ext k285 (Ext.nw _ _ _)
  have k299 : KM M289.1 (mx M155) 2 := by rw [hM289]; exact KM.ext k286 (Ext.nw _ _ _)
  have k300 : KM M289.1 (mx M188) 2 := by rw [hM289]; exact KM.ext k287 (Ext.nw _ _ _)
  have k301 : KM M289.1 (mx M224) 16 := by rw [hM289]; exact KM.ext k288 (Ext.nw _ _ _)
  have k302 : KM M289.1 (mx M276) 2 := by rw [hM289]; exact KM.nw _ _ _
  refine fr_dup rfl dX8_init_172 rfl ?_
  refine fr_aload_n (i := 0) (q := 0) rfl dX8_init_173 rfl ?_
  refine fr_getI dX8_init_174 rfl fl_X8_62 k290 ?_
  refine fr_aload_n (i := 0) (q := 0) rfl dX8_init_177 rfl ?_
  refine fr_getI dX8_init_178 rfl fl_X8_66 k290 ?_
  refine fr_imul dX8_init_181 rfl ?_
  obtain ⟨M303, hc304, h⟩ := h
  refine fr_callI (ν := mu_X2_init) (As := [.int ((mI M289 o 0) * (mI M289 o 1))]) (st := [rf g (mx M276), rf g o]) (M1 := M303) rfl rfl dX8_init_182 rfl ml_X8_11 mo_X2_init mn_X2_init (Nat.le_of_ble_eq_true rfl) rfl rfl (Nat.le_of_ble_eq_true rfl) hc304 ?_
  have k305 : KM M303.1 o 8 := KM.ext k290 hc304.1
  have k306 : KM M303.1 (mx M) 2 := KM.ext k291 hc304.1
  have k307 : KM M303.1 (mx M8) 2 := KM.ext k292 hc304.1
  have k308 : KM M303.1 (mx M20) 2 := KM.ext k293 hc304.1
  have k309 : KM M303.1 (mx M35) 2 := KM.ext k294 hc304.1
  have k310 : KM M303.1 (mx M53) 2 := KM.ext k295 hc304.1
  have k311 : KM M303.1 (mx M74) 2 := KM.ext k296 hc304.1
  have k312 : KM M303.1 (mx M98) 2 := KM.ext k297 hc304.1
  have k313 : KM M303.1 (mx M125) 2 := KM.ext k298 hc304.1
  have k314 : KM M303.1 (mx M155) 2 := KM.ext k299 hc304.1
  have k315 : KM M303.1 (mx M188) 2 := KM.ext k300 hc304.1
  have k316 : KM M303.1 (mx M224) 16 := KM.ext k301 hc304.1
  have k317 : KM M303.1 (mx M276) 2 := KM.ext k302 hc304.1
  refine fr_putFR rfl dX8_init_185 rfl fp_X8_69 k305 ?_
  refine fr_mem (fun M318 hM318 => ?_)
  have h := h M318 hM318
  have k319 : KM M318.1 o 8 := by rw [hM318]; exact k305
  have k320 : KM M318.1 (mx M) 2 := by rw [hM318]; exact k306
  have k321 : KM M318.1 (mx M8) 2 := by rw [hM318]; exact k307
  have k322 : KM M318.1 (mx M20) 2 := by rw [hM318]; exact k308
  have k323 : KM M318.1 (mx M35) 2 := by rw [hM318]; exact k309
  have k324 : KM M318.1 (mx M53) 2 := by rw [hM318]; exact k310
  have k325 : KM M318.1 (mx M74) 2 := by rw [hM318]; exact k311
  have k326 : KM M318.1 (mx M98) 2 := by rw [hM318]; exact k312
  have k327 : KM M318.1 (mx M125) 2 := by rw [hM318]; exact k313
  have k328 : KM M318.1 (mx M155) 2 := by rw [hM318]; exact k314
  have k329 : KM M318.1 (mx M188) 2 := by rw [hM318]; exact k315
  have k330 : KM M318.1 (mx M224) 16 := by rw [hM318]; exact k316
  have k331 : KM M318.1 (mx M276) 2 := by rw [hM318]; exact k317
  refine fr_iconst (v := 0) (by decide) dX8_init_188 rfl ?_
  refine fr_istore_n (i := 3) (lv' := [(3, .int 0), (0, rf g o), (1, .int x1), (2, .int x2)]) dX8_init_189 rfl (by decide) rfl ?_
  exact fr_sub [1, 0] rfl h
theorem wp_X8_init_190 {g : GE} {M : Mem} {r : Option Value} {M' : Mem} {o : Nat} {u3 : Int32} (k_o : KM M.1 o 8) (h : ((((mI M o 0) * (mI M o 1)) ≤ u3 → (r = none ∧ M' = M)) ∧ (¬ ((mI M o 0) * (mI M o 1)) ≤ u3 → (∃ b1 : Nat, mR M o 2 = some b1 ∧ KM M.1 b1 2 ∧ (∃ (M2 : Mem), Cl g 1 mu_X2_add [rf g b1, .int 0] M none M2 ∧ (∀ y6 : Int32, y6 = (u3 + 1) → Lp_X8_init_190 g 3 o y6 M2 r M')))))) : Lp_X8_init_190 g 3 o u3 M r M' := by
  refine fr_iload_n (i := 3) (q := 1) rfl dX8_init_190 rfl ?_
  refine fr_aload_n (i := 0) (q := 0) rfl dX8_init_191 rfl ?_
  refine fr_getI dX8_init_192 rfl fl_X8_62 k_o ?_
  refine fr_aload_n (i := 0) (q := 0) rfl dX8_init_195 rfl ?_
  refine fr_getI dX8_init_196 rfl fl_X8_66 k_o ?_
  refine fr_imul dX8_init_199 rfl ?_
  refine fr_icmp_ge (tgt := 217) dX8_init_200 (by decide) rfl (fun hc => ?_) (fun hc => ?_)
  · have h := h.1 hc
    exact fr_vret rfl dX8_init_217 h.1 h.2
  · have h := h.2 hc
    refine fr_aload_n (i := 0) (q := 0) rfl dX8_init_203 rfl ?_
    obtain ⟨b1, r_b1, k_b1, h⟩ := h
    refine fr_getR dX8_init_204 rfl fl_X8_69 k_o r_b1 ?_
    refine fr_iconst (v := 0) (by decide) dX8_init_207 rfl ?_
    obtain ⟨M2, hc3, h⟩ := h
    refine fr_callV2 (ν := mu_X2_add) (st2 := []) (As := [.int 0]) (st := []) (v := none) (M1 := M2) dX8_init_208 rfl ml_X8_72 mo_X2_add mi_X2_add (ci := 2) rfl rfl k_b1 (Nat.le_of_ble_eq_true rfl) rfl rfl (Nat.le_of_ble_eq_true rfl) hc3 rfl ?_
    have k4 : KM M2.1 o 8 := KM.ext k_o hc3.1
    have k5 : KM M2.1 b1 2 := KM.ext k_b1 hc3.1
    obtain ⟨y6, hy6⟩ : ∃ y : Int32, y = u3 + 1 := ⟨_, rfl⟩
    have h := h y6 hy6
    refine fr_iinc (q := 1) (v := y6) (lv' := [(3, .int y6), (0, rf g o)]) rfl (by rw [hy6]; rfl) dX8_init_211 rfl (by decide) rfl ?_
    refine fr_goto (n := 190) dX8_init_214 (by decide) ?_
    exact fr_sub [1, 0] rfl h
theorem cp_X11_init {g : GE} {M : Mem} {r : Option Value} {M' : Mem} {o : Nat} {x1 : Int32} {x2 : Int32} (k_o : KM M.1 o 11) (h : (∀ M1 : Mem, M1 = nw M 2 2 → (∃ (M4 : Mem), Cl g 2 mu_X2_init [rf g (mx M), .int 300] M1 none M4 ∧ (∀ M8 : Mem, M8 = sR M4 o (va_up (mR M4 o) 2 (some (mx M))) → (∀ M11 : Mem, M11 = nw M8 5 10 → (∃ (M15 : Mem), Cl g 4 mu_X5_init [rf g (mx M8)] M11 none M15 ∧ (∀ M20 : Mem, M20 = sR M15 o (va_up (mR M15 o) 3 (some (mx M8))) → (∀ M24 : Mem, M24 = nw M20 4 3 → (∃ (M29 : Mem), Cl g 2 mu_X4_init [rf g (mx M20)] M24 none M29 ∧ (∀ M35 : Mem, M35 = sR M29 o (va_up (mR M29 o) 4 (some (mx M20))) → (∀ M41 : Mem, M41 = nw M35 14 ((100 : Int32).toNatClampNeg) → (∀ M47 : Mem, M47 = sR M41 o (va_up (mR M41 o) 8 (some (mx M35))) → (∀ M54 : Mem, M54 = nw M47 14 ((100 : Int32).toNatClampNeg) → (∀ M61 : Mem, M61 = sR M54 o (va_up (mR M54 o) 9 (some (mx M47))) → (∀ M68 : Mem, M68 = sI M61 o (upd (mI M61 o) 10 ((-1))) → (∀ M75 : Mem, M75 = sI M68 o (upd (mI M68 o) 11 ((-1))) → (∀ M82 : Mem, M82 = nw M75 8 15 → (∃ (M90 : Mem), Cl g 3 mu_X8_init [rf g (mx M75), .int x1, .int x2] M82 none M90 ∧ (∀ M99 : Mem, M99 = sR M90 o (va_up (mR M90 o) 0 (some (mx M75))) → (∀ M107 : Mem, M107 = nw M99 8 15 → (∃ (M116 : Mem), Cl g 3 mu_X8_init [rf g (mx M99), .int x1, .int x2] M107 none M116 ∧ (∀ M126 : Mem, M126 = sR M116 o (va_up (mR M116 o) 1 (some (mx M99))) → (∀ M135 : Mem, M135 = nw M126 3 3 → (∃ b145 : Nat, mR M135 o 0 = some b145 ∧ KM M135.1 b145 8 ∧ (∃ b146 : Nat, mR M135 o 4 = some b146 ∧ KM M135.1 b146 4 ∧ (∃ (M147 : Mem), Cl g 2 mu_X3_init [rf g (mx M126), rf g b145, rf g b146] M135 none M147 ∧ (∀ M160 : Mem, M160 = sR M147 o (va_up (mR M147 o) 5 (some (mx M126))) → (∀ M172 : Mem, M172 = nw M160 10 9 → (∃ b185 : Nat, mR M172 o 0 = some b185 ∧ KM M172.1 b185 8 ∧ (∃ b186 : Nat, mR M172 o 4 = some b186 ∧ KM M172.1 b186 4 ∧ (∃ (M187 : Mem), Cl g 2 mu_X10_init [rf g (mx M160), rf g b185, rf g b186] M172 none M187 ∧ (∀ M203 : Mem, M203 = sR M187 o (va_up (mR M187 o) 6 (some (mx M160))) → (∀ M218 : Mem, M218 = nw M203 1 4 → (∃ b234 : Nat, mR M218 o 0 = some b234 ∧ KM M218.1 b234 8 ∧ (∃ b235 : Nat, mR M218 o 5 = some b235 ∧ KM M218.1 b235 3 ∧ (∃ (M236 : Mem), Cl g 2 mu_X1_init [rf g (mx M203), rf g b234, rf g b235] M218 none M236 ∧ (∀ M255 : Mem, M255 = sR M236 o (va_up (mR M236 o) 7 (some (mx M203))) → (r = none ∧ M' = M255)))))))))))))))))))))))))))))))))))))) : Cl g 5 mu_X11_init [rf g o, .int x1, .int x2] M r M' := by
  refine cl_of (lv := [(0, rf g o), (1, .int x1), (2, .int x2)]) (by decide) (Nat.le_of_ble_eq_true rfl) rfl ?_
  refine fr_aload_n (i := 0) (q := 0) rfl dX11_init_0 rfl ?_
  refine fr_obj dX11_init_1 rfl ⟨ml_X11_1, wo_init.1, wo_init.2⟩ (Nat.le_of_ble_eq_true rfl) (Nat.le_of_ble_eq_true rfl) ?_
  refine fr_aload_n (i := 0) (q := 0) rfl dX11_init_4 rfl ?_
  refine fr_new dX11_init_5 rfl nl_X11_7 ?_
  refine fr_mem (fun M1 hM1 => ?_)
  have h := h M1 hM1
  have k2 : KM M1.1 o 11 := by rw [hM1]; exact KM.ext k_o (Ext.nw _ _ _)
  have k3 : KM M1.1 (mx M) 2 := by rw [hM1]; exact KM.nw _ _ _
  refine fr_dup rfl dX11_init_8 rfl ?_
  refine fr_sipush (v := 300) (by decide) dX11_init_9 rfl ?_
  obtain ⟨M4, hc5, h⟩ := h
  refine fr_callI (ν := mu_X2_init) (As := [.int 300]) (st := [rf g (mx M), rf g o]) (M1 := M4) rfl rfl dX11_init_12 rfl ml_X11_11 mo_X2_init mn_X2_init (Nat.le_of_ble_eq_true rfl) rfl rfl (Nat.le_of_ble_eq_true rfl) hc5 ?_
  have k6 : KM M4.1 o 11 := KM.ext k2 hc5.1
  have k7 : KM M4.1 (mx M) 2 := KM.ext k3 hc5.1
  refine fr_putFR rfl dX11_init_15 rfl fp_X11_14 k6 ?_
  refine fr_mem (fun M8 hM8 => ?_)
  have h := h M8 hM8
  have k9 : KM M8.1 o 11 := by rw [hM8]; exact k6
  have k10 : KM M8.1 (mx M) 2 := by rw [hM8]; exact k7
  refine fr_aload_n (i := 0) (q := 0) rfl dX11_init_18 rfl ?_
  refine fr_new dX11_init_19 rfl nl_X11_18 ?_
  refine fr_mem (fun M11 hM11 => ?_)
  have h := h M11 hM11
  have k12 : KM M11.1 o 11 := by rw [hM11]; exact KM.ext k9 (Ext.nw _ _ _)
  have k13 : KM M11.1 (mx M) 2 := by rw [hM11]; exact KM.ext k10 (Ext.nw _ _ _)
  have k14 : KM M11.1 (mx M8) 5 := by rw [hM11]; exact KM.nw _ _ _
  refine fr_dup rfl dX11_init_22 rfl ?_
  obtain ⟨M15, hc16, h⟩ := h
  refine fr_callIN (ν := mu_X5_init) (As := []) (st := [rf g (mx M8), rf g o]) (M1 := M15) rfl rfl dX11_init_23 rfl (by decide) mo_X5_init mn_X5_init (Nat.le_of_ble_eq_true rfl) rfl rfl (Nat.le_of_ble_eq_true rfl) hc16 ?_
  have k17 : KM M15.1 o 11 := KM.ext k12 hc16.1
  have k18 : KM M15.1 (mx M) 2 := KM.ext k13 hc16.1
  have k19 : KM M15.1 (mx M8) 5 := KM.ext k14 hc16.1
  refine fr_putFR rfl dX11_init_26 rfl fp_X11_21 k17 ?_
  refine fr_mem (fun M20 hM20 => ?_)
  have h := h M20 hM20
  have k21 : KM M20.1 o 11 := by rw [hM20]; exact k17
  have k22 : KM M20.1 (mx M) 2 := by rw [hM20]; exact k18
  have k23 : KM M20.1 (mx M8) 5 := by rw [hM20]; exact k19
  refine fr_aload_n (i := 0) (q := 0) rfl dX11_init_29 rfl ?_
  refine fr_new dX11_init_30 rfl nl_X11_25 ?_
  refine fr_mem (fun M24 hM24 => ?_)
  have h := h M24 hM24
  have k25 : KM M24.1 o 11 := by rw [hM24]; exact KM.ext k21 (Ext.nw _ _ _)
  have k26 : KM M24.1 (mx M) 2 := by rw [hM24]; exact KM.ext k22 (Ext.nw _ _ _)
  have k27 : KM M24.1 (mx M8) 5 := by rw [hM24]; exact KM.ext k23 (Ext.nw _ _ _)
  have k28 : KM M24.1 (mx M20) 4 := by rw [hM24]; exact KM.nw _ _ _
  refine fr_dup rfl dX11_init_33 rfl ?_
  obtain ⟨M29, hc30, h⟩ := h
  refine fr_callIN (ν := mu_X4_init) (As := []) (st := [rf g (mx M20), rf g o]) (M1 := M29) rfl rfl dX11_init_34 rfl (by decide) mo_X4_init mn_X4_init (Nat.le_of_ble_eq_true rfl) rfl rfl (Nat.le_of_ble_eq_true rfl) hc30 ?_
  have k31 : KM M29.1 o 11 := KM.ext k25 hc30.1
  have k32 : KM M29.1 (mx M) 2 := KM.ext k26 hc30.1
  have k33 : KM M29.1 (mx M8) 5 := KM.ext k27 hc30.1
  have k34 : KM M29.1 (mx M20) 4 := KM.ext k28 hc30.1
  refine fr_putFR rfl dX11_init_37 rfl fp_X11_28 k31 ?_
  refine fr_mem (fun M35 hM35 => ?_)
  have h := h M35 hM35
  have k36 : KM M35.1 o 11 := by rw [hM35]; exact k31
  have k37 : KM M35.1 (mx M) 2 := by rw [hM35]; exact k32
  have k38 : KM M35.1 (mx M8) 5 := by rw [hM35]; exact k33
  have k39 : KM M35.1 (mx M20) 4 := by rw [hM35]; exact k34
  refine fr_aload_n (i := 0) (q := 0) rfl dX11_init_40 rfl ?_
  refine fr_bipush (v := 100) (by decide) dX11_init_41 rfl ?_
  refine fr_newL dX11_init_43 rfl ac_long (by decide) (by decide) ?_
  refine fr_mem (fun M41 hM41 => ?_)
  have h := h M41 hM41
  have k42 : KM M41.1 o 11 := by rw [hM41]; exact KM.ext k36 (Ext.nw _ _ _)
  have k43 : KM M41.1 (mx M) 2 := by rw [hM41]; exact KM.ext k37 (Ext.nw _ _ _)
  have k44 : KM M41.1 (mx M8) 5 := by rw [hM41]; exact KM.ext k38 (Ext.nw _ _ _)
  have k45 : KM M41.1 (mx M20) 4 := by rw [hM41]; exact KM.ext k39 (Ext.nw _ _ _)
  have k46 : KM M41.1 (mx M35) 14 := by rw [hM41]; exact KM.nw _ _ _
  refine fr_putFA rfl dX11_init_45 rfl fp_X11_32 k42 ?_
  refine fr_mem (fun M47 hM47 => ?_)
  have h := h M47 hM47
  have k48 : KM M47.1 o 11 := by rw [hM47]; exact k42
  have k49 : KM M47.1 (mx M) 2 := by rw [hM47]; exact k43
  have k50 : KM M47.1 (mx M8) 5 := by rw [hM47]; exact k44
  have k51 : KM M47.1 (mx M20) 4 := by rw [hM47]; exact k45
  have k52 : KM M47.1 (mx M35) 14 := by rw [hM47]; exact k46
  refine fr_aload_n (i := 0) (q := 0) rfl dX11_init_48 rfl ?_
  refine fr_bipush (v := 100) (by decide) dX11_init_49 rfl ?_
  refine fr_newL dX11_init_51 rfl ac_long (by decide) (by decide) ?_
  refine fr_mem (fun M54 hM54 => ?_)
  have h := h M54 hM54
  have k55 : KM M54.1 o 11 := by rw [hM54]; exact KM.ext k48 (Ext.nw _ _ _)
  have k56 : KM M54.1 (mx M) 2 := by rw [hM54]; exact KM.ext k49 (Ext.nw _ _ _)
  have k57 : KM M54.1 (mx M8) 5 := by rw [hM54]; exact KM.ext k50 (Ext.nw _ _ _)
  have k58 : KM M54.1 (mx M20) 4 := by rw [hM54]; exact KM.ext k51 (Ext.nw _ _ _)
  have k59 : KM M54.1 (mx M35) 14 := by rw [hM54]; exact KM.ext k52 (Ext.nw _ _ _)
  have k60 : KM M54.1 (mx M47) 14 := by rw [hM54]; exact KM.nw _ _ _
  refine fr_putFA rfl dX11_init_53 rfl fp_X11_36 k55 ?_
  refine fr_mem (fun M61 hM61 => ?_)
  have h := h M61 hM61
  have k62 : KM M61.1 o 11 := by rw [hM61]; exact k55
  have k63 : KM M61.1 (mx M) 2 := by rw [hM61]; exact k56
  have k64 : KM M61.1 (mx M8) 5 := by rw [hM61]; exact k57
  have k65 : KM M61.1 (mx M20) 4 := by rw [hM61]; exact k58
  have k66 : KM M61.1 (mx M35) 14 := by rw [hM61]; exact k59
  have k67 : KM M61.1 (mx M47) 14 := by rw [hM61]; exact k60
  refine fr_aload_n (i := 0) (q := 0) rfl dX11_init_56 rfl ?_
  refine fr_iconst (v := (-1)) (by decide) dX11_init_57 rfl ?_
  refine fr_putI dX11_init_58 rfl fp_X11_39 k62 ?_
  refine fr_mem (fun M68 hM68 => ?_)
  have h := h M68 hM68
  have k69 : KM M68.1 o 11 := by rw [hM68]; exact k62
  have k70 : KM M68.1 (mx M) 2 := by rw [hM68]; exact k63
  have k71 : KM M68.1 (mx M8) 5 := by rw [hM68]; exact k64
  have k72 : KM M68.1 (mx M20) 4 := by rw [hM68]; exact k65
  have k73 : KM M68.1 (mx M35) 14 := by rw [hM68]; exact k66
  have k74 : KM M68.1 (mx M47) 14 := by rw [hM68]; exact k67
  refine fr_aload_n (i := 0) (q := 0) rfl dX11_init_61 rfl ?_
  refine fr_iconst (v := (-1)) (by decide) dX11_init_62 rfl ?_
  refine fr_putI dX11_init_63 rfl fp_X11_43 k69 ?_
  refine fr_mem (fun M75 hM75 => ?_)
  have h := h M75 hM75
  have k76 : KM M75.1 o 11 := by rw [hM75]; exact k69
  have k77 : KM M75.1 (mx M) 2 := by rw [hM75]; exact k70
  have k78 : KM M75.1 (mx M8) 5 := by rw [hM75]; exact k71
  have k79 : KM M75.1 (mx M20) 4 := by rw [hM75]; exact k72
  have k80 : KM M75.1 (mx M35) 14 := by rw [hM75]; exact k73
  have k81 : KM M75.1 (mx M47) 14 := by rw [hM75]; exact k74
  refine fr_aload_n (i := 0) (q := 0) rfl dX11_init_66 rfl ?_
  refine fr_new dX11_init_67 rfl nl_X11_46 ?_
  refine fr_mem (fun M82 hM82 => ?_)
  have h := h M82 hM82
  have k83 : KM M82.1 o 11 := by rw [hM82]; exact KM.ext k76 (Ext.nw _ _ _)
  have k84 : KM M82.1 (mx M) 2 := by rw [hM82]; exact KM.ext k77 (Ext.nw _ _ _)
  have k85 : KM M82.1 (mx M8) 5 := by rw [hM82]; exact KM.ext k78 (Ext.nw _ _ _)
  have k86 : KM M82.1 (mx M20) 4 := by rw [hM82]; exact KM.ext k79 (Ext.nw _ _ _)
  have k87 : KM M82.1 (mx M35) 14 := by rw [hM82]; exact KM.ext k80 (Ext.nw _ _ _)
  have k88 : KM M82.1 (mx M47) 14 := by rw [hM82]; exact KM.ext k81 (Ext.nw _ _ _)
  have k89 : KM M82.1 (mx M75) 8 := by rw [hM82]; exact KM.nw _ _ _
  refine fr_dup rfl dX11_init_70 rfl ?_
  refine fr_iload_n (i := 1) (q := 1) rfl dX11_init_71 rfl ?_
  refine fr_iload_n (i := 2) (q := 2) rfl dX11_init_72 rfl ?_
  obtain ⟨M90, hc91, h⟩ := h
  refine fr_callI (ν := mu_X8_init) (As := [.int x1, .int x2]) (st := [rf g (mx M75), rf g o]) (M1 := M90) rfl rfl dX11_init_73 rfl ml_X11_48 mo_X8_init mn_X8_init (Nat.le_of_ble_eq_true rfl) rfl rfl (Nat.le_of_ble_eq_true rfl) hc91 ?_
  have k92 : KM M90.1 o 11 := KM.ext k83 hc91.1
  have k93 : KM M90.1 (mx M) 2 := KM.ext k84 hc91.1
  have k94 : KM M90.1 (mx M8) 5 := KM.ext k85 hc91.1
  have k95 : KM M90.1 (mx M20) 4 := KM.ext k86 hc91.1
  have k96 : KM M90.1 (mx M35) 14 := KM.ext k87 hc91.1
  have k97 : KM M90.1 (mx M47) 14 := KM.ext k88 hc91.1
  have k98 : KM M90.1 (mx M75) 8 := KM.ext k89 hc91.1
  refine fr_putFR rfl dX11_init_76 rfl fp_X11_51 k92 ?_
  refine fr_mem (fun M99 hM99 => ?_)
  have h := h M99 hM99
  have k100 : KM M99.1 o 11 := by rw [hM99]; exact k92
  have k101 : KM M99.1 (mx M) 2 := by rw [hM99]; exact k93
  have k102 : KM M99.1 (mx M8) 5 := by rw [hM99]; exact k94
  have k103 : KM M99.1 (mx M20) 4 := by rw [hM99]; exact k95
  have k104 : KM M99.1 (mx M35) 14 := by rw [hM99]; exact k96
  have k105 : KM M99.1 (mx M47) 14 := by rw [hM99]; exact k97
  have k106 : KM M99.1 (mx M75) 8 := by rw [hM99]; exact k98
  refine fr_aload_n (i := 0) (q := 0) rfl dX11_init_79 rfl ?_
  refine fr_new dX11_init_80 rfl nl_X11_46 ?_
  refine fr_mem (fun M107 hM107 => ?_)
  have h := h M107 hM107
  have k108 : KM M107.1 o 11 := by rw [hM107]; exact KM.ext k100 (Ext.nw _ _ _)
  have k109 : KM M107.1 (mx M) 2 := by rw [hM107]; exact KM.ext k101 (Ext.nw _ _ _)
  have k110 : KM M107.1 (mx M8) 5 := by rw [hM107]; exact KM.ext k102 (Ext.nw _ _ _)
  have k111 : KM M107.1 (mx M20) 4 := by rw [hM107]; exact KM.ext k103 (Ext.nw _ _ _)
  have k112 : KM M107.1 (mx M35) 14 := by rw [hM107]; exact KM.ext k104 (Ext.nw _ _ _)
  have k113 : KM M107.1 (mx M47) 14 := by rw [hM107]; exact KM.ext k105 (Ext.nw _ _ _)
  have k114 : KM M107.1 (mx M75) 8 := by rw [hM107]; exact KM.ext k106 (Ext.nw _ _ _)
  have k115 : KM M107.1 (mx M99) 8 := by rw [hM107]; exact KM.nw _ _ _
  refine fr_dup rfl dX11_init_83 rfl ?_
  refine fr_iload_n (i := 1) (q := 1) rfl dX11_init_84 rfl ?_
  refine fr_iload_n (i := 2) (q := 2) rfl dX11_init_85 rfl ?_
  obtain ⟨M116, hc117, h⟩ := h
  refine fr_callI (ν := mu_X8_init) (As := [.int x1, .int x2]) (st := [rf g (mx M99), rf g o]) (M1 := M116) rfl rfl dX11_init_86 rfl ml_X11_48 mo_X8_init mn_X8_init (Nat.le_of_ble_eq_true rfl) rfl rfl (Nat.le_of_ble_eq_true rfl) hc117 ?_
  have k118 : KM M116.1 o 11 := KM.ext k108 hc117.1
  have k119 : KM M116.1 (mx M) 2 := KM.ext k109 hc117.1
  have k120 : KM M116.1 (mx M8) 5 := KM.ext k110 hc117.1
  have k121 : KM M116.1 (mx M20) 4 := KM.ext k111 hc117.1
  have k122 : KM M116.1 (mx M35) 14 := KM.ext k112 hc117.1
  have k123 : KM M116.1 (mx M47) 14 := KM.ext k113 hc117.1
  have k124 : KM M116.1 (mx M75) 8 := KM.ext k114 hc117.1
  have k125 : KM M116.1 (mx M99) 8 := KM.ext k115 hc117.1
  refine fr_putFR rfl dX11_init_89 rfl fp_X11_55 k118 ?_
  refine fr_mem (fun M126 hM126 => ?_)
  have h := h M126 hM126
  have k127 : KM M126.1 o 11 := by rw [hM126]; exact k118
  have k128 : KM M126.1 (mx M) 2 := by rw [hM126]; exact k119
  have k129 : KM M126.1 (mx M8) 5 := by rw [hM126]; exact k120
  have k130 : KM M126.1 (mx M20) 4 := by rw [hM126]; exact k121
  have k131 : KM M126.1 (mx M35) 14 := by rw [hM126]; exact k122
  have k132 : KM M126.1 (mx M47) 14 := by rw [hM126]; exact k123
  have k133 : KM M126.1 (mx M75) 8 := by rw [hM126]; exact k124
  have k134 : KM M126.1 (mx M99) 8 := by rw [hM126]; exact k125
  refine fr_aload_n (i := 0) (q := 0) rfl dX11_init_92 rfl ?_
  refine fr_new dX11_init_93 rfl nl_X11_58 ?_
  refine fr_mem (fun M135 hM135 => ?_)
  have h := h M135 hM135
  have k136 : KM M135.1 o 11 := by rw [hM135]; exact KM.ext k127 (Ext.nw _ _ _)
  have k137 : KM M135.1 (mx M) 2 := by rw [hM135]; exact KM.ext k128 (Ext.nw _ _ _)
  have k138 : KM M135.1 (mx M8) 5 := by rw [hM135]; exact KM.ext k129 (Ext.nw _ _ _)
  have k139 : KM M135.1 (mx M20) 4 := by rw [hM135]; exact KM.ext k130 (Ext.nw _ _ _)
  have k140 : KM M135.1 (mx M35) 14 := by rw [hM135]; exact KM.ext k131 (Ext.nw _ _ _)
  have k141 : KM M135.1 (mx M47) 14 := by rw [hM135]; exact KM.ext k132 (Ext.nw _ _ _)
  have k142 : KM M135.1 (mx M75) 8 := by rw [hM135]; exact KM.ext k133 (Ext.nw _ _ _)
  have k143 : KM M135.1 (mx M99) 8 := by rw [hM135]; exact KM.ext k134 (Ext.nw _ _ _)
  have k144 : KM M135.1 (mx M126) 3 := by rw [hM135]; exact KM.nw _ _ _
  refine fr_dup rfl dX11_init_96 rfl ?_
  refine fr_aload_n (i := 0) (q := 0) rfl dX11_init_97 rfl ?_
  obtain ⟨b145, r_b145, k_b145, h⟩ := h
  refine fr_getR dX11_init_98 rfl fl_X11_51 k136 r_b145 ?_
  refine fr_aload_n (i := 0) (q := 0) rfl dX11_init_101 rfl ?_
  obtain ⟨b146, r_b146, k_b146, h⟩ := h
  refine fr_getR dX11_init_102 rfl fl_X11_28 k136 r_b146 ?_
  obtain ⟨M147, hc148, h⟩ := h
  refine fr_callI (ν := mu_X3_init) (As := [rf g b145, rf g b146]) (st := [rf g (mx M126), rf g o]) (M1 := M147) rfl rfl dX11_init_105 rfl ml_X11_60 mo_X3_init mn_X3_init (Nat.le_of_ble_eq_true rfl) rfl rfl (Nat.le_of_ble_eq_true rfl) hc148 ?_
  have k149 : KM M147.1 o 11 := KM.ext k136 hc148.1
  have k150 : KM M147.1 (mx M) 2 := KM.ext k137 hc148.1
  have k151 : KM M147.1 (mx M8) 5 := KM.ext k138 hc148.1
  have k152 : KM M147.1 (mx M20) 4 := KM.ext k139 hc148.1
  have k153 : KM M147.1 (mx M35) 14 := KM.ext k140 hc148.1
  have k154 : KM M147.1 (mx M47) 14 := KM.ext k141 hc148.1
  have k155 : KM M147.1 (mx M75) 8 := KM.ext k142 hc148.1
  have k156 : KM M147.1 (mx M99) 8 := KM.ext k143 hc148.1
  have k157 : KM M147.1 (mx M126) 3 := KM.ext k144 hc148.1
  have k158 : KM M147.1 b145 8 := KM.ext k_b145 hc148.1
  have k159 : KM M147.1 b146 4 := KM.ext k_b146 hc148.1
  refine fr_putFR rfl dX11_init_108 rfl fp_X11_63 k149 ?_
  refine fr_mem (fun M160 hM160 => ?_)
  have h := h M160 hM160
  have k161 : KM M160.1 o 11 := by rw [hM160]; exact k149
  have k162 : KM M160.1 (mx M) 2 := by rw [hM160]; exact k150
  have k163 : KM M160.1 (mx M8) 5 := by rw [hM160]; exact k151
  have k164 : KM M160.1 (mx M20) 4 := by rw [hM160]; exact k152
  have k165 : KM M160.1 (mx M35) 14 := by rw [hM160]; exact k153
  have k166 : KM M160.1 (mx M47) 14 := by rw [hM160]; exact k154
  have k167 : KM M160.1 (mx M75) 8 := by rw [hM160]; exact k155
  have k168 : KM M160.1 (mx M99) 8 := by rw [hM160]; exact k156
  have k169 : KM M160.1 (mx M126) 3 := by rw [hM160]; exact k157
  have k170 : KM M160.1 b145 8 := by rw [hM160]; exact k158
  have k171 : KM M160.1 b146 4 := by rw [hM160]; exact k159
  refine fr_aload_n (i := 0) (q := 0) rfl dX11_init_111 rfl ?_
  refine fr_new dX11_init_112 rfl nl_X11_67 ?_
  refine fr_mem (fun M172 hM172 => ?_)
  have h := h M172 hM172
  have k173 : KM M172.1 o 11 := by rw [hM172]; exact KM.ext k161 (Ext.nw _ _ _)
  have k174 : KM M172.1 (mx M) 2 := by rw [hM172]; exact KM.ext k162 (Ext.nw _ _ _)
  have k175 : KM M172.1 (mx M8) 5 := by rw [hM172]; exact KM.ext k163 (Ext.nw _ _ _)
  have k176 : KM M172.1 (mx M20) 4 := by rw [hM172]; exact KM.ext k164 (Ext.nw _ _ _)
  have k177 : KM M172.1 (mx M35) 14 := by rw [hM172]; exact KM.ext k165 (Ext.nw _ _ _)
  have k178 : KM M172.1 (mx M47) 14 := by rw [hM172]; exact KM.ext k166 (Ext.nw _ _ _)
  have k179 : KM M172.1 (mx M75) 8 := by rw [hM172]; exact KM.ext k167 (Ext.nw _ _ _)
  have k180 : KM M172.1 (mx M99) 8 := by rw [hM172]; exact KM.ext k168 (Ext.nw _ _ _)
  have k181 : KM M172.1 (mx M126) 3 := by rw [hM172]; exact KM.ext k169 (Ext.nw _ _ _)
  have k182 : KM M172.1 b145 8 := by rw [hM172]; exact KM.ext k170 (Ext.nw _ _ _)
  have k183 : KM M172.1 b146 4 := by rw [hM172]; exact KM.ext k171 (Ext.nw _ _ _)
  have k184 : KM M172.1 (mx M160) 10 := by rw [hM172]; exact KM.nw _ _ _
  refine fr_dup rfl dX11_init_115 rfl ?_
  refine fr_aload_n (i := 0) (q := 0) rfl dX11_init_116 rfl ?_
  obtain ⟨b185, r_b185, k_b185, h⟩ := h
  refine fr_getR dX11_init_117 rfl fl_X11_51 k173 r_b185 ?_
  refine fr_aload_n (i := 0) (q := 0) rfl dX11_init_120 rfl ?_
  obtain ⟨b186, r_b186, k_b186, h⟩ := h
  refine fr_getR dX11_init_121 rfl fl_X11_28 k173 r_b186 ?_
  obtain ⟨M187, hc188, h⟩ := h
  refine fr_callI (ν := mu_X10_init) (As := [rf g b185, rf g b186]) (st := [rf g (mx M160), rf g o]) (M1 := M187) rfl rfl dX11_init_124 rfl ml_X11_69 mo_X10_init mn_X10_init (Nat.le_of_ble_eq_true rfl) rfl rfl (Nat.le_of_ble_eq_true rfl) hc188 ?_
  have k189 : KM M187.1 o 11 := KM.ext k173 hc188.1
  have k190 : KM M187.1 (mx M) 2 := KM.ext k174 hc188.1
  have k191 : KM M187.1 (mx M8) 5 := KM.ext k175 hc188.1
  have k192 : KM M187.1 (mx M20) 4 := KM.ext k176 hc188.1
  have k193 : KM M187.1 (mx M35) 14 := KM.ext k177 hc188.1
  have k194 : KM M187.1 (mx M47) 14 := KM.ext k178 hc188.1
  have k195 : KM M187.1 (mx M75) 8 := KM.ext k179 hc188.1
  have k196 : KM M187.1 (mx M99) 8 := KM.ext k180 hc188.1
  have k197 : KM M187.1 (mx M126) 3 := KM.ext k181 hc188.1
  have k198 : KM M187.1 b145 8 := KM.ext k182 hc188.1
  have k199 : KM M187.1 b146 4 := KM.ext k183 hc188.1
  have k200 : KM M187.1 (mx M160) 10 := KM.ext k184 hc188.1
  have k201 : KM M187.1 b185 8 := KM.ext k_b185 hc188.1
  have k202 : KM M187.1 b186 4 := KM.ext k_b186 hc188.1
  refine fr_putFR rfl dX11_init_127 rfl fp_X11_70 k189 ?_
  refine fr_mem (fun M203 hM203 => ?_)
  have h := h M203 hM203
  have k204 : KM M203.1 o 11 := by rw [hM203]; exact k189
  have k205 : KM M203.1 (mx M) 2 := by rw [hM203]; exact k190
  have k206 : KM M203.1 (mx M8) 5 := by rw [hM203]; exact k191
  have k207 : KM M203.1 (mx M20) 4 := by rw [hM203]; exact k192
  have k208 : KM M203.1 (mx M35) 14 := by rw [hM203]; exact k193
  have k209 : KM M203.1 (mx M47) 14 := by rw [hM203]; exact k194
  have k210 : KM M203.1 (mx M75) 8 := by rw [hM203]; exact k195
  have k211 : KM M203.1 (mx M99) 8 := by rw [hM203]; exact k196
  have k212 : KM M203.1 (mx M126) 3 := by rw [hM203]; exact k197
  have k213 : KM M203.1 b145 8 := by rw [hM203]; exact k198
  have k214 : KM M203.1 b146 4 := by rw [hM203]; exact k199
  have k215 : KM M203.1 (mx M160) 10 := by rw [hM203]; exact k200
  have k216 : KM M203.1 b185 8 := by rw [hM203]; exact k201
  have k217 : KM M203.1 b186 4 := by rw [hM203]; exact k202
  refine fr_aload_n (i := 0) (q := 0) rfl dX11_init_130 rfl ?_
  refine fr_new dX11_init_131 rfl nl_X11_74 ?_
  refine fr_mem (fun M218 hM218 => ?_)
  have h := h M218 hM218
  have k219 : KM M218.1 o 11 := by rw [hM218]; exact KM.ext k204 (Ext.nw _ _ _)
  have k220 : KM M218.1 (mx M) 2 := by rw [hM218]; exact KM.ext k205 (Ext.nw _ _ _)
  have k221 : KM M218.1 (mx M8) 5 := by rw [hM218]; exact KM.ext k206 (Ext.nw _ _ _)
  have k222 : KM M218.1 (mx M20) 4 := by rw [hM218]; exact KM.ext k207 (Ext.nw _ _ _)
  have k223 : KM M218.1 (mx M35) 14 := by rw [hM218]; exact KM.ext k208 (Ext.nw _ _ _)
  have k224 : KM M218.1 (mx M47) 14 := by rw [hM218]; exact KM.ext k209 (Ext.nw _ _ _)
  have k225 : KM M218.1 (mx M75) 8 := by rw [hM218]; exact KM.ext k210 (Ext.nw _ _ _)
  have k226 : KM M218.1 (mx M99) 8 := by rw [hM218]; exact KM.ext k211 (Ext.nw _ _ _)
  have k227 : KM M218.1 (mx M126) 3 := by rw [hM218]; exact KM.ext k212 (Ext.nw _ _ _)
  have k228 : KM M218.1 b145 8 := by rw [hM218]; exact KM.ext k213 (Ext.nw _ _ _)
  have k229 : KM M218.1 b146 4 := by rw [hM218]; exact KM.ext k214 (Ext.nw _ _ _)
  have k230 : KM M218.1 (mx M160) 10 := by rw [hM218]; exact KM.ext k215 (Ext.nw _ _ _)
  have k231 : KM M218.1 b185 8 := by rw [hM218]; exact KM.ext k216 (Ext.nw _ _ _)
  have k232 : KM M218.1 b186 4 := by rw [hM218]; exact KM.ext k217 (Ext.nw _ _ _)
  have k233 : KM M218.1 (mx M203) 1 := by rw [hM218]; exact KM.nw _ _ _
  refine fr_dup rfl dX11_init_134 rfl ?_
  refine fr_aload_n (i := 0) (q := 0) rfl dX11_init_135 rfl ?_
  obtain ⟨b234, r_b234, k_b234, h⟩ := h
  refine fr_getR dX11_init_136 rfl fl_X11_51 k219 r_b234 ?_
  refine fr_aload_n (i := 0) (q := 0) rfl dX11_init_139 rfl ?_
  obtain ⟨b235, r_b235, k_b235, h⟩ := h
  refine fr_getR dX11_init_140 rfl fl_X11_63 k219 r_b235 ?_
  obtain ⟨M236, hc237, h⟩ := h
  refine fr_callI (ν := mu_X1_init) (As := [rf g b234, rf g b235]) (st := [rf g (mx M203), rf g o]) (M1 := M236) rfl rfl dX11_init_143 rfl ml_X11_76 mo_X1_init mn_X1_init (Nat.le_of_ble_eq_true rfl) rfl rfl (Nat.le_of_ble_eq_true rfl) hc237 ?_
  have k238 : KM M236.1 o 11 := KM.ext k219 hc237.1
  have k239 : KM M236.1 (mx M) 2 := KM.ext k220 hc237.1
  have k240 : KM M236.1 (mx M8) 5 := KM.ext k221 hc237.1
  have k241 : KM M236.1 (mx M20) 4 := KM.ext k222 hc237.1
  have k242 : KM M236.1 (mx M35) 14 := KM.ext k223 hc237.1
  have k243 : KM M236.1 (mx M47) 14 := KM.ext k224 hc237.1
  have k244 : KM M236.1 (mx M75) 8 := KM.ext k225 hc237.1
  have k245 : KM M236.1 (mx M99) 8 := KM.ext k226 hc237.1
  have k246 : KM M236.1 (mx M126) 3 := KM.ext k227 hc237.1
  have k247 : KM M236.1 b145 8 := KM.ext k228 hc237.1
  have k248 : KM M236.1 b146 4 := KM.ext k229 hc237.1
  have k249 : KM M236.1 (mx M160) 10 := KM.ext k230 hc237.1
  have k250 : KM M236.1 b185 8 := KM.ext k231 hc237.1
  have k251 : KM M236.1 b186 4 := KM.ext k232 hc237.1
  have k252 : KM M236.1 (mx M203) 1 := KM.ext k233 hc237.1
  have k253 : KM M236.1 b234 8 := KM.ext k_b234 hc237.1
  have k254 : KM M236.1 b235 3 := KM.ext k_b235 hc237.1
  refine fr_putFR rfl dX11_init_146 rfl fp_X11_79 k238 ?_
  refine fr_mem (fun M255 hM255 => ?_)
  have h := h M255 hM255
  have k256 : KM M255.1 o 11 := by rw [hM255]; exact k238
  have k257 : KM M255.1 (mx M) 2 := by rw [hM255]; exact k239
  have k258 : KM M255.1 (mx M8) 5 := by rw [hM255]; exact k240
  have k259 : KM M255.1 (mx M20) 4 := by rw [hM255]; exact k241
  have k260 : KM M255.1 (mx M35) 14 := by rw [hM255]; exact k242
  have k261 : KM M255.1 (mx M47) 14 := by rw [hM255]; exact k243
  have k262 : KM M255.1 (mx M75) 8 := by rw [hM255]; exact k244
  have k263 : KM M255.1 (mx M99) 8 := by rw [hM255]; exact k245
  have k264 : KM M255.1 (mx M126) 3 := by rw [hM255]; exact k246
  have k265 : KM M255.1 b145 8 := by rw [hM255]; exact k247
  have k266 : KM M255.1 b146 4 := by rw [hM255]; exact k248
  have k267 : KM M255.1 (mx M160) 10 := by rw [hM255]; exact k249
  have k268 : KM M255.1 b185 8 := by rw [hM255]; exact k250
  have k269 : KM M255.1 b186 4 := by rw [hM255]; exact k251
  have k270 : KM M255.1 (mx M203) 1 := by rw [hM255]; exact k252
  have k271 : KM M255.1 b234 8 := by rw [hM255]; exact k253
  have k272 : KM M255.1 b235 3 := by rw [hM255]; exact k254
  exact fr_vret rfl dX11_init_149 h.1 h.2
theorem cp_X12_init {g : GE} {M : Mem} {r : Option Value} {M' : Mem} {o : Nat} {x1 : Int32} {x2 : Int32} (k_o : KM M.1 o 12) (h : (∀ M2 : Mem, M2 = nw M 13 ((205 : Int32).toNatClampNeg) → (∀ M5 : Mem, M5 = sR M2 o (va_up (mR M2 o) 0 (some (mx M))) → (∀ M9 : Mem, M9 = nw M5 13 ((205 : Int32).toNatClampNeg) → (∀ M13 : Mem, M13 = sR M9 o (va_up (mR M9 o) 1 (some (mx M5))) → (∀ M18 : Mem, M18 = nw M13 13 ((2480 : Int32).toNatClampNeg) → (∀ M23 : Mem, M23 = sR M18 o (va_up (mR M18 o) 4 (some (mx M13))) → (∀ M29 : Mem, M29 = nw M23 13 ((300 : Int32).toNatClampNeg) → (∀ M35 : Mem, M35 = sR M29 o (va_up (mR M29 o) 5 (some (mx M23))) → (∀ M41 : Mem, M41 = sI M35 o (upd (mI M35 o) 7 ((-1))) → (∀ M47 : Mem, M47 = sI M41 o (upd (mI M41 o) 8 ((-1))) → (∀ M54 : Mem, M54 = nw M47 13 ((160 : Int32).toNatClampNeg) → (∀ M61 : Mem, M61 = sR M54 o (va_up (mR M54 o) 18 (some (mx M47))) → (∀ M69 : Mem, M69 = nw M61 13 ((11 : Int32).toNatClampNeg) → (∀ M77 : Mem, M77 = sR M69 o (va_up (mR M69 o) 24 (some (mx M61))) → (∀ M86 : Mem, M86 = nw M77 14 ((330 : Int32).toNatClampNeg) → (∀ M95 : Mem, M95 = sR M86 o (va_up (mR M86 o) 25 (some (mx M77))) → (∀ M105 : Mem, M105 = nw M95 15 ((330 : Int32).toNatClampNeg) → (∀ M115 : Mem, M115 = sR M105 o (va_up (mR M105 o) 26 (some (mx M95))) → (∀ M126 : Mem, M126 = nw M115 13 ((1600 : Int32).toNatClampNeg) → (∀ M137 : Mem, M137 = sR M126 o (va_up (mR M126 o) 27 (some (mx M115))) → (∀ M149 : Mem, M149 = nw M137 13 ((9003 : Int32).toNatClampNeg) → (∀ M161 : Mem, M161 = sR M149 o (va_up (mR M149 o) 28 (some (mx M137))) → (∀ M174 : Mem, M174 = nw M161 13 ((3001 : Int32).toNatClampNeg) → (∀ M187 : Mem, M187 = sR M174 o (va_up (mR M174 o) 29 (some (mx M161))) → (∀ M201 : Mem, M201 = nw M187 13 ((3001 : Int32).toNatClampNeg) → (∀ M215 : Mem, M215 = sR M201 o (va_up (mR M201 o) 30 (some (mx M187))) → (∀ M230 : Mem, M230 = nw M215 13 ((3001 : Int32).toNatClampNeg) → (∀ M245 : Mem, M245 = sR M230 o (va_up (mR M230 o) 31 (some (mx M215))) → (∀ M261 : Mem, M261 = nw M245 13 ((4096 : Int32).toNatClampNeg) → (∀ M277 : Mem, M277 = sR M261 o (va_up (mR M261 o) 32 (some (mx M245))) → (∀ M294 : Mem, M294 = nw M277 13 ((3 : Int32).toNatClampNeg) → (∀ M311 : Mem, M311 = sR M294 o (va_up (mR M294 o) 33 (some (mx M277))) → (∀ M329 : Mem, M329 = nw M311 14 ((100 : Int32).toNatClampNeg) → (∀ M347 : Mem, M347 = sR M329 o (va_up (mR M329 o) 36 (some (mx M311))) → (∀ M366 : Mem, M366 = nw M347 14 ((100 : Int32).toNatClampNeg) → (∀ M385 : Mem, M385 = sR M366 o (va_up (mR M366 o) 37 (some (mx M347))) → (∀ M405 : Mem, M405 = nw M385 14 ((72 : Int32).toNatClampNeg) → (∀ M425 : Mem, M425 = sR M405 o (va_up (mR M405 o) 38 (some (mx M385))) → (∀ M446 : Mem, M446 = nw M425 13 ((12 : Int32).toNatClampNeg) → (∀ M467 : Mem, M467 = sR M446 o (va_up (mR M446 o) 39 (some (mx M425))) → (∀ M489 : Mem, M489 = nw M467 13 ((72 : Int32).toNatClampNeg) → (∀ M511 : Mem, M511 = sR M489 o (va_up (mR M489 o) 40 (some (mx M467))) → (∀ M534 : Mem, M534 = nw M511 13 ((6 : Int32).toNatClampNeg) → (∀ M557 : Mem, M557 = sR M534 o (va_up (mR M534 o) 41 (some (mx M511))) → (∀ M581 : Mem, M581 = nw M557 13 ((20000 : Int32).toNatClampNeg) → (∀ M605 : Mem, M605 = sR M581 o (va_up (mR M581 o) 42 (some (mx M557))) → ((2 ≤ x1 → ((x1 ≤ 5 → (∀ M629 : Mem, M629 = sI M605 o (upd (mI M605 o) 2 x1) → ((2 ≤ x2 → ((x2 ≤ 5 → (∀ M653 : Mem, M653 = sI M629 o (upd (mI M629 o) 3 x2) → (∃ b677 : Nat, mR M653 o 0 = some b677 ∧ KM M653.1 b677 13 ∧ (∃ b678 : Nat, mR M653 o 1 = some b678 ∧ KM M653.1 b678 13 ∧ (∃ (M679 : Mem), Cl g 1 mu_X12_copy [rf g b677, rf g b678] M653 none M679 ∧ (r = none ∧ M' = M679)))))) ∧ (¬ x2 ≤ 5 → (∀ M706 : Mem, M706 = sI M629 o (upd (mI M629 o) 3 5) → (∃ b730 : Nat, mR M706 o 0 = some b730 ∧ KM M706.1 b730 13 ∧ (∃ b731 : Nat, mR M706 o 1 = some b731 ∧ KM M706.1 b731 13 ∧ (∃ (M732 : Mem), Cl g 1 mu_X12_copy [rf g b730, rf g b731] M706 none M732 ∧ (r = none ∧ M' = M732)))))))) ∧ (¬ 2 ≤ x2 → (∀ M759 : Mem, M759 = sI M629 o (upd (mI M629 o) 3 2) → (∃ b783 : Nat, mR M759 o 0 = some b783 ∧ KM M759.1 b783 13 ∧ (∃ b784 : Nat, mR M759 o 1 = some b784 ∧ KM M759.1 b784 13 ∧ (∃ (M785 : Mem), Cl g 1 mu_X12_copy [rf g b783, rf g b784] M759 none M785 ∧ (r = none ∧ M' = M785))))))))) ∧ (¬ x1 ≤ 5 → (∀ M812 : Mem, M812 = sI M605 o (upd (mI M605 o) 2 5) → ((2 ≤ x2 → ((x2 ≤ 5 → (∀ M836 : Mem, M836 = sI M812 o (upd (mI M812 o) 3 x2) → (∃ b860 : Nat, mR M836 o 0 = some b860 ∧ KM M836.1 b860 13 ∧ (∃ b861 : Nat, mR M836 o 1 = some b861 ∧ KM M836.1 b861 13 ∧ (∃ (M862 : Mem), Cl g 1 mu_X12_copy [rf g b860, rf g b861] M836 none M862 ∧ (r = none ∧ M' = M862)))))) ∧ (¬ x2 ≤ 5 → (∀ M889 : Mem, M889 = sI M812 o (upd (mI M812 o) 3 5) → (∃ b913 : Nat, mR M889 o 0 = some b913 ∧ KM M889.1 b913 13 ∧ (∃ b914 : Nat, mR M889 o 1 = some b914 ∧ KM M889.1 b914 13 ∧ (∃ (M915 : Mem), Cl g 1 mu_X12_copy [rf g b913, rf g b914] M889 none M915 ∧ (r = none ∧ M' = M915)))))))) ∧ (¬ 2 ≤ x2 → (∀ M942 : Mem, M942 = sI M812 o (upd (mI M812 o) 3 2) → (∃ b966 : Nat, mR M942 o 0 = some b966 ∧ KM M942.1 b966 13 ∧ (∃ b967 : Nat, mR M942 o 1 = some b967 ∧ KM M942.1 b967 13 ∧ (∃ (M968 : Mem), Cl g 1 mu_X12_copy [rf g b966, rf g b967] M942 none M968 ∧ (r = none ∧ M' = M968))))))))))) ∧ (¬ 2 ≤ x1 → (∀ M995 : Mem, M995 = sI M605 o (upd (mI M605 o) 2 2) → ((2 ≤ x2 → ((x2 ≤ 5 → (∀ M1019 : Mem, M1019 = sI M995 o (upd (mI M995 o) 3 x2) → (∃ b1043 : Nat, mR M1019 o 0 = some b1043 ∧ KM M1019.1 b1043 13 ∧ (∃ b1044 : Nat, mR M1019 o 1 = some b1044 ∧ KM M1019.1 b1044 13 ∧ (∃ (M1045 : Mem), Cl g 1 mu_X12_copy [rf g b1043, rf g b1044] M1019 none M1045 ∧ (r = none ∧ M' = M1045)))))) ∧ (¬ x2 ≤ 5 → (∀ M1072 : Mem, M1072 = sI M995 o (upd (mI M995 o) 3 5) → (∃ b1096 : Nat, mR M1072 o 0 = some b1096 ∧ KM M1072.1 b1096 13 ∧ (∃ b1097 : Nat, mR M1072 o 1 = some b1097 ∧ KM M1072.1 b1097 13 ∧ (∃ (M1098 : Mem), Cl g 1 mu_X12_copy [rf g b1096, rf g b1097] M1072 none M1098 ∧ (r = none ∧ M' = M1098)))))))) ∧ (¬ 2 ≤ x2 → (∀ M1125 : Mem, M1125 = sI M995 o (upd (mI M995 o) 3 2) → (∃ b1149 : Nat, mR M1125 o 0 = some b1149 ∧ KM M1125.1 b1149 13 ∧ (∃ b1150 : Nat, mR M1125 o 1 = some b1150 ∧ KM M1125.1 b1150 13 ∧ (∃ (M1151 : Mem), Cl g 1 mu_X12_copy [rf g b1149, rf g b1150] M1125 none M1151 ∧ (r = none ∧ M' = M1151))))))))))))))))))))))))))))))))))))))))))))))))))))))))) : Cl g 2 mu_X12_init [rf g o, .int x1, .int x2] M r M' := by
  refine cl_of (lv := [(0, rf g o), (1, .int x1), (2, .int x2)]) (by decide) (Nat.le_of_ble_eq_true rfl) rfl ?_
  refine fr_aload_n (i := 0) (q := 0) rfl dX12_init_0 rfl ?_
  refine fr_obj dX12_init_1 rfl ⟨ml_X12_1, wo_init.1, wo_init.2⟩ (Nat.le_of_ble_eq_true rfl) (Nat.le_of_ble_eq_true rfl) ?_
  refine fr_aload_n (i := 0) (q := 0) rfl dX12_init_4 rfl ?_
  refine fr_sipush (v := 205) (by decide) dX12_init_5 rfl ?_
  refine fr_newI dX12_init_8 rfl ac_int (by decide) (by decide) ?_
  refine fr_mem (fun M2 hM2 => ?_)
  have h := h M2 hM2
  have k3 : KM M2.1 o 12 := by rw [hM2]; exact KM.ext k_o (Ext.nw _ _ _)
  have k4 : KM M2.1 (mx M) 13 := by rw [hM2]; exact KM.nw _ _ _
  refine fr_putFA rfl dX12_init_10 rfl fp_X12_7 k3 ?_
  refine fr_mem (fun M5 hM5 => ?_)
  have h := h M5 hM5
  have k6 : KM M5.1 o 12 := by rw [hM5]; exact k3
  have k7 : KM M5.1 (mx M) 13 := by rw [hM5]; exact k4
  refine fr_aload_n (i := 0) (q := 0) rfl dX12_init_13 rfl ?_
  refine fr_sipush (v := 205) (by decide) dX12_init_14 rfl ?_
  refine fr_newI dX12_init_17 rfl ac_int (by decide) (by decide) ?_
  refine fr_mem (fun M9 hM9 => ?_)
  have h := h M9 hM9
  have k10 : KM M9.1 o 12 := by rw [hM9]; exact KM.ext k6 (Ext.nw _ _ _)
  have k11 : KM M9.1 (mx M) 13 := by rw [hM9]; exact KM.ext k7 (Ext.nw _ _ _)
  have k12 : KM M9.1 (mx M5) 13 := by rw [hM9]; exact KM.nw _ _ _
  refine fr_putFA rfl dX12_init_19 rfl fp_X12_13 k10 ?_
  refine fr_mem (fun M13 hM13 => ?_)
  have h := h M13 hM13
  have k14 : KM M13.1 o 12 := by rw [hM13]; exact k10
  have k15 : KM M13.1 (mx M) 13 := by rw [hM13]; exact k11
  have k16 : KM M13.1 (mx M5) 13 := by rw [hM13]; exact k12
  refine fr_aload_n (i := 0) (q := 0) rfl dX12_init_22 rfl ?_
  refine fr_sipush (v := 2480) (by decide) dX12_init_23 rfl ?_
  refine fr_newI dX12_init_26 rfl ac_int (by decide) (by decide) ?_
  refine fr_mem (fun M18 hM18 => ?_)
  have h := h M18 hM18
  have k19 : KM M18.1 o 12 := by rw [hM18]; exact KM.ext k14 (Ext.nw _ _ _)
  have k20 : KM M18.1 (mx M) 13 := by rw [hM18]; exact KM.ext k15 (Ext.nw _ _ _)
  have k21 : KM M18.1 (mx M5) 13 := by rw [hM18]; exact KM.ext k16 (Ext.nw _ _ _)
  have k22 : KM M18.1 (mx M13) 13 := by rw [hM18]; exact KM.nw _ _ _
  refine fr_putFA rfl dX12_init_28 rfl fp_X12_16 k19 ?_
  refine fr_mem (fun M23 hM23 => ?_)
  have h := h M23 hM23
  have k24 : KM M23.1 o 12 := by rw [hM23]; exact k19
  have k25 : KM M23.1 (mx M) 13 := by rw [hM23]; exact k20
  have k26 : KM M23.1 (mx M5) 13 := by rw [hM23]; exact k21
  have k27 : KM M23.1 (mx M13) 13 := by rw [hM23]; exact k22
  refine fr_aload_n (i := 0) (q := 0) rfl dX12_init_31 rfl ?_
  refine fr_sipush (v := 300) (by decide) dX12_init_32 rfl ?_
  refine fr_newI dX12_init_35 rfl ac_int (by decide) (by decide) ?_
  refine fr_mem (fun M29 hM29 => ?_)
  have h := h M29 hM29
  have k30 : KM M29.1 o 12 := by rw [hM29]; exact KM.ext k24 (Ext.nw _ _ _)
  have k31 : KM M29.1 (mx M) 13 := by rw [hM29]; exact KM.ext k25 (Ext.nw _ _ _)
  have k32 : KM M29.1 (mx M5) 13 := by rw [hM29]; exact KM.ext k26 (Ext.nw _ _ _)
  have k33 : KM M29.1 (mx M13) 13 := by rw [hM29]; exact KM.ext k27 (Ext.nw _ _ _)
  have k34 : KM M29.1 (mx M23) 13 := by rw [hM29]; exact KM.nw _ _ _
  refine fr_putFA rfl dX12_init_37 rfl fp_X12_19 k30 ?_
  refine fr_mem (fun M35 hM35 => ?_)
  have h := h M35 hM35
  have k36 : KM M35.1 o 12 := by rw [hM35]; exact k30
  have k37 : KM M35.1 (mx M) 13 := by rw [hM35]; exact k31
  have k38 : KM M35.1 (mx M5) 13 := by rw [hM35]; exact k32
  have k39 : KM M35.1 (mx M13) 13 := by rw [hM35]; exact k33
  have k40 : KM M35.1 (mx M23) 13 := by rw [hM35]; exact k34
  refine fr_aload_n (i := 0) (q := 0) rfl dX12_init_40 rfl ?_
  refine fr_iconst (v := (-1)) (by decide) dX12_init_41 rfl ?_
  refine fr_putI dX12_init_42 rfl fp_X12_22 k36 ?_
  refine fr_mem (fun M41 hM41 => ?_)
  have h := h M41 hM41
  have k42 : KM M41.1 o 12 := by rw [hM41]; exact k36
  have k43 : KM M41.1 (mx M) 13 := by rw [hM41]; exact k37
  have k44 : KM M41.1 (mx M5) 13 := by rw [hM41]; exact k38
  have k45 : KM M41.1 (mx M13) 13 := by rw [hM41]; exact k39
  have k46 : KM M41.1 (mx M23) 13 := by rw [hM41]; exact k40
  refine fr_aload_n (i := 0) (q := 0) rfl dX12_init_45 rfl ?_
  refine fr_iconst (v := (-1)) (by decide) dX12_init_46 rfl ?_
  refine fr_putI dX12_init_47 rfl fp_X12_26 k42 ?_
  refine fr_mem (fun M47 hM47 => ?_)
  have h := h M47 hM47
  have k48 : KM M47.1 o 12 := by rw [hM47]; exact k42
  have k49 : KM M47.1 (mx M) 13 := by rw [hM47]; exact k43
  have k50 : KM M47.1 (mx M5) 13 := by rw [hM47]; exact k44
  have k51 : KM M47.1 (mx M13) 13 := by rw [hM47]; exact k45
  have k52 : KM M47.1 (mx M23) 13 := by rw [hM47]; exact k46
  refine fr_aload_n (i := 0) (q := 0) rfl dX12_init_50 rfl ?_
  refine fr_sipush (v := 160) (by decide) dX12_init_51 rfl ?_
  refine fr_newI dX12_init_54 rfl ac_int (by decide) (by decide) ?_
  refine fr_mem (fun M54 hM54 => ?_)
  have h := h M54 hM54
  have k55 : KM M54.1 o 12 := by rw [hM54]; exact KM.ext k48 (Ext.nw _ _ _)
  have k56 : KM M54.1 (mx M) 13 := by rw [hM54]; exact KM.ext k49 (Ext.nw _ _ _)
  have k57 : KM M54.1 (mx M5) 13 := by rw [hM54]; exact KM.ext k50 (Ext.nw _ _ _)
  have k58 : KM M54.1 (mx M13) 13 := by rw [hM54]; exact KM.ext k51 (Ext.nw _ _ _)
  have k59 : KM M54.1 (mx M23) 13 := by rw [hM54]; exact KM.ext k52 (Ext.nw _ _ _)
  have k60 : KM M54.1 (mx M47) 13 := by rw [hM54]; exact KM.nw _ _ _
  refine fr_putFA rfl dX12_init_56 rfl fp_X12_29 k55 ?_
  refine fr_mem (fun M61 hM61 => ?_)
  have h := h M61 hM61
  have k62 : KM M61.1 o 12 := by rw [hM61]; exact k55
  have k63 : KM M61.1 (mx M) 13 := by rw [hM61]; exact k56
  have k64 : KM M61.1 (mx M5) 13 := by rw [hM61]; exact k57
  have k65 : KM M61.1 (mx M13) 13 := by rw [hM61]; exact k58
  have k66 : KM M61.1 (mx M23) 13 := by rw [hM61]; exact k59
  have k67 : KM M61.1 (mx M47) 13 := by rw [hM61]; exact k60
  refine fr_aload_n (i := 0) (q := 0) rfl dX12_init_59 rfl ?_
  refine fr_bipush (v := 11) (by decide) dX12_init_60 rfl ?_
  refine fr_newI dX12_init_62 rfl ac_int (by decide) (by decide) ?_
  refine fr_mem (fun M69 hM69 => ?_)
  have h := h M69 hM69
  have k70 : KM M69.1 o 12 := by rw [hM69]; exact KM.ext k62 (Ext.nw _ _ _)
  have k71 : KM M69.1 (mx M) 13 := by rw [hM69]; exact KM.ext k63 (Ext.nw _ _ _)
  have k72 : KM M69.1 (mx M5) 13 := by rw [hM69]; exact KM.ext k64 (Ext.nw _ _ _)
  have k73 : KM M69.1 (mx M13) 13 := by rw [hM69]; exact KM.ext k65 (Ext.nw _ _ _)
  have k74 : KM M69.1 (mx M23) 13 := by rw [hM69]; exact KM.ext k66 (Ext.nw _ _ _)
  have k75 : KM M69.1 (mx M47) 13 := by rw [hM69]; exact KM.ext k67 (Ext.nw _ _ _)
  have k76 : KM M69.1 (mx M61) 13 := by rw [hM69]; exact KM.nw _ _ _
  refine fr_putFA rfl dX12_init_64 rfl fp_X12_32 k70 ?_
  refine fr_mem (fun M77 hM77 => ?_)
  have h := h M77 hM77
  have k78 : KM M77.1 o 12 := by rw [hM77]; exact k70
  have k79 : KM M77.1 (mx M) 13 := by rw [hM77]; exact k71
  have k80 : KM M77.1 (mx M5) 13 := by rw [hM77]; exact k72
  have k81 : KM M77.1 (mx M13) 13 := by rw [hM77]; exact k73
  have k82 : KM M77.1 (mx M23) 13 := by rw [hM77]; exact k74
  have k83 : KM M77.1 (mx M47) 13 := by rw [hM77]; exact k75
  have k84 : KM M77.1 (mx M61) 13 := by rw [hM77]; exact k76
  refine fr_aload_n (i := 0) (q := 0) rfl dX12_init_67 rfl ?_
  refine fr_sipush (v := 330) (by decide) dX12_init_68 rfl ?_
  refine fr_newL dX12_init_71 rfl ac_long (by decide) (by decide) ?_
  refine fr_mem (fun M86 hM86 => ?_)
  have h := h M86 hM86
  have k87 : KM M86.1 o 12 := by rw [hM86]; exact KM.ext k78 (Ext.nw _ _ _)
  have k88 : KM M86.1 (mx M) 13 := by rw [hM86]; exact KM.ext k79 (Ext.nw _ _ _)
  have k89 : KM M86.1 (mx M5) 13 := by rw [hM86]; exact KM.ext k80 (Ext.nw _ _ _)
  have k90 : KM M86.1 (mx M13) 13 := by rw [hM86]; exact KM.ext k81 (Ext.nw _ _ _)
  have k91 : KM M86.1 (mx M23) 13 := by rw [hM86]; exact KM.ext k82 (Ext.nw _ _ _)
  have k92 : KM M86.1 (mx M47) 13 := by rw [hM86]; exact KM.ext k83 (Ext.nw _ _ _)
  have k93 : KM M86.1 (mx M61) 13 := by rw [hM86]; exact KM.ext k84 (Ext.nw _ _ _)
  have k94 : KM M86.1 (mx M77) 14 := by rw [hM86]; exact KM.nw _ _ _
  refine fr_putFA rfl dX12_init_73 rfl fp_X12_35 k87 ?_
  refine fr_mem (fun M95 hM95 => ?_)
  have h := h M95 hM95
  have k96 : KM M95.1 o 12 := by rw [hM95]; exact k87
  have k97 : KM M95.1 (mx M) 13 := by rw [hM95]; exact k88
  have k98 : KM M95.1 (mx M5) 13 := by rw [hM95]; exact k89
  have k99 : KM M95.1 (mx M13) 13 := by rw [hM95]; exact k90
  have k100 : KM M95.1 (mx M23) 13 := by rw [hM95]; exact k91
  have k101 : KM M95.1 (mx M47) 13 := by rw [hM95]; exact k92
  have k102 : KM M95.1 (mx M61) 13 := by rw [hM95]; exact k93
  have k103 : KM M95.1 (mx M77) 14 := by rw [hM95]; exact k94
  refine fr_aload_n (i := 0) (q := 0) rfl dX12_init_76 rfl ?_
  refine fr_sipush (v := 330) (by decide) dX12_init_77 rfl ?_
  refine fr_newZ dX12_init_80 rfl ac_boolean (by decide) (by decide) ?_
  refine fr_mem (fun M105 hM105 => ?_)
  have h := h M105 hM105
  have k106 : KM M105.1 o 12 := by rw [hM105]; exact KM.ext k96 (Ext.nw _ _ _)
  have k107 : KM M105.1 (mx M) 13 := by rw [hM105]; exact KM.ext k97 (Ext.nw _ _ _)
  have k108 : KM M105.1 (mx M5) 13 := by rw [hM105]; exact KM.ext k98 (Ext.nw _ _ _)
  have k109 : KM M105.1 (mx M13) 13 := by rw [hM105]; exact KM.ext k99 (Ext.nw _ _ _)
  have k110 : KM M105.1 (mx M23) 13 := by rw [hM105]; exact KM.ext k100 (Ext.nw _ _ _)
  have k111 : KM M105.1 (mx M47) 13 := by rw [hM105]; exact KM.ext k101 (Ext.nw _ _ _)
  have k112 : KM M105.1 (mx M61) 13 := by rw [hM105]; exact KM.ext k102 (Ext.nw _ _ _)
  have k113 : KM M105.1 (mx M77) 14 := by rw [hM105]; exact KM.ext k103 (Ext.nw _ _ _)
  have k114 : KM M105.1 (mx M95) 15 := by rw [hM105]; exact KM.nw _ _ _
  refine fr_putFA rfl dX12_init_82 rfl fp_X12_39 k106 ?_
  refine fr_mem (fun M115 hM115 => ?_)
  have h := h M115 hM115
  have k116 : KM M115.1 o 12 := by rw [hM115]; exact k106
  have k117 : KM M115.1 (mx M) 13 := by rw [hM115]; exact k107
  have k118 : KM M115.1 (mx M5) 13 := by rw [hM115]; exact k108
  have k119 : KM M115.1 (mx M13) 13 := by rw [hM115]; exact k109
  have k120 : KM M115.1 (mx M23) 13 := by rw [hM115]; exact k110
  have k121 : KM M115.1 (mx M47) 13 := by rw [hM115]; exact k111
  have k122 : KM M115.1 (mx M61) 13 := by rw [hM115]; exact k112
  have k123 : KM M115.1 (mx M77) 14 := by rw [hM115]; exact k113
  have k124 : KM M115.1 (mx M95) 15 := by rw [hM115]; exact k114
  refine fr_aload_n (i := 0) (q := 0) rfl dX12_init_85 rfl ?_
  refine fr_sipush (v := 1600) (by decide) dX12_init_86 rfl ?_
  refine fr_newI dX12_init_89 rfl ac_int (by decide) (by decide) ?_
  refine fr_mem (fun M126 hM126 => ?_)
  have h := h M126 hM126
  have k127 : KM M126.1 o 12 := by rw [hM126]; exact KM.ext k116 (Ext.nw _ _ _)
  have k128 : KM M126.1 (mx M) 13 := by rw [hM126]; exact KM.ext k117 (Ext.nw _ _ _)
  have k129 : KM M126.1 (mx M5) 13 := by rw [hM126]; exact KM.ext k118 (Ext.nw _ _ _)
  have k130 : KM M126.1 (mx M13) 13 := by rw [hM126]; exact KM.ext k119 (Ext.nw _ _ _)
  have k131 : KM M126.1 (mx M23) 13 := by rw [hM126]; exact KM.ext k120 (Ext.nw _ _ _)
  have k132 : KM M126.1 (mx M47) 13 := by rw [hM126]; exact KM.ext k121 (Ext.nw _ _ _)
  have k133 : KM M126.1 (mx M61) 13 := by rw [hM126]; exact KM.ext k122 (Ext.nw _ _ _)
  have k134 : KM M126.1 (mx M77) 14 := by rw [hM126]; exact KM.ext k123 (Ext.nw _ _ _)
  have k135 : KM M126.1 (mx M95) 15 := by rw [hM126]; exact KM.ext k124 (Ext.nw _ _ _)
  have k136 : KM M126.1 (mx M115) 13 := by rw [hM126]; exact KM.nw _ _ _
  refine fr_putFA rfl dX12_init_91 rfl fp_X12_43 k127 ?_
  refine fr_mem (fun M137 hM137 => ?_)
  have h := h M137 hM137
  have k138 : KM M137.1 o 12 := by rw [hM137]; exact k127
  have k139 : KM M137.1 (mx M) 13 := by rw [hM137]; exact k128
  have k140 : KM M137.1 (mx M5) 13 := by rw [hM137]; exact k129
  have k141 : KM M137.1 (mx M13) 13 := by rw [hM137]; exact k130
  have k142 : KM M137.1 (mx M23) 13 := by rw [hM137]; exact k131
  have k143 : KM M137.1 (mx M47) 13 := by rw [hM137]; exact k132
  have k144 : KM M137.1 (mx M61) 13 := by rw [hM137]; exact k133
  have k145 : KM M137.1 (mx M77) 14 := by rw [hM137]; exact k134
  have k146 : KM M137.1 (mx M95) 15 := by rw [hM137]; exact k135
  have k147 : KM M137.1 (mx M115) 13 := by rw [hM137]; exact k136
  refine fr_aload_n (i := 0) (q := 0) rfl dX12_init_94 rfl ?_
  refine fr_sipush (v := 9003) (by decide) dX12_init_95 rfl ?_
  refine fr_newI dX12_init_98 rfl ac_int (by decide) (by decide) ?_
  refine fr_mem (fun M149 hM149 => ?_)
  have h := h M149 hM149
  have k150 : KM M149.1 o 12 := by rw [hM149]; exact KM.ext k138 (Ext.nw _ _ _)
  have k151 : KM M149.1 (mx M) 13 := by rw [hM149]; exact KM.ext k139 (Ext.nw _ _ _)
  have k152 : KM M149.1 (mx M5) 13 := by rw [hM149]; exact KM.ext k140 (Ext.nw _ _ _)
  have k153 : KM M149.1 (mx M13) 13 := by rw [hM149]; exact KM.ext k141 (Ext.nw _ _ _)
  have k154 : KM M149.1 (mx M23) 13 := by rw [hM149]; exact KM.ext k142 (Ext.nw _ _ _)
  have k155 : KM M149.1 (mx M47) 13 := by rw [hM149]; exact KM.ext k143 (Ext.nw _ _ _)
  have k156 : KM M149.1 (mx M61) 13 := by rw [hM149]; exact KM.ext k144 (Ext.nw _ _ _)
  have k157 : KM M149.1 (mx M77) 14 := by rw [hM149]; exact KM.ext k145 (Ext.nw _ _ _)
  have k158 : KM M149.1 (mx M95) 15 := by rw [hM149]; exact KM.ext k146 (Ext.nw _ _ _)
  have k159 : KM M149.1 (mx M115) 13 := by rw [hM149]; exact KM.ext k147 (Ext.nw _ _ _)
  have k160 : KM M149.1 (mx M137) 13 := by rw [hM149]; exact KM.nw _ _ _
  refine fr_putFA rfl dX12_init_100 rfl fp_X12_46 k150 ?_
  refine fr_mem (fun M161 hM161 => ?_)
  have h := h M161 hM161
  have k162 : KM M161.1 o 12 := by rw [hM161]; exact k150
  have k163 : KM M161.1 (mx M) 13 := by rw [hM161]; exact k151
  have k164 : KM M161.1 (mx M5) 13 := by rw [hM161]; exact k152
  have k165 : KM M161.1 (mx M13) 13 := by rw [hM161]; exact k153
  have k166 : KM M161.1 (mx M23) 13 := by rw [hM161]; exact k154
  have k167 : KM M161.1 (mx M47) 13 := by rw [hM161]; exact k155
  have k168 : KM M161.1 (mx M61) 13 := by rw [hM161]; exact k156
  have k169 : KM M161.1 (mx M77) 14 := by rw [hM161]; exact k157
  have k170 : KM M161.1 (mx M95) 15 := by rw [hM161]; exact k158
  have k171 : KM M161.1 (mx M115) 13 := by rw [hM161]; exact k159
  have k172 : KM M161.1 (mx M137) 13 := by rw [hM161]; exact k160
  refine fr_aload_n (i := 0) (q := 0) rfl dX12_init_103 rfl ?_
  refine fr_sipush (v := 3001) (by decide) dX12_init_104 rfl ?_
  refine fr_newI dX12_init_107 rfl ac_int (by decide) (by decide) ?_
  refine fr_mem (fun M174 hM174 => ?_)
  have h := h M174 hM174
  have k175 : KM M174.1 o 12 := by rw [hM174]; exact KM.ext k162 (Ext.nw _ _ _)
  have k176 : KM M174.1 (mx M) 13 := by rw [hM174]; exact KM.ext k163 (Ext.nw _ _ _)
  have k177 : KM M174.1 (mx M5) 13 := by rw [hM174]; exact KM.ext k164 (Ext.nw _ _ _)
  have k178 : KM M174.1 (mx M13) 13 := by rw [hM174]; exact KM.ext k165 (Ext.nw _ _ _)
  have k179 : KM M174.1 (mx M23) 13 := by rw [hM174]; exact KM.ext k166 (Ext.nw _ _ _)
  have k180 : KM M174.1 (mx M47) 13 := by rw [hM174]; exact KM.ext k167 (Ext.nw _ _ _)
  have k181 : KM M174.1 (mx M61) 13 := by rw [hM174]; exact KM.ext k168 (Ext.nw _ _ _)
  have k182 : KM M174.1 (mx M77) 14 := by rw [hM174]; exact KM.ext k169 (Ext.nw _ _ _)
  have k183 : KM M174.1 (mx M95) 15 := by rw [hM174]; exact KM.ext k170 (Ext.nw _ _ _)
  have k184 : KM M174.1 (mx M115) 13 := by rw [hM174]; exact KM.ext k171 (Ext.nw _ _ _)
  have k185 : KM M174.1 (mx M137) 13 := by rw [hM174]; exact KM.ext k172 (Ext.nw _ _ _)
  have k186 : KM M174.1 (mx M161) 13 := by rw [hM174]; exact KM.nw _ _ _
  refine fr_putFA rfl dX12_init_109 rfl fp_X12_49 k175 ?_
  refine fr_mem (fun M187 hM187 => ?_)
  have h := h M187 hM187
  have k188 : KM M187.1 o 12 := by rw [hM187]; exact k175
  have k189 : KM M187.1 (mx M) 13 := by rw [hM187]; exact k176
  have k190 : KM M187.1 (mx M5) 13 := by rw [hM187]; exact k177
  have k191 : KM M187.1 (mx M13) 13 := by rw [hM187]; exact k178
  have k192 : KM M187.1 (mx M23) 13 := by rw [hM187]; exact k179
  have k193 : KM M187.1 (mx M47) 13 := by rw [hM187]; exact k180
  have k194 : KM M187.1 (mx M61) 13 := by rw [hM187]; exact k181
  have k195 : KM M187.1 (mx M77) 14 := by rw [hM187]; exact k182
  have k196 : KM M187.1 (mx M95) 15 := by rw [hM187]; exact k183
  have k197 : KM M187.1 (mx M115) 13 := by rw [hM187]; exact k184
  have k198 : KM M187.1 (mx M137) 13 := by rw [hM187]; exact k185
  have k199 : KM M187.1 (mx M161) 13 := by rw [hM187]; exact k186
  refine fr_aload_n (i := 0) (q := 0) rfl dX12_init_112 rfl ?_
  refine fr_sipush (v := 3001) (by decide) dX12_init_113 rfl ?_
  refine fr_newI dX12_init_116 rfl ac_int (by decide) (by decide) ?_
  refine fr_mem (fun M201 hM201 => ?_)
  have h := h M201 hM201
  have k202 : KM M201.1 o 12 := by rw [hM201]; exact KM.ext k188 (Ext.nw _ _ _)
  have k203 : KM M201.1 (mx M) 13 := by rw [hM201]; exact KM.ext k189 (Ext.nw _ _ _)
  have k204 : KM M201.1 (mx M5) 13 := by rw [hM201]; exact KM.ext k190 (Ext.nw _ _ _)
  have k205 : KM M201.1 (mx M13) 13 := by rw [hM201]; exact KM.ext k191 (Ext.nw _ _ _)
  have k206 : KM M201.1 (mx M23) 13 := by rw [hM201]; exact KM.ext k192 (Ext.nw _ _ _)
  have k207 : KM M201.1 (mx M47) 13 := by rw [hM201]; exact KM.ext k193 (Ext.nw _ _ _)
  have k208 : KM M201.1 (mx M61) 13 := by rw [hM201]; exact KM.ext k194 (Ext.nw _ _ _)
  have k209 : KM M201.1 (mx M77) 14 := by rw [hM201]; exact KM.ext k195 (Ext.nw _ _ _)
  have k210 : KM M201.1 (mx M95) 15 := by rw [hM201]; exact KM.ext k196 (Ext.nw _ _ _)
  have k211 : KM M201.1 (mx M115) 13 := by rw [hM201]; exact KM.ext k197 (Ext.nw _ _ _)
  have k212 : KM M201.1 (mx M137) 13 := by rw [hM201]; exact KM.ext k198 (Ext.nw _ _ _)
  have k213 : KM M201.1 (mx M161) 13 := by rw [hM201]; exact KM.ext k199 (Ext.nw _ _ _)
  have k214 : KM M201.1 (mx M187) 13 := by rw [hM201]; exact KM.nw _ _ _
  refine fr_putFA rfl dX12_init_118 rfl fp_X12_52 k202 ?_
  refine fr_mem (fun M215 hM215 => ?_)
  have h := h M215 hM215
  have k216 : KM M215.1 o 12 := by rw [hM215]; exact k202
  have k217 : KM M215.1 (mx M) 13 := by rw [hM215]; exact k203
  have k218 : KM M215.1 (mx M5) 13 := by rw [hM215]; exact k204
  have k219 : KM M215.1 (mx M13) 13 := by rw [hM215]; exact k205
  have k220 : KM M215.1 (mx M23) 13 := by rw [hM215]; exact k206
  have k221 : KM M215.1 (mx M47) 13 := by rw [hM215]; exact k207
  have k222 : KM M215.1 (mx M61) 13 := by rw [hM215]; exact k208
  have k223 : KM M215.1 (mx M77) 14 := by rw [hM215]; exact k209
  have k224 : KM M215.1 (mx M95) 15 := by rw [hM215]; exact k210
  have k225 : KM M215.1 (mx M115) 13 := by rw [hM215]; exact k211
  have k226 : KM M215.1 (mx M137) 13 := by rw [hM215]; exact k212
  have k227 : KM M215.1 (mx M161) 13 := by rw [hM215]; exact k213
  have k228 : KM M215.1 (mx M187) 13 := by rw [hM215]; exact k214
  refine fr_aload_n (i := 0) (q := 0) rfl dX12_init_121 rfl ?_
  refine fr_sipush (v := 3001) (by decide) dX12_init_122 rfl ?_
  refine fr_newI dX12_init_125 rfl ac_int (by decide) (by decide) ?_
  refine fr_mem (fun M230 hM230 => ?_)
  have h := h M230 hM230
  have k231 : KM M230.1 o 12 := by rw [hM230]; exact KM.ext k216 (Ext.nw _ _ _)
  have k232 : KM M230.1 (mx M) 13 := by rw [hM230]; exact KM.ext k217 (Ext.nw _ _ _)
  have k233 : KM M230.1 (mx M5) 13 := by rw [hM230]; exact KM.ext k218 (Ext.nw _ _ _)
  have k234 : KM M230.1 (mx M13) 13 := by rw [hM230]; exact KM.ext k219 (Ext.nw _ _ _)
  have k235 : KM M230.1 (mx M23) 13 := by rw [hM230]; exact KM.ext k220 (Ext.nw _ _ _)
  have k236 : KM M230.1 (mx M47) 13 := by rw [hM230]; exact KM.ext k221 (Ext.nw _ _ _)
  have k237 : KM M230.1 (mx M61) 13 := by rw [hM230]; exact KM.ext k222 (Ext.nw _ _ _)
  have k238 : KM M230.1 (mx M77) 14 := by rw [hM230]; exact KM.ext k223 (Ext.nw _ _ _)
  have k239 : KM M230.1 (mx M95) 15 := by rw [hM230]; exact KM.ext k224 (Ext.nw _ _ _)
  have k240 : KM M230.1 (mx M115) 13 := by rw [hM230]; exact KM.ext k225 (Ext.nw _ _ _)
  have k241 : KM M230.1 (mx M137) 13 := by rw [hM230]; exact KM.ext k226 (Ext.nw _ _ _)
  have k242 : KM M230.1 (mx M161) 13 := by rw [hM230]; exact KM.ext k227 (Ext.nw _ _ _)
  have k243 : KM M230.1 (mx M187) 13 := by rw [hM230]; exact KM.ext k228 (Ext.nw _ _ _)
  have k244 : KM M230.1 (mx M215) 13 := by rw [hM230]; exact KM.nw _ _ _
  refine fr_putFA rfl dX12_init_127 rfl fp_X12_55 k231 ?_
  refine fr_mem (fun M245 hM245 => ?_)
  have h := h M245 hM245
  have k246 : KM M245.1 o 12 := by rw [hM245]; exact k231
  have k247 : KM M245.1 (mx M) 13 := by rw [hM245]; exact k232
  have k248 : KM M245.1 (mx M5) 13 := by rw [hM245]; exact k233
  have k249 : KM M245.1 (mx M13) 13 := by rw [hM245]; exact k234
  have k250 : KM M245.1 (mx M23) 13 := by rw [hM245]; exact k235
  have k251 : KM M245.1 (mx M47) 13 := by rw [hM245]; exact k236
  have k252 : KM M245.1 (mx M61) 13 := by rw [hM245]; exact k237
  have k253 : KM M245.1 (mx M77) 14 := by rw [hM245]; exact k238
  have k254 : KM M245.1 (mx M95) 15 := by rw [hM245]; exact k239
  have k255 : KM M245.1 (mx M115) 13 := by rw [hM245]; exact k240
  have k256 : KM M245.1 (mx M137) 13 := by rw [hM245]; exact k241
  have k257 : KM M245.1 (mx M161) 13 := by rw [hM245]; exact k242
  have k258 : KM M245.1 (mx M187) 13 := by rw [hM245]; exact k243
  have k259 : KM M245.1 (mx M215) 13 := by rw [hM245]; exact k244
  refine fr_aload_n (i := 0) (q := 0) rfl dX12_init_130 rfl ?_
  refine fr_sipush (v := 4096) (by decide) dX12_init_131 rfl ?_
  refine fr_newI dX12_init_134 rfl ac_int (by decide) (by decide) ?_
  refine fr_mem (fun M261 hM261 => ?_)
  have h := h M261 hM261
  have k262 : KM M261.1 o 12 := by rw [hM261]; exact KM.ext k246 (Ext.nw _ _ _)
  have k263 : KM M261.1 (mx M) 13 := by rw [hM261]; exact KM.ext k247 (Ext.nw _ _ _)
  have k264 : KM M261.1 (mx M5) 13 := by rw [hM261]; exact KM.ext k248 (Ext.nw _ _ _)
  have k265 : KM M261.1 (mx M13) 13 := by rw [hM261]; exact KM.ext k249 (Ext.nw _ _ _)
  have k266 : KM M261.1 (mx M23) 13 := by rw [hM261]; exact KM.ext k250 (Ext.nw _ _ _)
  have k267 : KM M261.1 (mx M47) 13 := by rw [hM261]; exact KM.ext k251 (Ext.nw _ _ _)
  have k268 : KM M261.1 (mx M61) 13 := by rw [hM261]; exact KM.ext k252 (Ext.nw _ _ _)
  have k269 : KM M261.1 (mx M77) 14 := by rw [hM261]; exact KM.ext k253 (Ext.nw _ _ _)
  have k270 : KM M261.1 (mx M95) 15 := by rw [hM261]; exact KM.ext k254 (Ext.nw _ _ _)
  have k271 : KM M261.1 (mx M115) 13 := by rw [hM261]; exact KM.ext k255 (Ext.nw _ _ _)
  have k272 : KM M261.1 (mx M137) 13 := by rw [hM261]; exact KM.ext k256 (Ext.nw _ _ _)
  have k273 : KM M261.1 (mx M161) 13 := by rw [hM261]; exact KM.ext k257 (Ext.nw _ _ _)
  have k274 : KM M261.1 (mx M187) 13 := by rw [hM261]; exact KM.ext k258 (Ext.nw _ _ _)
  have k275 : KM M261.1 (mx M215) 13 := by rw [hM261]; exact KM.ext k259 (Ext.nw _ _ _)
  have k276 : KM M261.1 (mx M245) 13 := by rw [hM261]; exact KM.nw _ _ _
  refine fr_putFA rfl dX12_init_136 rfl fp_X12_58 k262 ?_
  refine fr_mem (fun M277 hM277 => ?_)
  have h := h M277 hM277
  have k278 : KM M277.1 o 12 := by rw [hM277]; exact k262
  have k279 : KM M277.1 (mx M) 13 := by rw [hM277]; exact k263
  have k280 : KM M277.1 (mx M5) 13 := by rw [hM277]; exact k264
  have k281 : KM M277.1 (mx M13) 13 := by rw [hM277]; exact k265
  have k282 : KM M277.1 (mx M23) 13 := by rw [hM277]; exact k266
  have k283 : KM M277.1 (mx M47) 13 := by rw [hM277]; exact k267
  have k284 : KM M277.1 (mx M61) 13 := by rw [hM277]; exact k268
  have k285 : KM M277.1 (mx M77) 14 := by rw [hM277]; exact k269
  have k286 : KM M277.1 (mx M95) 15 := by rw [hM277]; exact k270
  have k287 : KM M277.1 (mx M115) 13 := by rw [hM277]; exact k271
  have k288 : KM M277.1 (mx M137) 13 := by rw [hM277]; exact k272
  have k289 : KM M277.1 (mx M161) 13 := by rw [hM277]; exact k273
  have k290 : KM M277.1 (mx M187) 13 := by rw [hM277]; exact k274
  have k291 : KM M277.1 (mx M215) 13 := by rw [hM277]; exact k275
  have k292 : KM M277.1 (mx M245) 13 := by rw [hM277]; exact k276
  refine fr_aload_n (i := 0) (q := 0) rfl dX12_init_139 rfl ?_
  refine fr_iconst (v := 3) (by decide) dX12_init_140 rfl ?_
  refine fr_newI dX12_init_141 rfl ac_int (by decide) (by decide) ?_
  refine fr_mem (fun M294 hM294 => ?_)
  have h := h M294 hM294
  have k295 : KM M294.1 o 12 := by rw [hM294]; exact KM.ext k278 (Ext.nw _ _ _)
  have k296 : KM M294.1 (mx M) 13 := by rw [hM294]; exact KM.ext k279 (Ext.nw _ _ _)
  have k297 : KM M294.1 (mx M5) 13 := by rw [hM294]; exact KM.ext k280 (Ext.nw _ _ _)
  have k298 : KM M294.1 (mx M13) 13 := by rw [hM294]; exact KM.ext k281 (Ext.nw _ _ _)
  have k299 : KM M294.1 (mx M23) 13 := by rw [hM294]; exact KM.ext k282 (Ext.nw _ _ _)
  have k300 : KM M294.1 (mx M47) 13 := by rw [hM294]; exact KM.ext k283 (Ext.nw _ _ _)
  have k301 : KM M294.1 (mx M61) 13 := by rw [hM294]; exact KM.ext k284 (Ext.nw _ _ _)
  have k302 : KM M294.1 (mx M77) 14 := by rw [hM294]; exact KM.ext k285 (Ext.nw _ _ _)
  have k303 : KM M294.1 (mx M95) 15 := by rw [hM294]; exact KM.ext k286 (Ext.nw _ _ _)
  have k304 : KM M294.1 (mx M115) 13 := by rw [hM294]; exact KM.ext k287 (Ext.nw _ _ _)
  have k305 : KM M294.1 (mx M137) 13 := by rw [hM294]; exact KM.ext k288 (Ext.nw _ _ _)
  have k306 : KM M294.1 (mx M161) 13 := by rw [hM294]; exact KM.ext k289 (Ext.nw _ _ _)
  have k307 : KM M294.1 (mx M187) 13 := by rw [hM294]; exact KM.ext k290 (Ext.nw _ _ _)
  have k308 : KM M294.1 (mx M215) 13 := by rw [hM294]; exact KM.ext k291 (Ext.nw _ _ _)
  have k309 : KM M294.1 (mx M245) 13 := by rw [hM294]; exact KM.ext k292 (Ext.nw _ _ _)
  have k310 : KM M294.1 (mx M277) 13 := by rw [hM294]; exact KM.nw _ _ _
  refine fr_putFA rfl dX12_init_143 rfl fp_X12_61 k295 ?_
  refine fr_mem (fun M311 hM311 => ?_)
  have h := h M311 hM311
  have k312 : KM M311.1 o 12 := by rw [hM311]; exact k295
  have k313 : KM M311.1 (mx M) 13 := by rw [hM311]; exact k296
  have k314 : KM M311.1 (mx M5) 13 := by rw [hM311]; exact k297
  have k315 : KM M311.1 (mx M13) 13 := by rw [hM311]; exact k298
  have k316 : KM M311.1 (mx M23) 13 := by rw [hM311]; exact k299
  have k317 : KM M311.1 (mx M47) 13 := by rw [hM311]; exact k300
  have k318 : KM M311.1 (mx M61) 13 := by rw [hM311]; exact k301
  have k319 : KM M311.1 (mx M77) 14 := by rw [hM311]; exact k302
  have k320 : KM M311.1 (mx M95) 15 := by rw [hM311]; exact k303
  have k321 : KM M311.1 (mx M115) 13 := by rw [hM311]; exact k304
  have k322 : KM M311.1 (mx M137) 13 := by rw [hM311]; exact k305
  have k323 : KM M311.1 (mx M161) 13 := by rw [hM311]; exact k306
  have k324 : KM M311.1 (mx M187) 13 := by rw [hM311]; exact k307
  have k325 : KM M311.1 (mx M215) 13 := by rw [hM311]; exact k308
  have k326 : KM M311.1 (mx M245) 13 := by rw [hM311]; exact k309
  have k327 : KM M311.1 (mx M277) 13 := by rw [hM311]; exact k310
  refine fr_aload_n (i := 0) (q := 0) rfl dX12_init_146 rfl ?_
  refine fr_bipush (v := 100) (by decide) dX12_init_147 rfl ?_
  refine fr_newL dX12_init_149 rfl ac_long (by decide) (by decide) ?_
  refine fr_mem (fun M329 hM329 => ?_)
  have h := h M329 hM329
  have k330 : KM M329.1 o 12 := by rw [hM329]; exact KM.ext k312 (Ext.nw _ _ _)
  have k331 : KM M329.1 (mx M) 13 := by rw [hM329]; exact KM.ext k313 (Ext.nw _ _ _)
  have k332 : KM M329.1 (mx M5) 13 := by rw [hM329]; exact KM.ext k314 (Ext.nw _ _ _)
  have k333 : KM M329.1 (mx M13) 13 := by rw [hM329]; exact KM.ext k315 (Ext.nw _ _ _)
  have k334 : KM M329.1 (mx M23) 13 := by rw [hM329]; exact KM.ext k316 (Ext.nw _ _ _)
  have k335 : KM M329.1 (mx M47) 13 := by rw [hM329]; exact KM.ext k317 (Ext.nw _ _ _)
  have k336 : KM M329.1 (mx M61) 13 := by rw [hM329]; exact KM.ext k318 (Ext.nw _ _ _)
  have k337 : KM M329.1 (mx M77) 14 := by rw [hM329]; exact KM.ext k319 (Ext.nw _ _ _)
  have k338 : KM M329.1 (mx M95) 15 := by rw [hM329]; exact KM.ext k320 (Ext.nw _ _ _)
  have k339 : KM M329.1 (mx M115) 13 := by rw [hM329]; exact KM.ext k321 (Ext.nw _ _ _)
  have k340 : KM M329.1 (mx M137) 13 := by rw [hM329]; exact KM.ext k322 (Ext.nw _ _ _)
  have k341 : KM M329.1 (mx M161) 13 := by rw [hM329]; exact KM.ext k323 (Ext.nw _ _ _)
  have k342 : KM M329.1 (mx M187) 13 := by rw [hM329]; exact KM.ext k324 (Ext.nw _ _ _)
  have k343 : KM M329.1 (mx M215) 13 := by rw [hM329]; exact KM.ext k325 (Ext.nw _ _ _)
  have k344 : KM M329.1 (mx M245) 13 := by rw [hM329]; exact KM.ext k326 (Ext.nw _ _ _)
  have k345 : KM M329.1 (mx M277) 13 := by rw [hM329]; exact KM.ext k327 (Ext.nw _ _ _)
  have k346 : KM M329.1 (mx M311) 14 := by rw [hM329]; exact KM.nw _ _ _
  refine fr_putFA rfl dX12_init_151 rfl fp_X12_64 k330 ?_
  refine fr_mem (fun M347 hM347 => ?_)
  have h := h M347 hM347
  have k348 : KM M347.1 o 12 := by rw [hM347]; exact k330
  have k349 : KM M347.1 (mx M) 13 := by rw [hM347]; exact k331
  have k350 : KM M347.1 (mx M5) 13 := by rw [hM347]; exact k332
  have k351 : KM M347.1 (mx M13) 13 := by rw [hM347]; exact k333
  have k352 : KM M347.1 (mx M23) 13 := by rw [hM347]; exact k334
  have k353 : KM M347.1 (mx M47) 13 := by rw [hM347]; exact k335
  have k354 : KM M347.1 (mx M61) 13 := by rw [hM347]; exact k336
  have k355 : KM M347.1 (mx M77) 14 := by rw [hM347]; exact k337
  have k356 : KM M347.1 (mx M95) 15 := by rw [hM347]; exact k338
  have k357 : KM M347.1 (mx M115) 13 := by rw [hM347]; exact k339
  have k358 : KM M347.1 (mx M137) 13 := by rw [hM347]; exact k340
  have k359 : KM M347.1 (mx M161) 13 := by rw [hM347]; exact k341
  have k360 : KM M347.1 (mx M187) 13 := by rw [hM347]; exact k342
  have k361 : KM M347.1 (mx M215) 13 := by rw [hM347]; exact k343
  have k362 : KM M347.1 (mx M245) 13 := by rw [hM347]; exact k344
  have k363 : KM M347.1 (mx M277) 13 := by rw [hM347]; exact k345
  have k364 : KM M347.1 (mx M311) 14 := by rw [hM347]; exact k346
  refine fr_aload_n (i := 0) (q := 0) rfl dX12_init_154 rfl ?_
  refine fr_bipush (v := 100) (by decide) dX12_init_155 rfl ?_
  refine fr_newL dX12_init_157 rfl ac_long (by decide) (by decide) ?_
  refine fr_mem (fun M366 hM366 => ?_)
  have h := h M366 hM366
  have k367 : KM M366.1 o 12 := by rw [hM366]; exact KM.ext k348 (Ext.nw _ _ _)
  have k368 : KM M366.1 (mx M) 13 := by rw [hM366]; exact KM.ext k349 (Ext.nw _ _ _)
  have k369 : KM M366.1 (mx M5) 13 := by rw [hM366]; exact KM.ext k350 (Ext.nw _ _ _)
  have k370 : KM M366.1 (mx M13) 13 := by rw [hM366]; exact KM.ext k351 (Ext.nw _ _ _)
  have k371 : KM M366.1 (mx M23) 13 := by rw [hM366]; exact KM.ext k352 (Ext.nw _ _ _)
  have k372 : KM M366.1 (mx M47) 13 := by rw [hM366]; exact KM.ext k353 (Ext.nw _ _ _)
  have k373 : KM M366.1 (mx M61) 13 := by rw [hM366]; exact KM.ext k354 (Ext.nw _ _ _)
  have k374 : KM M366.1 (mx M77) 14 := by rw [hM366]; exact KM.ext k355 (Ext.nw _ _ _)
  have k375 : KM M366.1 (mx M95) 15 := by rw [hM366]; exact KM.ext k356 (Ext.nw _ _ _)
  have k376 : KM M366.1 (mx M115) 13 := by rw [hM366]; exact KM.ext k357 (Ext.nw _ _ _)
  have k377 : KM M366.1 (mx M137) 13 := by rw [hM366]; exact KM.ext k358 (Ext.nw _ _ _)
  have k378 : KM M366.1 (mx M161) 13 := by rw [hM366]; exact KM.ext k359 (Ext.nw _ _ _)
  have k379 : KM M366.1 (mx M187) 13 := by rw [hM366]; exact KM.ext k360 (Ext.nw _ _ _)
  have k380 : KM M366.1 (mx M215) 13 := by rw [hM366]; exact KM.ext k361 (Ext.nw _ _ _)
  have k381 : KM M366.1 (mx M245) 13 := by rw [hM366]; exact KM.ext k362 (Ext.nw _ _ _)
  have k382 : KM M366.1 (mx M277) 13 := by rw [hM366]; exact KM.ext k363 (Ext.nw _ _ _)
  have k383 : KM M366.1 (mx M311) 14 := by rw [hM366]; exact KM.ext k364 (Ext.nw _ _ _)
  have k384 : KM M366.1 (mx M347) 14 := by rw [hM366]; exact KM.nw _ _ _
  refine fr_putFA rfl dX12_init_159 rfl fp_X12_67 k367 ?_
  refine fr_mem (fun M385 hM385 => ?_)
  have h := h M385 hM385
  have k386 : KM M385.1 o 12 := by rw [hM385]; exact k367
  have k387 : KM M385.1 (mx M) 13 := by rw [hM385]; exact k368
  have k388 : KM M385.1 (mx M5) 13 := by rw [hM385]; exact k369
  have k389 : KM M385.1 (mx M13) 13 := by rw [hM385]; exact k370
  have k390 : KM M385.1 (mx M23) 13 := by rw [hM385]; exact k371
  have k391 : KM M385.1 (mx M47) 13 := by rw [hM385]; exact k372
  have k392 : KM M385.1 (mx M61) 13 := by rw [hM385]; exact k373
  have k393 : KM M385.1 (mx M77) 14 := by rw [hM385]; exact k374
  have k394 : KM M385.1 (mx M95) 15 := by rw [hM385]; exact k375
  have k395 : KM M385.1 (mx M115) 13 := by rw [hM385]; exact k376
  have k396 : KM M385.1 (mx M137) 13 := by rw [hM385]; exact k377
  have k397 : KM M385.1 (mx M161) 13 := by rw [hM385]; exact k378
  have k398 : KM M385.1 (mx M187) 13 := by rw [hM385]; exact k379
  have k399 : KM M385.1 (mx M215) 13 := by rw [hM385]; exact k380
  have k400 : KM M385.1 (mx M245) 13 := by rw [hM385]; exact k381
  have k401 : KM M385.1 (mx M277) 13 := by rw [hM385]; exact k382
  have k402 : KM M385.1 (mx M311) 14 := by rw [hM385]; exact k383
  have k403 : KM M385.1 (mx M347) 14 := by rw [hM385]; exact k384
  refine fr_aload_n (i := 0) (q := 0) rfl dX12_init_162 rfl ?_
  refine fr_bipush (v := 72) (by decide) dX12_init_163 rfl ?_
  refine fr_newL dX12_init_165 rfl ac_long (by decide) (by decide) ?_
  refine fr_mem (fun M405 hM405 => ?_)
  have h := h M405 hM405
  have k406 : KM M405.1 o 12 := by rw [hM405]; exact KM.ext k386 (Ext.nw _ _ _)
  have k407 : KM M405.1 (mx M) 13 := by rw [hM405]; exact KM.ext k387 (Ext.nw _ _ _)
  have k408 : KM M405.1 (mx M5) 13 := by rw [hM405]; exact KM.ext k388 (Ext.nw _ _ _)
  have k409 : KM M405.1 (mx M13) 13 := by rw [hM405]; exact KM.ext k389 (Ext.nw _ _ _)
  have k410 : KM M405.1 (mx M23) 13 := by rw [hM405]; exact KM.ext k390 (Ext.nw _ _ _)
  have k411 : KM M405.1 (mx M47) 13 := by rw [hM405]; exact KM.ext k391 (Ext.nw _ _ _)
  have k412 : KM M405.1 (mx M61) 13 := by rw [hM405]; exact KM.ext k392 (Ext.nw _ _ _)
  have k413 : KM M405.1 (mx M77) 14 := by rw [hM405]; exact KM.ext k393 (Ext.nw _ _ _)
  have k414 : KM M405.1 (mx M95) 15 := by rw [hM405]; exact KM.ext k394 (Ext.nw _ _ _)
  have k415 : KM M405.1 (mx M115) 13 := by rw [hM405]; exact KM.ext k395 (Ext.nw _ _ _)
  have k416 : KM M405.1 (mx M137) 13 := by rw [hM405]; exact KM.ext k396 (Ext.nw _ _ _)
  have k417 : KM M405.1 (mx M161) 13 := by rw [hM405]; exact KM.ext k397 (Ext.nw _ _ _)
  have k418 : KM M405.1 (mx M187) 13 := by rw [hM405]; exact KM.ext k398 (Ext.nw _ _ _)
  have k419 : KM M405.1 (mx M215) 13 := by rw [hM405]; exact KM.ext k399 (Ext.nw _ _ _)
  have k420 : KM M405.1 (mx M245) 13 := by rw [hM405]; exact KM.ext k400 (Ext.nw _ _ _)
  have k421 : KM M405.1 (mx M277) 13 := by rw [hM405]; exact KM.ext k401 (Ext.nw _ _ _)
  have k422 : KM M405.1 (mx M311) 14 := by rw [hM405]; exact KM.ext k402 (Ext.nw _ _ _)
  have k423 : KM M405.1 (mx M347) 14 := by rw [hM405]; exact KM.ext k403 (Ext.nw _ _ _)
  have k424 : KM M405.1 (mx M385) 14 := by rw [hM405]; exact KM.nw _ _ _
  refine fr_putFA rfl dX12_init_167 rfl fp_X12_70 k406 ?_
  refine fr_mem (fun M425 hM425 => ?_)
  have h := h M425 hM425
  have k426 : KM M425.1 o 12 := by rw [hM425]; exact k406
  have k427 : KM M425.1 (mx M) 13 := by rw [hM425]; exact k407
  have k428 : KM M425.1 (mx M5) 13 := by rw [hM425]; exact k408
  have k429 : KM M425.1 (mx M13) 13 := by rw [hM425]; exact k409
  have k430 : KM M425.1 (mx M23) 13 := by rw [hM425]; exact k410
  have k431 : KM M425.1 (mx M47) 13 := by rw [hM425]; exact k411
  have k432 : KM M425.1 (mx M61) 13 := by rw [hM425]; exact k412
  have k433 : KM M425.1 (mx M77) 14 := by rw [hM425]; exact k413
  have k434 : KM M425.1 (mx M95) 15 := by rw [hM425]; exact k414
  have k435 : KM M425.1 (mx M115) 13 := by rw [hM425]; exact k415
  have k436 : KM M425.1 (mx M137) 13 := by rw [hM425]; exact k416
  have k437 : KM M425.1 (mx M161) 13 := by rw [hM425]; exact k417
  have k438 : KM M425.1 (mx M187) 13 := by rw [hM425]; exact k418
  have k439 : KM M425.1 (mx M215) 13 := by rw [hM425]; exact k419
  have k440 : KM M425.1 (mx M245) 13 := by rw [hM425]; exact k420
  have k441 : KM M425.1 (mx M277) 13 := by rw [hM425]; exact k421
  have k442 : KM M425.1 (mx M311) 14 := by rw [hM425]; exact k422
  have k443 : KM M425.1 (mx M347) 14 := by rw [hM425]; exact k423
  have k444 : KM M425.1 (mx M385) 14 := by rw [hM425]; exact k424
  refine fr_aload_n (i := 0) (q := 0) rfl dX12_init_170 rfl ?_
  refine fr_bipush (v := 12) (by decide) dX12_init_171 rfl ?_
  refine fr_newI dX12_init_173 rfl ac_int (by decide) (by decide) ?_
  refine fr_mem (fun M446 hM446 => ?_)
  have h := h M446 hM446
  have k447 : KM M446.1 o 12 := by rw [hM446]; exact KM.ext k426 (Ext.nw _ _ _)
  have k448 : KM M446.1 (mx M) 13 := by rw [hM446]; exact KM.ext k427 (Ext.nw _ _ _)
  have k449 : KM M446.1 (mx M5) 13 := by rw [hM446]; exact KM.ext k428 (Ext.nw _ _ _)
  have k450 : KM M446.1 (mx M13) 13 := by rw [hM446]; exact KM.ext k429 (Ext.nw _ _ _)
  have k451 : KM M446.1 (mx M23) 13 := by rw [hM446]; exact KM.ext k430 (Ext.nw _ _ _)
  have k452 : KM M446.1 (mx M47) 13 := by rw [hM446]; exact KM.ext k431 (Ext.nw _ _ _)
  have k453 : KM M446.1 (mx M61) 13 := by rw [hM446]; exact KM.ext k432 (Ext.nw _ _ _)
  have k454 : KM M446.1 (mx M77) 14 := by rw [hM446]; exact KM.ext k433 (Ext.nw _ _ _)
  have k455 : KM M446.1 (mx M95) 15 := by rw [hM446]; exact KM.ext k434 (Ext.nw _ _ _)
  have k456 : KM M446.1 (mx M115) 13 := by rw [hM446]; exact KM.ext k435 (Ext.nw _ _ _)
  have k457 : KM M446.1 (mx M137) 13 := by rw [hM446]; exact KM.ext k436 (Ext.nw _ _ _)
  have k458 : KM M446.1 (mx M161) 13 := by rw [hM446]; exact KM.ext k437 (Ext.nw _ _ _)
  have k459 : KM M446.1 (mx M187) 13 := by rw [hM446]; exact KM.ext k438 (Ext.nw _ _ _)
  have k460 : KM M446.1 (mx M215) 13 := by rw [hM446]; exact KM.ext k439 (Ext.nw _ _ _)
  have k461 : KM M446.1 (mx M245) 13 := by rw [hM446]; exact KM.ext k440 (Ext.nw _ _ _)
  have k462 : KM M446.1 (mx M277) 13 := by rw [hM446]; exact KM.ext k441 (Ext.nw _ _ _)
  have k463 : KM M446.1 (mx M311) 14 := by rw [hM446]; exact KM.ext k442 (Ext.nw _ _ _)
  have k464 : KM M446.1 (mx M347) 14 := by rw [hM446]; exact KM.ext k443 (Ext.nw _ _ _)
  have k465 : KM M446.1 (mx M385) 14 := by rw [hM446]; exact KM.ext k444 (Ext.nw _ _ _)
  have k466 : KM M446.1 (mx M425) 13 := by rw [hM446]; exact KM.nw _ _ _
  refine fr_putFA rfl dX12_init_175 rfl fp_X12_73 k447 ?_
  refine fr_mem (fun M467 hM467 => ?_)
  have h := h M467 hM467
  have k468 : KM M467.1 o 12 := by rw [hM467]; exact k447
  have k469 : KM M467.1 (mx M) 13 := by rw [hM467]; exact k448
  have k470 : KM M467.1 (mx M5) 13 := by rw [hM467]; exact k449
  have k471 : KM M467.1 (mx M13) 13 := by rw [hM467]; exact k450
  have k472 : KM M467.1 (mx M23) 13 := by rw [hM467]; exact k451
  have k473 : KM M467.1 (mx M47) 13 := by rw [hM467]; exact k452
  have k474 : KM M467.1 (mx M61) 13 := by rw [hM467]; exact k453
  have k475 : KM M467.1 (mx M77) 14 := by rw [hM467]; exact k454
  have k476 : KM M467.1 (mx M95) 15 := by rw [hM467]; exact k455
  have k477 : KM M467.1 (mx M115) 13 := by rw [hM467]; exact k456
  have k478 : KM M467.1 (mx M137) 13 := by rw [hM467]; exact k457
  have k479 : KM M467.1 (mx M161) 13 := by rw [hM467]; exact k458
  have k480 : KM M467.1 (mx M187) 13 := by rw [hM467]; exact k459
  have k481 : KM M467.1 (mx M215) 13 := by rw [hM467]; exact k460
  have k482 : KM M467.1 (mx M245) 13 := by rw [hM467]; exact k461
  have k483 : KM M467.1 (mx M277) 13 := by rw [hM467]; exact k462
  have k484 : KM M467.1 (mx M311) 14 := by rw [hM467]; exact k463
  have k485 : KM M467.1 (mx M347) 14 := by rw [hM467]; exact k464
  have k486 : KM M467.1 (mx M385) 14 := by rw [hM467]; exact k465
  have k487 : KM M467.1 (mx M425) 13 := by rw [hM467]; exact k466
  refine fr_aload_n (i := 0) (q := 0) rfl dX12_init_178 rfl ?_
  refine fr_bipush (v := 72) (by decide) dX12_init_179 rfl ?_
  refine fr_newI dX12_init_181 rfl ac_int (by decide) (by decide) ?_
  refine fr_mem (fun M489 hM489 => ?_)
  have h := h M489 hM489
  have k490 : KM M489.1 o 12 := by rw [hM489]; exact KM.ext k468 (Ext.nw _ _ _)
  have k491 : KM M489.1 (mx M) 13 := by rw [hM489]; exact KM.ext k469 (Ext.nw _ _ _)
  have k492 : KM M489.1 (mx M5) 13 := by rw [hM489]; exact KM.ext k470 (Ext.nw _ _ _)
  have k493 : KM M489.1 (mx M13) 13 := by rw [hM489]; exact KM.ext k471 (Ext.nw _ _ _)
  have k494 : KM M489.1 (mx M23) 13 := by rw [hM489]; exact KM.ext k472 (Ext.nw _ _ _)
  have k495 : KM M489.1 (mx M47) 13 := by rw [hM489]; exact KM.ext k473 (Ext.nw _ _ _)
  have k496 : KM M489.1 (mx M61) 13 := by rw [hM489]; exact KM.ext k474 (Ext.nw _ _ _)
  have k497 : KM M489.1 (mx M77) 14 := by rw [hM489]; exact KM.ext k475 (Ext.nw _ _ _)
  have k498 : KM M489.1 (mx M95) 15 := by rw [hM489]; exact KM.ext k476 (Ext.nw _ _ _)
  have k499 : KM M489.1 (mx M115) 13 := by rw [hM489]; exact KM.ext k477 (Ext.nw _ _ _)
  have k500 : KM M489.1 (mx M137) 13 := by rw [hM489]; exact KM.ext k478 (Ext.nw _ _ _)
  have k501 : KM M489.1 (mx M161) 13 := by rw [hM489]; exact KM.ext k479 (Ext.nw _ _ _)
  have k502 : KM M489.1 (mx M187) 13 := by rw [hM489]; exact KM.ext k480 (Ext.nw _ _ _)
  have k503 : KM M489.1 (mx M215) 13 := by rw [hM489]; exact KM.ext k481 (Ext.nw _ _ _)
  have k504 : KM M489.1 (mx M245) 13 := by rw [hM489]; exact KM.ext k482 (Ext.nw _ _ _)
  have k505 : KM M489.1 (mx M277) 13 := by rw [hM489]; exact KM.ext k483 (Ext.nw _ _ _)
  have k506 : KM M489.1 (mx M311) 14 := by rw [hM489]; exact KM.ext k484 (Ext.nw _ _ _)
  have k507 : KM M489.1 (mx M347) 14 := by rw [hM489]; exact KM.ext k485 (Ext.nw _ _ _)
  have k508 : KM M489.1 (mx M385) 14 := by rw [hM489]; exact KM.ext k486 (Ext.nw _ _ _)
  have k509 : KM M489.1 (mx M425) 13 := by rw [hM489]; exact KM.ext k487 (Ext.nw _ _ _)
  have k510 : KM M489.1 (mx M467) 13 := by rw [hM489]; exact KM.nw _ _ _
  refine fr_putFA rfl dX12_init_183 rfl fp_X12_76 k490 ?_
  refine fr_mem (fun M511 hM511 => ?_)
  have h := h M511 hM511
  have k512 : KM M511.1 o 12 := by rw [hM511]; exact k490
  have k513 : KM M511.1 (mx M) 13 := by rw [hM511]; exact k491
  have k514 : KM M511.1 (mx M5) 13 := by rw [hM511]; exact k492
  have k515 : KM M511.1 (mx M13) 13 := by rw [hM511]; exact k493
  have k516 : KM M511.1 (mx M23) 13 := by rw [hM511]; exact k494
  have k517 : KM M511.1 (mx M47) 13 := by rw [hM511]; exact k495
  have k518 : KM M511.1 (mx M61) 13 := by rw [hM511]; exact k496
  have k519 : KM M511.1 (mx M77) 14 := by rw [hM511]; exact k497
  have k520 : KM M511.1 (mx M95) 15 := by rw [hM511]; exact k498
  have k521 : KM M511.1 (mx M115) 13 := by rw [hM511]; exact k499
  have k522 : KM M511.1 (mx M137) 13 := by rw [hM511]; exact k500
  have k523 : KM M511.1 (mx M161) 13 := by rw [hM511]; exact k501
  have k524 : KM M511.1 (mx M187) 13 := by rw [hM511]; exact k502
  have k525 : KM M511.1 (mx M215) 13 := by rw [hM511]; exact k503
  have k526 : KM M511.1 (mx M245) 13 := by rw [hM511]; exact k504
  have k527 : KM M511.1 (mx M277) 13 := by rw [hM511]; exact k505
  have k528 : KM M511.1 (mx M311) 14 := by rw [hM511]; exact k506
  have k529 : KM M511.1 (mx M347) 14 := by rw [hM511]; exact k507
  have k530 : KM M511.1 (mx M385) 14 := by rw [hM511]; exact k508
  have k531 : KM M511.1 (mx M425) 13 := by rw [hM511]; exact k509
  have k532 : KM M511.1 (mx M467) 13 := by rw [hM511]; exact k510
  refine fr_aload_n (i := 0) (q := 0) rfl dX12_init_186 rfl ?_
  refine fr_bipush (v := 6) (by decide) dX12_init_187 rfl ?_
  refine fr_newI dX12_init_189 rfl ac_int (by decide) (by decide) ?_
  refine fr_mem (fun M534 hM534 => ?_)
  have h := h M534 hM534
  have k535 : KM M534.1 o 12 := by rw [hM534]; exact KM.ext k512 (Ext.nw _ _ _)
  have k536 : KM M534.1 (mx M) 13 := by rw [hM534]; exact KM.ext k513 (Ext.nw _ _ _)
  have k537 : KM M534.1 (mx M5) 13 := by rw [hM534]; exact KM.ext k514 (Ext.nw _ _ _)
  have k538 : KM M534.1 (mx M13) 13 := by rw [hM534]; exact KM.ext k515 (Ext.nw _ _ _)
  have k539 : KM M534.1 (mx M23) 13 := by rw [hM534]; exact KM.ext k516 (Ext.nw _ _ _)
  have k540 : KM M534.1 (mx M47) 13 := by rw [hM534]; exact KM.ext k517 (Ext.nw _ _ _)
  have k541 : KM M534.1 (mx M61) 13 := by rw [hM534]; exact KM.ext k518 (Ext.nw _ _ _)
  have k542 : KM M534.1 (mx M77) 14 := by rw [hM534]; exact KM.ext k519 (Ext.nw _ _ _)
  have k543 : KM M534.1 (mx M95) 15 := by rw [hM534]; exact KM.ext k520 (Ext.nw _ _ _)
  have k544 : KM M534.1 (mx M115) 13 := by rw [hM534]; exact KM.ext k521 (Ext.nw _ _ _)
  have k545 : KM M534.1 (mx M137) 13 := by rw [hM534]; exact KM.ext k522 (Ext.nw _ _ _)
  have k546 : KM M534.1 (mx M161) 13 := by rw [hM534]; exact KM.ext k523 (Ext.nw _ _ _)
  have k547 : KM M534.1 (mx M187) 13 := by rw [hM534]; exact KM.ext k524 (Ext.nw _ _ _)
  have k548 : KM M534.1 (mx M215) 13 := by rw [hM534]; exact KM.ext k525 (Ext.nw _ _ _)
  have k549 : KM M534.1 (mx M245) 13 := by rw [hM534]; exact KM.ext k526 (Ext.nw _ _ _)
  have k550 : KM M534.1 (mx M277) 13 := by rw [hM534]; exact KM.ext k527 (Ext.nw _ _ _)
  have k551 : KM M534.1 (mx M311) 14 := by rw [hM534]; exact KM.ext k528 (Ext.nw _ _ _)
  have k552 : KM M534.1 (mx M347) 14 := by rw [hM534]; exact KM.ext k529 (Ext.nw _ _ _)
  have k553 : KM M534.1 (mx M385) 14 := by rw [hM534]; exact KM.ext k530 (Ext.nw _ _ _)
  have k554 : KM M534.1 (mx M425) 13 := by rw [hM534]; exact KM.ext k531 (Ext.nw _ _ _)
  have k555 : KM M534.1 (mx M467) 13 := by rw [hM534]; exact KM.ext k532 (Ext.nw _ _ _)
  have k556 : KM M534.1 (mx M511) 13 := by rw [hM534]; exact KM.nw _ _ _
  refine fr_putFA rfl dX12_init_191 rfl fp_X12_79 k535 ?_
  refine fr_mem (fun M557 hM557 => ?_)
  have h := h M557 hM557
  have k558 : KM M557.1 o 12 := by rw [hM557]; exact k535
  have k559 : KM M557.1 (mx M) 13 := by rw [hM557]; exact k536
  have k560 : KM M557.1 (mx M5) 13 := by rw [hM557]; exact k537
  have k561 : KM M557.1 (mx M13) 13 := by rw [hM557]; exact k538
  have k562 : KM M557.1 (mx M23) 13 := by rw [hM557]; exact k539
  have k563 : KM M557.1 (mx M47) 13 := by rw [hM557]; exact k540
  have k564 : KM M557.1 (mx M61) 13 := by rw [hM557]; exact k541
  have k565 : KM M557.1 (mx M77) 14 := by rw [hM557]; exact k542
  have k566 : KM M557.1 (mx M95) 15 := by rw [hM557]; exact k543
  have k567 : KM M557.1 (mx M115) 13 := by rw [hM557]; exact k544
  have k568 : KM M557.1 (mx M137) 13 := by rw [hM557]; exact k545
  have k569 : KM M557.1 (mx M161) 13 := by rw [hM557]; exact k546
  have k570 : KM M557.1 (mx M187) 13 := by rw [hM557]; exact k547
  have k571 : KM M557.1 (mx M215) 13 := by rw [hM557]; exact k548
  have k572 : KM M557.1 (mx M245) 13 := by rw [hM557]; exact k549
  have k573 : KM M557.1 (mx M277) 13 := by rw [hM557]; exact k550
  have k574 : KM M557.1 (mx M311) 14 := by rw [hM557]; exact k551
  have k575 : KM M557.1 (mx M347) 14 := by rw [hM557]; exact k552
  have k576 : KM M557.1 (mx M385) 14 := by rw [hM557]; exact k553
  have k577 : KM M557.1 (mx M425) 13 := by rw [hM557]; exact k554
  have k578 : KM M557.1 (mx M467) 13 := by rw [hM557]; exact k555
  have k579 : KM M557.1 (mx M511) 13 := by rw [hM557]; exact k556
  refine fr_aload_n (i := 0) (q := 0) rfl dX12_init_194 rfl ?_
  refine fr_sipush (v := 20000) (by decide) dX12_init_195 rfl ?_
  refine fr_newI dX12_init_198 rfl ac_int (by decide) (by decide) ?_
  refine fr_mem (fun M581 hM581 => ?_)
  have h := h M581 hM581
  have k582 : KM M581.1 o 12 := by rw [hM581]; exact KM.ext k558 (Ext.nw _ _ _)
  have k583 : KM M581.1 (mx M) 13 := by rw [hM581]; exact KM.ext k559 (Ext.nw _ _ _)
  have k584 : KM M581.1 (mx M5) 13 := by rw [hM581]; exact KM.ext k560 (Ext.nw _ _ _)
  have k585 : KM M581.1 (mx M13) 13 := by rw [hM581]; exact KM.ext k561 (Ext.nw _ _ _)
  have k586 : KM M581.1 (mx M23) 13 := by rw [hM581]; exact KM.ext k562 (Ext.nw _ _ _)
  have k587 : KM M581.1 (mx M47) 13 := by rw [hM581]; exact KM.ext k563 (Ext.nw _ _ _)
  have k588 : KM M581.1 (mx M61) 13 := by rw [hM581]; exact KM.ext k564 (Ext.nw _ _ _)
  have k589 : KM M581.1 (mx M77) 14 := by rw [hM581]; exact KM.ext k565 (Ext.nw _ _ _)
  have k590 : KM M581.1 (mx M95) 15 := by rw [hM581]; exact KM.ext k566 (Ext.nw _ _ _)
  have k591 : KM M581.1 (mx M115) 13 := by rw [hM581]; exact KM.ext k567 (Ext.nw _ _ _)
  have k592 : KM M581.1 (mx M137) 13 := by rw [hM581]; exact KM.ext k568 (Ext.nw _ _ _)
  have k593 : KM M581.1 (mx M161) 13 := by rw [hM581]; exact KM.ext k569 (Ext.nw _ _ _)
  have k594 : KM M581.1 (mx M187) 13 := by rw [hM581]; exact KM.ext k570 (Ext.nw _ _ _)
  have k595 : KM M581.1 (mx M215) 13 := by rw [hM581]; exact KM.ext k571 (Ext.nw _ _ _)
  have k596 : KM M581.1 (mx M245) 13 := by rw [hM581]; exact KM.ext k572 (Ext.nw _ _ _)
  have k597 : KM M581.1 (mx M277) 13 := by rw [hM581]; exact KM.ext k573 (Ext.nw _ _ _)
  have k598 : KM M581.1 (mx M311) 14 := by rw [hM581]; exact KM.ext k574 (Ext.nw _ _ _)
  have k599 : KM M581.1 (mx M347) 14 := by rw [hM581]; exact KM.ext k575 (Ext.nw _ _ _)
  have k600 : KM M581.1 (mx M385) 14 := by rw [hM581]; exact KM.ext k576 (Ext.nw _ _ _)
  have k601 : KM M581.1 (mx M425) 13 := by rw [hM581]; exact KM.ext k577 (Ext.nw _ _ _)
  have k602 : KM M581.1 (mx M467) 13 := by rw [hM581]; exact KM.ext k578 (Ext.nw _ _ _)
  have k603 : KM M581.1 (mx M511) 13 := by rw [hM581]; exact KM.ext k579 (Ext.nw _ _ _)
  have k604 : KM M581.1 (mx M557) 13 := by rw [hM581]; exact KM.nw _ _ _
  refine fr_putFA rfl dX12_init_200 rfl fp_X12_82 k582 ?_
  refine fr_mem (fun M605 hM605 => ?_)
  have h := h M605 hM605
  have k606 : KM M605.1 o 12 := by rw [hM605]; exact k582
  have k607 : KM M605.1 (mx M) 13 := by rw [hM605]; exact k583
  have k608 : KM M605.1 (mx M5) 13 := by rw [hM605]; exact k584
  have k609 : KM M605.1 (mx M13) 13 := by rw [hM605]; exact k585
  have k610 : KM M605.1 (mx M23) 13 := by rw [hM605]; exact k586
  have k611 : KM M605.1 (mx M47) 13 := by rw [hM605]; exact k587
  have k612 : KM M605.1 (mx M61) 13 := by rw [hM605]; exact k588
  have k613 : KM M605.1 (mx M77) 14 := by rw [hM605]; exact k589
  have k614 : KM M605.1 (mx M95) 15 := by rw [hM605]; exact k590
  have k615 : KM M605.1 (mx M115) 13 := by rw [hM605]; exact k591
  have k616 : KM M605.1 (mx M137) 13 := by rw [hM605]; exact k592
  have k617 : KM M605.1 (mx M161) 13 := by rw [hM605]; exact k593
  have k618 : KM M605.1 (mx M187) 13 := by rw [hM605]; exact k594
  have k619 : KM M605.1 (mx M215) 13 := by rw [hM605]; exact k595
  have k620 : KM M605.1 (mx M245) 13 := by rw [hM605]; exact k596
  have k621 : KM M605.1 (mx M277) 13 := by rw [hM605]; exact k597
  have k622 : KM M605.1 (mx M311) 14 := by rw [hM605]; exact k598
  have k623 : KM M605.1 (mx M347) 14 := by rw [hM605]; exact k599
  have k624 : KM M605.1 (mx M385) 14 := by rw [hM605]; exact k600
  have k625 : KM M605.1 (mx M425) 13 := by rw [hM605]; exact k601
  have k626 : KM M605.1 (mx M467) 13 := by rw [hM605]; exact k602
  have k627 : KM M605.1 (mx M511) 13 := by rw [hM605]; exact k603
  have k628 : KM M605.1 (mx M557) 13 := by rw [hM605]; exact k604
  refine fr_aload_n (i := 0) (q := 0) rfl dX12_init_203 rfl ?_
  refine fr_iload_n (i := 1) (q := 1) rfl dX12_init_204 rfl ?_
  refine fr_iconst (v := 2) (by decide) dX12_init_205 rfl ?_
  refine fr_icmp_ge (tgt := 213) dX12_init_206 (by decide) rfl (fun hc => ?_) (fun hc => ?_)
  · have h := h.1 hc
    refine fr_iload_n (i := 1) (q := 1) rfl dX12_init_213 rfl ?_
    refine fr_iconst (v := 5) (by decide) dX12_init_214 rfl ?_
    refine fr_icmp_le (tgt := 222) dX12_init_215 (by decide) rfl (fun hc => ?_) (fun hc => ?_)
    · have h := h.1 hc
      refine fr_iload_n (i := 1) (q := 1) rfl dX12_init_222 rfl ?_
      refine fr_putFI rfl dX12_init_223 rfl fp_X12_85 k606 ?_
      refine fr_mem (fun M629 hM629 => ?_)
      have h := h M629 hM629
      have k630 : KM M629.1 o 12 := by rw [hM629]; exact k606
      have k631 : KM M629.1 (mx M) 13 := by rw [hM629]; exact k607
      have k632 : KM M629.1 (mx M5) 13 := by rw [hM629]; exact k608
      have k633 : KM M629.1 (mx M13) 13 := by rw [hM629]; exact k609
      have k634 : KM M629.1 (mx M23) 13 := by rw [hM629]; exact k610
      have k635 : KM M629.1 (mx M47) 13 := by rw [hM629]; exact k611
      have k636 : KM M629.1 (mx M61) 13 := by rw [hM629]; exact k612
      have k637 : KM M629.1 (mx M77) 14 := by rw [hM629]; exact k613
      have k638 : KM M629.1 (mx M95) 15 := by rw [hM629]; exact k614
      have k639 : KM M629.1 (mx M115) 13 := by rw [hM629]; exact k615
      have k640 : KM M629.1 (mx M137) 13 := by rw [hM629]; exact k616
      have k641 : KM M629.1 (mx M161) 13 := by rw [hM629]; exact k617
      have k642 : KM M629.1 (mx M187) 13 := by rw [hM629]; exact k618
      have k643 : KM M629.1 (mx M215) 13 := by rw [hM629]; exact k619
      have k644 : KM M629.1 (mx M245) 13 := by rw [hM629]; exact k620
      have k645 : KM M629.1 (mx M277) 13 := by rw [hM629]; exact k621
      have k646 : KM M629.1 (mx M311) 14 := by rw [hM629]; exact k622
      have k647 : KM M629.1 (mx M347) 14 := by rw [hM629]; exact k623
      have k648 : KM M629.1 (mx M385) 14 := by rw [hM629]; exact k624
      have k649 : KM M629.1 (mx M425) 13 := by rw [hM629]; exact k625
      have k650 : KM M629.1 (mx M467) 13 := by rw [hM629]; exact k626
      have k651 : KM M629.1 (mx M511) 13 := by rw [hM629]; exact k627
      have k652 : KM M629.1 (mx M557) 13 := by rw [hM629]; exact k628
      refine fr_aload_n (i := 0) (q := 0) rfl dX12_init_226 rfl ?_
      refine fr_iload_n (i := 2) (q := 2) rfl dX12_init_227 rfl ?_
      refine fr_iconst (v := 2) (by decide) dX12_init_228 rfl ?_
      refine fr_icmp_ge (tgt := 236) dX12_init_229 (by decide) rfl (fun hc => ?_) (fun hc => ?_)
      · have h := h.1 hc
        refine fr_iload_n (i := 2) (q := 2) rfl dX12_init_236 rfl ?_
        refine fr_iconst (v := 5) (by decide) dX12_init_237 rfl ?_
        refine fr_icmp_le (tgt := 245) dX12_init_238 (by decide) rfl (fun hc => ?_) (fun hc => ?_)
        · have h := h.1 hc
          refine fr_iload_n (i := 2) (q := 2) rfl dX12_init_245 rfl ?_
          refine fr_putFI rfl dX12_init_246 rfl fp_X12_88 k630 ?_
          refine fr_mem (fun M653 hM653 => ?_)
          have h := h M653 hM653
          have k654 : KM M653.1 o 12 := by rw [hM653]; exact k630
          have k655 : KM M653.1 (mx M) 13 := by rw [hM653]; exact k631
          have k656 : KM M653.1 (mx M5) 13 := by rw [hM653]; exact k632
          have k657 : KM M653.1 (mx M13) 13 := by rw [hM653]; exact k633
          have k658 : KM M653.1 (mx M23) 13 := by rw [hM653]; exact k634
          have k659 : KM M653.1 (mx M47) 13 := by rw [hM653]; exact k635
          have k660 : KM M653.1 (mx M61) 13 := by rw [hM653]; exact k636
          have k661 : KM M653.1 (mx M77) 14 := by rw [hM653]; exact k637
          have k662 : KM M653.1 (mx M95) 15 := by rw [hM653]; exact k638
          have k663 : KM M653.1 (mx M115) 13 := by rw [hM653]; exact k639
          have k664 : KM M653.1 (mx M137) 13 := by rw [hM653]; exact k640
          have k665 : KM M653.1 (mx M161) 13 := by rw [hM653]; exact k641
          have k666 : KM M653.1 (mx M187) 13 := by rw [hM653]; exact k642
          have k667 : KM M653.1 (mx M215) 13 := by rw [hM653]; exact k643
          have k668 : KM M653.1 (mx M245) 13 := by rw [hM653]; exact k644
          have k669 : KM M653.1 (mx M277) 13 := by rw [hM653]; exact k645
          have k670 : KM M653.1 (mx M311) 14 := by rw [hM653]; exact k646
          have k671 : KM M653.1 (mx M347) 14 := by rw [hM653]; exact k647
          have k672 : KM M653.1 (mx M385) 14 := by rw [hM653]; exact k648
          have k673 : KM M653.1 (mx M425) 13 := by rw [hM653]; exact k649
          have k674 : KM M653.1 (mx M467) 13 := by rw [hM653]; exact k650
          have k675 : KM M653.1 (mx M511) 13 := by rw [hM653]; exact k651
          have k676 : KM M653.1 (mx M557) 13 := by rw [hM653]; exact k652
          refine fr_aload_n (i := 0) (q := 0) rfl dX12_init_249 rfl ?_
          obtain ⟨b677, r_b677, k_b677, h⟩ := h
          refine fr_getR dX12_init_250 rfl fl_X12_7 k654 r_b677 ?_
          refine fr_aload_n (i := 0) (q := 0) rfl dX12_init_253 rfl ?_
          obtain ⟨b678, r_b678, k_b678, h⟩ := h
          refine fr_getR dX12_init_254 rfl fl_X12_13 k654 r_b678 ?_
          obtain ⟨M679, hc680, h⟩ := h
          refine fr_callS2 (ν := mu_X12_copy) (st2 := []) (As := [rf g b677, rf g b678]) (st := []) (v := none) (M1 := M679) dX12_init_257 rfl ml_X12_91 mo_X12_copy ms_X12_copy (Nat.le_of_ble_eq_true rfl) rfl rfl (Nat.le_of_ble_eq_true rfl) hc680 rfl ?_
          have k681 : KM M679.1 o 12 := KM.ext k654 hc680.1
          have k682 : KM M679.1 (mx M) 13 := KM.ext k655 hc680.1
          have k683 : KM M679.1 (mx M5) 13 := KM.ext k656 hc680.1
          have k684 : KM M679.1 (mx M13) 13 := KM.ext k657 hc680.1
          have k685 : KM M679.1 (mx M23) 13 := KM.ext k658 hc680.1
          have k686 : KM M679.1 (mx M47) 13 := KM.ext k659 hc680.1
          have k687 : KM M679.1 (mx M61) 13 := KM.ext k660 hc680.1
          have k688 : KM M679.1 (mx M77) 14 := KM.ext k661 hc680.1
          have k689 : KM M679.1 (mx M95) 15 := KM.ext k662 hc680.1
          have k690 : KM M679.1 (mx M115) 13 := KM.ext k663 hc680.1
          have k691 : KM M679.1 (mx M137) 13 := KM.ext k664 hc680.1
          have k692 : KM M679.1 (mx M161) 13 := KM.ext k665 hc680.1
          have k693 : KM M679.1 (mx M187) 13 := KM.ext k666 hc680.1
          have k694 : KM M679.1 (mx M215) 13 := KM.ext k667 hc680.1
          have k695 : KM M679.1 (mx M245) 13 := KM.ext k668 hc680.1
          have k696 : KM M679.1 (mx M277) 13 := KM.ext k669 hc680.1
          have k697 : KM M679.1 (mx M311) 14 := KM.ext k670 hc680.1
          have k698 : KM M679.1 (mx M347) 14 := KM.ext k671 hc680.1
          have k699 : KM M679.1 (mx M385) 14 := KM.ext k672 hc680.1
          have k700 : KM M679.1 (mx M425) 13 := KM.ext k673 hc680.1
          have k701 : KM M679.1 (mx M467) 13 := KM.ext k674 hc680.1
          have k702 : KM M679.1 (mx M511) 13 := KM.ext k675 hc680.1
          have k703 : KM M679.1 (mx M557) 13 := KM.ext k676 hc680.1
          have k704 : KM M679.1 b677 13 := KM.ext k_b677 hc680.1
          have k705 : KM M679.1 b678 13 := KM.ext k_b678 hc680.1
          exact fr_vret rfl dX12_init_260 h.1 h.2
        · have h := h.2 hc
          refine fr_iconst (v := 5) (by decide) dX12_init_241 rfl ?_
          refine fr_goto (n := 246) dX12_init_242 (by decide) ?_
          refine fr_putFI rfl dX12_init_246 rfl fp_X12_88 k630 ?_
          refine fr_mem (fun M706 hM706 => ?_)
          have h := h M706 hM706
          have k707 : KM M706.1 o 12 := by rw [hM706]; exact k630
          have k708 : KM M706.1 (mx M) 13 := by rw [hM706]; exact k631
          have k709 : KM M706.1 (mx M5) 13 := by rw [hM706]; exact k632
          have k710 : KM M706.1 (mx M13) 13 := by rw [hM706]; exact k633
          have k711 : KM M706.1 (mx M23) 13 := by rw [hM706]; exact k634
          have k712 : KM M706.1 (mx M47) 13 := by rw [hM706]; exact k635
          have k713 : KM M706.1 (mx M61) 13 := by rw [hM706]; exact k636
          have k714 : KM M706.1 (mx M77) 14 := by rw [hM706]; exact k637
          have k715 : KM M706.1 (mx M95) 15 := by rw [hM706]; exact k638
          have k716 : KM M706.1 (mx M115) 13 := by rw [hM706]; exact k639
          have k717 : KM M706.1 (mx M137) 13 := by rw [hM706]; exact k640
          have k718 : KM M706.1 (mx M161) 13 := by rw [hM706]; exact k641
          have k719 : KM M706.1 (mx M187) 13 := by rw [hM706]; exact k642
          have k720 : KM M706.1 (mx M215) 13 := by rw [hM706]; exact k643
          have k721 : KM M706.1 (mx M245) 13 := by rw [hM706]; exact k644
          have k722 : KM M706.1 (mx M277) 13 := by rw [hM706]; exact k645
          have k723 : KM M706.1 (mx M311) 14 := by rw [hM706]; exact k646
          have k724 : KM M706.1 (mx M347) 14 := by rw [hM706]; exact k647
          have k725 : KM M706.1 (mx M385) 14 := by rw [hM706]; exact k648
          have k726 : KM M706.1 (mx M425) 13 := by rw [hM706]; exact k649
          have k727 : KM M706.1 (mx M467) 13 := by rw [hM706]; exact k650
          have k728 : KM M706.1 (mx M511) 13 := by rw [hM706]; exact k651
          have k729 : KM M706.1 (mx M557) 13 := by rw [hM706]; exact k652
          refine fr_aload_n (i := 0) (q := 0) rfl dX12_init_249 rfl ?_
          obtain ⟨b730, r_b730, k_b730, h⟩ := h
          refine fr_getR dX12_init_250 rfl fl_X12_7 k707 r_b730 ?_
          refine fr_aload_n (i := 0) (q := 0) rfl dX12_init_253 rfl ?_
          obtain ⟨b731, r_b731, k_b731, h⟩ := h
          refine fr_getR dX12_init_254 rfl fl_X12_13 k707 r_b731 ?_
          obtain ⟨M732, hc733, h⟩ := h
          refine fr_callS2 (ν := mu_X12_copy) (st2 := []) (As := [rf g b730, rf g b731]) (st := []) (v := none) (M1 := M732) dX12_init_257 rfl ml_X12_91 mo_X12_copy ms_X12_copy (Nat.le_of_ble_eq_true rfl) rfl rfl (Nat.le_of_ble_eq_true rfl) hc733 rfl ?_
          have k734 : KM M732.1 o 12 := KM.ext k707 hc733.1
          have k735 : KM M732.1 (mx M) 13 := KM.ext k708 hc733.1
          have k736 : KM M732.1 (mx M5) 13 := KM.ext k709 hc733.1
          have k737 : KM M732.1 (mx M13) 13 := KM.ext k710 hc733.1
          have k738 : KM M732.1 (mx M23) 13 := KM.ext k711 hc733.1
          have k739 : KM M732.1 (mx M47) 13 := KM.ext k712 hc733.1
          have k740 : KM M732.1 (mx M61) 13 := KM.ext k713 hc733.1
          have k741 : KM M732.1 (mx M77) 14 := KM.ext k714 hc733.1
          have k742 : KM M732.1 (mx M95) 15 := KM.ext k715 hc733.1
          have k743 : KM M732.1 (mx M115) 13 := KM.ext k716 hc733.1
          have k744 : KM M732.1 (mx M137) 13 := KM.ext k717 hc733.1
          have k745 : KM M732.1 (mx M161) 13 := KM.ext k718 hc733.1
          have k746 : KM M732.1 (mx M187) 13 := KM.ext k719 hc733.1
          have k747 : KM M732.1 (mx M215) 13 := KM.ext k720 hc733.1
          have k748 : KM M732.1 (mx M245) 13 := KM.ext k721 hc733.1
          have k749 : KM M732.1 (mx M277) 13 := KM.ext k722 hc733.1
          have k750 : KM M732.1 (mx M311) 14 := KM.ext k723 hc733.1
          have k751 : KM M732.1 (mx M347) 14 := KM.ext k724 hc733.1
          have k752 : KM M732.1 (mx M385) 14 := KM.ext k725 hc733.1
          have k753 : KM M732.1 (mx M425) 13 := KM.ext k726 hc733.1
          have k754 : KM M732.1 (mx M467) 13 := KM.ext k727 hc733.1
          have k755 : KM M732.1 (mx M511) 13 := KM.ext k728 hc733.1
          have k756 : KM M732.1 (mx M557) 13 := KM.ext k729 hc733.1
          have k757 : KM M732.1 b730 13 := KM.ext k_b730 hc733.1
          have k758 : KM M732.1 b731 13 := KM.ext k_b731 hc733.1
          exact fr_vret rfl dX12_init_260 h.1 h.2
      · have h := h.2 hc
        refine fr_iconst (v := 2) (by decide) dX12_init_232 rfl ?_
        refine fr_goto (n := 246) dX12_init_233 (by decide) ?_
        refine fr_putFI rfl dX12_init_246 rfl fp_X12_88 k630 ?_
        refine fr_mem (fun M759 hM759 => ?_)
        have h := h M759 hM759
        have k760 : KM M759.1 o 12 := by rw [hM759]; exact k630
        have k761 : KM M759.1 (mx M) 13 := by rw [hM759]; exact k631
        have k762 : KM M759.1 (mx M5) 13 := by rw [hM759]; exact k632
        have k763 : KM M759.1 (mx M13) 13 := by rw [hM759]; exact k633
        have k764 : KM M759.1 (mx M23) 13 := by rw [hM759]; exact k634
        have k765 : KM M759.1 (mx M47) 13 := by rw [hM759]; exact k635
        have k766 : KM M759.1 (mx M61) 13 := by rw [hM759]; exact k636
        have k767 : KM M759.1 (mx M77) 14 := by rw [hM759]; exact k637
        have k768 : KM M759.1 (mx M95) 15 := by rw [hM759]; exact k638
        have k769 : KM M759.1 (mx M115) 13 := by rw [hM759]; exact k639
        have k770 : KM M759.1 (mx M137) 13 := by rw [hM759]; exact k640
        have k771 : KM M759.1 (mx M161) 13 := by rw [hM759]; exact k641
        have k772 : KM M759.1 (mx M187) 13 := by rw [hM759]; exact k642
        have k773 : KM M759.1 (mx M215) 13 := by rw [hM759]; exact k643
        have k774 : KM M759.1 (mx M245) 13 := by rw [hM759]; exact k644
        have k775 : KM M759.1 (mx M277) 13 := by rw [hM759]; exact k645
        have k776 : KM M759.1 (mx M311) 14 := by rw [hM759]; exact k646
        have k777 : KM M759.1 (mx M347) 14 := by rw [hM759]; exact k647
        have k778 : KM M759.1 (mx M385) 14 := by rw [hM759]; exact k648
        have k779 : KM M759.1 (mx M425) 13 := by rw [hM759]; exact k649
        have k780 : KM M759.1 (mx M467) 13 := by rw [hM759]; exact k650
        have k781 : KM M759.1 (mx M511) 13 := by rw [hM759]; exact k651
        have k782 : KM M759.1 (mx M557) 13 := by rw [hM759]; exact k652
        refine fr_aload_n (i := 0) (q := 0) rfl dX12_init_249 rfl ?_
        obtain ⟨b783, r_b783, k_b783, h⟩ := h
        refine fr_getR dX12_init_250 rfl fl_X12_7 k760 r_b783 ?_
        refine fr_aload_n (i := 0) (q := 0) rfl dX12_init_253 rfl ?_
        obtain ⟨b784, r_b784, k_b784, h⟩ := h
        refine fr_getR dX12_init_254 rfl fl_X12_13 k760 r_b784 ?_
        obtain ⟨M785, hc786, h⟩ := h
        refine fr_callS2 (ν := mu_X12_copy) (st2 := []) (As := [rf g b783, rf g b784]) (st := []) (v := none) (M1 := M785) dX12_init_257 rfl ml_X12_91 mo_X12_copy ms_X12_copy (Nat.le_of_ble_eq_true rfl) rfl rfl (Nat.le_of_ble_eq_true rfl) hc786 rfl ?_
        have k787 : KM M785.1 o 12 := KM.ext k760 hc786.1
        have k788 : KM M785.1 (mx M) 13 := KM.ext k761 hc786.1
        have k789 : KM M785.1 (mx M5) 13 := KM.ext k762 hc786.1
        have k790 : KM M785.1 (mx M13) 13 := KM.ext k763 hc786.1
        have k791 : KM M785.1 (mx M23) 13 := KM.ext k764 hc786.1
        have k792 : KM M785.1 (mx M47) 13 := KM.ext k765 hc786.1
        have k793 : KM M785.1 (mx M61) 13 := KM.ext k766 hc786.1
        have k794 : KM M785.1 (mx M77) 14 := KM.ext k767 hc786.1
        have k795 : KM M785.1 (mx M95) 15 := KM.ext k768 hc786.1
        have k796 : KM M785.1 (mx M115) 13 := KM.ext k769 hc786.1
        have k797 : KM M785.1 (mx M137) 13 := KM.ext k770 hc786.1
        have k798 : KM M785.1 (mx M161) 13 := KM.ext k771 hc786.1
        have k799 : KM M785.1 (mx M187) 13 := KM.ext k772 hc786.1
        have k800 : KM M785.1 (mx M215) 13 := KM.ext k773 hc786.1
        have k801 : KM M785.1 (mx M245) 13 := KM.ext k774 hc786.1
        have k802 : KM M785.1 (mx M277) 13 := KM.ext k775 hc786.1
        have k803 : KM M785.1 (mx M311) 14 := KM.ext k776 hc786.1
        have k804 : KM M785.1 (mx M347) 14 := KM.ext k777 hc786.1
        have k805 : KM M785.1 (mx M385) 14 := KM.ext k778 hc786.1
        have k806 : KM M785.1 (mx M425) 13 := KM.ext k779 hc786.1
        have k807 : KM M785.1 (mx M467) 13 := KM.ext k780 hc786.1
        have k808 : KM M785.1 (mx M511) 13 := KM.ext k781 hc786.1
        have k809 : KM M785.1 (mx M557) 13 := KM.ext k782 hc786.1
        have k810 : KM M785.1 b783 13 := KM.ext k_b783 hc786.1
        have k811 : KM M785.1 b784 13 := KM.ext k_b784 hc786.1
        exact fr_vret rfl dX12_init_260 h.1 h.2
    · have h := h.2 hc
      refine fr_iconst (v := 5) (by decide) dX12_init_218 rfl ?_
      refine fr_goto (n := 223) dX12_init_219 (by decide) ?_
      refine fr_putFI rfl dX12_init_223 rfl fp_X12_85 k606 ?_
      refine fr_mem (fun M812 hM812 => ?_)
      have h := h M812 hM812
      have k813 : KM M812.1 o 12 := by rw [hM812]; exact k606
      have k814 : KM M812.1 (mx M) 13 := by rw [hM812]; exact k607
      have k815 : KM M812.1 (mx M5) 13 := by rw [hM812]; exact k608
      have k816 : KM M812.1 (mx M13) 13 := by rw [hM812]; exact k609
      have k817 : KM M812.1 (mx M23) 13 := by rw [hM812]; exact k610
      have k818 : KM M812.1 (mx M47) 13 := by rw [hM812]; exact k611
      have k819 : KM M812.1 (mx M61) 13 := by rw [hM812]; exact k612
      have k820 : KM M812.1 (mx M77) 14 := by rw [hM812]; exact k613
      have k821 : KM M812.1 (mx M95) 15 := by rw [hM812]; exact k614
      have k822 : KM M812.1 (mx M115) 13 := by rw [hM812]; exact k615
      have k823 : KM M812.1 (mx M137) 13 := by rw [hM812]; exact k616
      have k824 : KM M812.1 (mx M161) 13 := by rw [hM812]; exact k617
      have k825 : KM M812.1 (mx M187) 13 := by rw [hM812]; exact k618
      have k826 : KM M812.1 (mx M215) 13 := by rw [hM812]; exact k619
      have k827 : KM M812.1 (mx M245) 13 := by rw [hM812]; exact k620
      have k828 : KM M812.1 (mx M277) 13 := by rw [hM812]; exact k621
      have k829 : KM M812.1 (mx M311) 14 := by rw [hM812]; exact k622
      have k830 : KM M812.1 (mx M347) 14 := by rw [hM812]; exact k623
      have k831 : KM M812.1 (mx M385) 14 := by rw [hM812]; exact k624
      have k832 : KM M812.1 (mx M425) 13 := by rw [hM812]; exact k625
      have k833 : KM M812.1 (mx M467) 13 := by rw [hM812]; exact k626
      have k834 : KM M812.1 (mx M511) 13 := by rw [hM812]; exact k627
      have k835 : KM M812.1 (mx M557) 13 := by rw [hM812]; exact k628
      refine fr_aload_n (i := 0) (q := 0) rfl dX12_init_226 rfl ?_
      refine fr_iload_n (i := 2) (q := 2) rfl dX12_init_227 rfl ?_
      refine fr_iconst (v := 2) (by decide) dX12_init_228 rfl ?_
      refine fr_icmp_ge (tgt := 236) dX12_init_229 (by decide) rfl (fun hc => ?_) (fun hc => ?_)
      · have h := h.1 hc
        refine fr_iload_n (i := 2) (q := 2) rfl dX12_init_236 rfl ?_
        refine fr_iconst (v := 5) (by decide) dX12_init_237 rfl ?_
        refine fr_icmp_le (tgt := 245) dX12_init_238 (by decide) rfl (fun hc => ?_) (fun hc => ?_)
        · have h := h.1 hc
          refine fr_iload_n (i := 2) (q := 2) rfl dX12_init_245 rfl ?_
          refine fr_putFI rfl dX12_init_246 rfl fp_X12_88 k813 ?_
          refine fr_mem (fun M836 hM836 => ?_)
          have h := h M836 hM836
          have k837 : KM M836.1 o 12 := by rw [hM836]; exact k813
          have k838 : KM M836.1 (mx M) 13 := by rw [hM836]; exact k814
          have k839 : KM M836.1 (mx M5) 13 := by rw [hM836]; exact k815
          have k840 : KM M836.1 (mx M13) 13 := by rw [hM836]; exact k816
          have k841 : KM M836.1 (mx M23) 13 := by rw [hM836]; exact k817
          have k842 : KM M836.1 (mx M47) 13 := by rw [hM836]; exact k818
          have k843 : KM M836.1 (mx M61) 13 := by rw [hM836]; exact k819
          have k844 : KM M836.1 (mx M77) 14 := by rw [hM836]; exact k820
          have k845 : KM M836.1 (mx M95) 15 := by rw [hM836]; exact k821
          have k846 : KM M836.1 (mx M115) 13 := by rw [hM836]; exact k822
          have k847 : KM M836.1 (mx M137) 13 := by rw [hM836]; exact k823
          have k848 : KM M836.1 (mx M161) 13 := by rw [hM836]; exact k824
          have k849 : KM M836.1 (mx M187) 13 := by rw [hM836]; exact k825
          have k850 : KM M836.1 (mx M215) 13 := by rw [hM836]; exact k826
          have k851 : KM M836.1 (mx M245) 13 := by rw [hM836]; exact k827
          have k852 : KM M836.1 (mx M277) 13 := by rw [hM836]; exact k828
          have k853 : KM M836.1 (mx M311) 14 := by rw [hM836]; exact k829
          have k854 : KM M836.1 (mx M347) 14 := by rw [hM836]; exact k830
          have k855 : KM M836.1 (mx M385) 14 := by rw [hM836]; exact k831
          have k856 : KM M836.1 (mx M425) 13 := by rw [hM836]; exact k832
          have k857 : KM M836.1 (mx M467) 13 := by rw [hM836]; exact k833
          have k858 : KM M836.1 (mx M511) 13 := by rw [hM836]; exact k834
          have k859 : KM M836.1 (mx M557) 13 := by rw [hM836]; exact k835
          refine fr_aload_n (i := 0) (q := 0) rfl dX12_init_249 rfl ?_
          obtain ⟨b860, r_b860, k_b860, h⟩ := h
          refine fr_getR dX12_init_250 rfl fl_X12_7 k837 r_b860 ?_
          refine fr_aload_n (i := 0) (q := 0) rfl dX12_init_253 rfl ?_
          obtain ⟨b861, r_b861, k_b861, h⟩ := h
          refine fr_getR dX12_init_254 rfl fl_X12_13 k837 r_b861 ?_
          obtain ⟨M862, hc863, h⟩ := h
          refine fr_callS2 (ν := mu_X12_copy) (st2 := []) (As := [rf g b860, rf g b861]) (st := []) (v := none) (M1 := M862) dX12_init_257 rfl ml_X12_91 mo_X12_copy ms_X12_copy (Nat.le_of_ble_eq_true rfl) rfl rfl (Nat.le_of_ble_eq_true rfl) hc863 rfl ?_
          have k864 : KM M862.1 o 12 := KM.ext k837 hc863.1
          have k865 : KM M862.1 (mx M) 13 := KM.ext k838 hc863.1
          have k866 : KM M862.1 (mx M5) 13 := KM.ext k839 hc863.1
          have k867 : KM M862.1 (mx M13) 13 := KM.ext k840 hc863.1
          have k868 : KM M862.1 (mx M23) 13 := KM.ext k841 hc863.1
          have k869 : KM M862.1 (mx M47) 13 := KM.ext k842 hc863.1
          have k870 : KM M862.1 (mx M61) 13 := KM.ext k843 hc863.1
          have k871 : KM M862.1 (mx M77) 14 := KM.ext k844 hc863.1
          have k872 : KM M862.1 (mx M95) 15 := KM.ext k845 hc863.1
          have k873 : KM M862.1 (mx M115) 13 := KM.ext k846 hc863.1
          have k874 : KM M862.1 (mx M137) 13 := KM.ext k847 hc863.1
          have k875 : KM M862.1 (mx M161) 13 := KM.ext k848 hc863.1
          have k876 : KM M862.1 (mx M187) 13 := KM.ext k849 hc863.1
          have k877 : KM M862.1 (mx M215) 13 := KM.ext k850 hc863.1
          have k878 : KM M862.1 (mx M245) 13 := KM.ext k851 hc863.1
          have k879 : KM M862.1 (mx M277) 13 := KM.ext k852 hc863.1
          have k880 : KM M862.1 (mx M311) 14 := KM.ext k853 hc863.1
          have k881 : KM M862.1 (mx M347) 14 := KM.ext k854 hc863.1
          have k882 : KM M862.1 (mx M385) 14 := KM.ext k855 hc863.1
          have k883 : KM M862.1 (mx M425) 13 := KM.ext k856 hc863.1
          have k884 : KM M862.1 (mx M467) 13 := KM.ext k857 hc863.1
          have k885 : KM M862.1 (mx M511) 13 := KM.ext k858 hc863.1
          have k886 : KM M862.1 (mx M557) 13 := KM.ext k859 hc863.1
          have k887 : KM M862.1 b860 13 := KM.ext k_b860 hc863.1
          have k888 : KM M862.1 b861 13 := KM.ext k_b861 hc863.1
          exact fr_vret rfl dX12_init_260 h.1 h.2
        · have h := h.2 hc
          refine fr_iconst (v := 5) (by decide) dX12_init_241 rfl ?_
          refine fr_goto (n := 246) dX12_init_242 (by decide) ?_
          refine fr_putFI rfl dX12_init_246 rfl fp_X12_88 k813 ?_
          refine fr_mem (fun M889 hM889 => ?_)
          have h := h M889 hM889
          have k890 : KM M889.1 o 12 := by rw [hM889]; exact k813
          have k891 : KM M889.1 (mx M) 13 := by rw [hM889]; exact k814
          have k892 : KM M889.1 (mx M5) 13 := by rw [hM889]; exact k815
          have k893 : KM M889.1 (mx M13) 13 := by rw [hM889]; exact k816
          have k894 : KM M889.1 (mx M23) 13 := by rw [hM889]; exact k817
          have k895 : KM M889.1 (mx M47) 13 := by rw [hM889]; exact k818
          have k896 : KM M889.1 (mx M61) 13 := by rw [hM889]; exact k819
          have k897 : KM M889.1 (mx M77) 14 := by rw [hM889]; exact k820
          have k898 : KM M889.1 (mx M95) 15 := by rw [hM889]; exact k821
          have k899 : KM M889.1 (mx M115) 13 := by rw [hM889]; exact k822
          have k900 : KM M889.1 (mx M137) 13 := by rw [hM889]; exact k823
          have k901 : KM M889.1 (mx M161) 13 := by rw [hM889]; exact k824
          have k902 : KM M889.1 (mx M187) 13 := by rw [hM889]; exact k825
          have k903 : KM M889.1 (mx M215) 13 := by rw [hM889]; exact k826
          have k904 : KM M889.1 (mx M245) 13 := by rw [hM889]; exact k827
          have k905 : KM M889.1 (mx M277) 13 := by rw [hM889]; exact k828
          have k906 : KM M889.1 (mx M311) 14 := by rw [hM889]; exact k829
          have k907 : KM M889.1 (mx M347) 14 := by rw [hM889]; exact k830
          have k908 : KM M889.1 (mx M385) 14 := by rw [hM889]; exact k831
          have k909 : KM M889.1 (mx M425) 13 := by rw [hM889]; exact k832
          have k910 : KM M889.1 (mx M467) 13 := by rw [hM889]; exact k833
          have k911 : KM M889.1 (mx M511) 13 := by rw [hM889]; exact k834
          have k912 : KM M889.1 (mx M557) 13 := by rw [hM889]; exact k835
          refine fr_aload_n (i := 0) (q := 0) rfl dX12_init_249 rfl ?_
          obtain ⟨b913, r_b913, k_b913, h⟩ := h
          refine fr_getR dX12_init_250 rfl fl_X12_7 k890 r_b913 ?_
          refine fr_aload_n (i := 0) (q := 0) rfl dX12_init_253 rfl ?_
          obtain ⟨b914, r_b914, k_b914, h⟩ := h
          refine fr_getR dX12_init_254 rfl fl_X12_13 k890 r_b914 ?_
          obtain ⟨M915, hc916, h⟩ := h
          refine fr_callS2 (ν := mu_X12_copy) (st2 := []) (As := [rf g b913, rf g b914]) (st := []) (v := none) (M1 := M915) dX12_init_257 rfl ml_X12_91 mo_X12_copy ms_X12_copy (Nat.le_of_ble_eq_true rfl) rfl rfl (Nat.le_of_ble_eq_true rfl) hc916 rfl ?_
          have k917 : KM M915.1 o 12 := KM.ext k890 hc916.1
          have k918 : KM M915.1 (mx M) 13 := KM.ext k891 hc916.1
          have k919 : KM M915.1 (mx M5) 13 := KM.ext k892 hc916.1
          have k920 : KM M915.1 (mx M13) 13 := KM.ext k893 hc916.1
          have k921 : KM M915.1 (mx M23) 13 := KM.ext k894 hc916.1
          have k922 : KM M915.1 (mx M47) 13 := KM.ext k895 hc916.1
          have k923 : KM M915.1 (mx M61) 13 := KM.ext k896 hc916.1
          have k924 : KM M915.1 (mx M77) 14 := KM.ext k897 hc916.1
          have k925 : KM M915.1 (mx M95) 15 := KM.ext k898 hc916.1
          have k926 : KM M915.1 (mx M115) 13 := KM.ext k899 hc916.1
          have k927 : KM M915.1 (mx M137) 13 := KM.ext k900 hc916.1
          have k928 : KM M915.1 (mx M161) 13 := KM.ext k901 hc916.1
          have k929 : KM M915.1 (mx M187) 13 := KM.ext k902 hc916.1
          have k930 : KM M915.1 (mx M215) 13 := KM.ext k903 hc916.1
          have k931 : KM M915.1 (mx M245) 13 := KM.ext k904 hc916.1
          have k932 : KM M915.1 (mx M277) 13 := KM.ext k905 hc916.1
          have k933 : KM M915.1 (mx M311) 14 := KM.ext k906 hc916.1
          have k934 : KM M915.1 (mx M347) 14 := KM.ext k907 hc916.1
          have k935 : KM M915.1 (mx M385) 14 := KM.ext k908 hc916.1
          have k936 : KM M915.1 (mx M425) 13 := KM.ext k909 hc916.1
          have k937 : KM M915.1 (mx M467) 13 := KM.ext k910 hc916.1
          have k938 : KM M915.1 (mx M511) 13 := KM.ext k911 hc916.1
          have k939 : KM M915.1 (mx M557) 13 := KM.ext k912 hc916.1
          have k940 : KM M915.1 b913 13 := KM.ext k_b913 hc916.1
          have k941 : KM M915.1 b914 13 := KM.ext k_b914 hc916.1
          exact fr_vret rfl dX12_init_260 h.1 h.2
      · have h := h.2 hc
        refine fr_iconst (v := 2) (by decide) dX12_init_232 rfl ?_
        refine fr_goto (n := 246) dX12_init_233 (by decide) ?_
        refine fr_putFI rfl dX12_init_246 rfl fp_X12_88 k813 ?_
        refine fr_mem (fun M942 hM942 => ?_)
        have h := h M942 hM942
        have k943 : KM M942.1 o 12 := by rw [hM942]; exact k813
        have k944 : KM M942.1 (mx M) 13 := by rw [hM942]; exact k814
        have k945 : KM M942.1 (mx M5) 13 := by rw [hM942]; exact k815
        have k946 : KM M942.1 (mx M13) 13 := by rw [hM942]; exact k816
        have k947 : KM M942.1 (mx M23) 13 := by rw [hM942]; exact k817
        have k948 : KM M942.1 (mx M47) 13 := by rw [hM942]; exact k818
        have k949 : KM M942.1 (mx M61) 13 := by rw [hM942]; exact k819
        have k950 : KM M942.1 (mx M77) 14 := by rw [hM942]; exact k820
        have k951 : KM M942.1 (mx M95) 15 := by rw [hM942]; exact k821
        have k952 : KM M942.1 (mx M115) 13 := by rw [hM942]; exact k822
        have k953 : KM M942.1 (mx M137) 13 := by rw [hM942]; exact k823
        have k954 : KM M942.1 (mx M161) 13 := by rw [hM942]; exact k824
        have k955 : KM M942.1 (mx M187) 13 := by rw [hM942]; exact k825
        have k956 : KM M942.1 (mx M215) 13 := by rw [hM942]; exact k826
        have k957 : KM M942.1 (mx M245) 13 := by rw [hM942]; exact k827
        have k958 : KM M942.1 (mx M277) 13 := by rw [hM942]; exact k828
        have k959 : KM M942.1 (mx M311) 14 := by rw [hM942]; exact k829
        have k960 : KM M942.1 (mx M347) 14 := by rw [hM942]; exact k830
        have k961 : KM M942.1 (mx M385) 14 := by rw [hM942]; exact k831
        have k962 : KM M942.1 (mx M425) 13 := by rw [hM942]; exact k832
        have k963 : KM M942.1 (mx M467) 13 := by rw [hM942]; exact k833
        have k964 : KM M942.1 (mx M511) 13 := by rw [hM942]; exact k834
        have k965 : KM M942.1 (mx M557) 13 := by rw [hM942]; exact k835
        refine fr_aload_n (i := 0) (q := 0) rfl dX12_init_249 rfl ?_
        obtain ⟨b966, r_b966, k_b966, h⟩ := h
        refine fr_getR dX12_init_250 rfl fl_X12_7 k943 r_b966 ?_
        refine fr_aload_n (i := 0) (q := 0) rfl dX12_init_253 rfl ?_
        obtain ⟨b967, r_b967, k_b967, h⟩ := h
        refine fr_getR dX12_init_254 rfl fl_X12_13 k943 r_b967 ?_
        obtain ⟨M968, hc969, h⟩ := h
        refine fr_callS2 (ν := mu_X12_copy) (st2 := []) (As := [rf g b966, rf g b967]) (st := []) (v := none) (M1 := M968) dX12_init_257 rfl ml_X12_91 mo_X12_copy ms_X12_copy (Nat.le_of_ble_eq_true rfl) rfl rfl (Nat.le_of_ble_eq_true rfl) hc969 rfl ?_
        have k970 : KM M968.1 o 12 := KM.ext k943 hc969.1
        have k971 : KM M968.1 (mx M) 13 := KM.ext k944 hc969.1
        have k972 : KM M968.1 (mx M5) 13 := KM.ext k945 hc969.1
        have k973 : KM M968.1 (mx M13) 13 := KM.ext k946 hc969.1
        have k974 : KM M968.1 (mx M23) 13 := KM.ext k947 hc969.1
        have k975 : KM M968.1 (mx M47) 13 := KM.ext k948 hc969.1
        have k976 : KM M968.1 (mx M61) 13 := KM.ext k949 hc969.1
        have k977 : KM M968.1 (mx M77) 14 := KM.ext k950 hc969.1
        have k978 : KM M968.1 (mx M95) 15 := KM.ext k951 hc969.1
        have k979 : KM M968.1 (mx M115) 13 := KM.ext k952 hc969.1
        have k980 : KM M968.1 (mx M137) 13 := KM.ext k953 hc969.1
        have k981 : KM M968.1 (mx M161) 13 := KM.ext k954 hc969.1
        have k982 : KM M968.1 (mx M187) 13 := KM.ext k955 hc969.1
        have k983 : KM M968.1 (mx M215) 13 := KM.ext k956 hc969.1
        have k984 : KM M968.1 (mx M245) 13 := KM.ext k957 hc969.1
        have k985 : KM M968.1 (mx M277) 13 := KM.ext k958 hc969.1
        have k986 : KM M968.1 (mx M311) 14 := KM.ext k959 hc969.1
        have k987 : KM M968.1 (mx M347) 14 := KM.ext k960 hc969.1
        have k988 : KM M968.1 (mx M385) 14 := KM.ext k961 hc969.1
        have k989 : KM M968.1 (mx M425) 13 := KM.ext k962 hc969.1
        have k990 : KM M968.1 (mx M467) 13 := KM.ext k963 hc969.1
        have k991 : KM M968.1 (mx M511) 13 := KM.ext k964 hc969.1
        have k992 : KM M968.1 (mx M557) 13 := KM.ext k965 hc969.1
        have k993 : KM M968.1 b966 13 := KM.ext k_b966 hc969.1
        have k994 : KM M968.1 b967 13 := KM.ext k_b967 hc969.1
        exact fr_vret rfl dX12_init_260 h.1 h.2
  · have h := h.2 hc
    refine fr_iconst (v := 2) (by decide) dX12_init_209 rfl ?_
    refine fr_goto (n := 223) dX12_init_210 (by decide) ?_
    refine fr_putFI rfl dX12_init_223 rfl fp_X12_85 k606 ?_
    refine fr_mem (fun M995 hM995 => ?_)
    have h := h M995 hM995
    have k996 : KM M995.1 o 12 := by rw [hM995]; exact k606
    have k997 : KM M995.1 (mx M) 13 := by rw [hM995]; exact k607
    have k998 : KM M995.1 (mx M5) 13 := by rw [hM995]; exact k608
    have k999 : KM M995.1 (mx M13) 13 := by rw [hM995]; exact k609
    have k1000 : KM M995.1 (mx M23) 13 := by rw [hM995]; exact k610
    have k1001 : KM M995.1 (mx M47) 13 := by rw [hM995]; exact k611
    have k1002 : KM M995.1 (mx M61) 13 := by rw [hM995]; exact k612
    have k1003 : KM M995.1 (mx M77) 14 := by rw [hM995]; exact k613
    have k1004 : KM M995.1 (mx M95) 15 := by rw [hM995]; exact k614
    have k1005 : KM M995.1 (mx M115) 13 := by rw [hM995]; exact k615
    have k1006 : KM M995.1 (mx M137) 13 := by rw [hM995]; exact k616
    have k1007 : KM M995.1 (mx M161) 13 := by rw [hM995]; exact k617
    have k1008 : KM M995.1 (mx M187) 13 := by rw [hM995]; exact k618
    have k1009 : KM M995.1 (mx M215) 13 := by rw [hM995]; exact k619
    have k1010 : KM M995.1 (mx M245) 13 := by rw [hM995]; exact k620
    have k1011 : KM M995.1 (mx M277) 13 := by rw [hM995]; exact k621
    have k1012 : KM M995.1 (mx M311) 14 := by rw [hM995]; exact k622
    have k1013 : KM M995.1 (mx M347) 14 := by rw [hM995]; exact k623
    have k1014 : KM M995.1 (mx M385) 14 := by rw [hM995]; exact k624
    have k1015 : KM M995.1 (mx M425) 13 := by rw [hM995]; exact k625
    have k1016 : KM M995.1 (mx M467) 13 := by rw [hM995]; exact k626
    have k1017 : KM M995.1 (mx M511) 13 := by rw [hM995]; exact k627
    have k1018 : KM M995.1 (mx M557) 13 := by rw [hM995]; exact k628
    refine fr_aload_n (i := 0) (q := 0) rfl dX12_init_226 rfl ?_
    refine fr_iload_n (i := 2) (q := 2) rfl dX12_init_227 rfl ?_
    refine fr_iconst (v := 2) (by decide) dX12_init_228 rfl ?_
    refine fr_icmp_ge (tgt := 236) dX12_init_229 (by decide) rfl (fun hc => ?_) (fun hc => ?_)
    · have h := h.1 hc
      refine fr_iload_n (i := 2) (q := 2) rfl dX12_init_236 rfl ?_
      refine fr_iconst (v := 5) (by decide) dX12_init_237 rfl ?_
      refine fr_icmp_le (tgt := 245) dX12_init_238 (by decide) rfl (fun hc => ?_) (fun hc => ?_)
      · have h := h.1 hc
        refine fr_iload_n (i := 2) (q := 2) rfl dX12_init_245 rfl ?_
        refine fr_putFI rfl dX12_init_246 rfl fp_X12_88 k996 ?_
        refine fr_mem (fun M1019 hM1019 => ?_)
        have h := h M1019 hM1019
        have k1020 : KM M1019.1 o 12 := by rw [hM1019]; exact k996
        have k1021 : KM M1019.1 (mx M) 13 := by rw [hM1019]; exact k997
        have k1022 : KM M1019.1 (mx M5) 13 := by rw [hM1019]; exact k998
        have k1023 : KM M1019.1 (mx M13) 13 := by rw [hM1019]; exact k999
        have k1024 : KM M1019.1 (mx M23) 13 := by rw [hM1019]; exact k1000
        have k1025 : KM M1019.1 (mx M47) 13 := by rw [hM1019]; exact k1001
        have k1026 : KM M1019.1 (mx M61) 13 := by rw [hM1019]; exact k1002
        have k1027 : KM M1019.1 (mx M77) 14 := by rw [hM1019]; exact k1003
        have k1028 : KM M1019.1 (mx M95) 15 := by rw [hM1019]; exact k1004
        have k1029 : KM M1019.1 (mx M115) 13 := by rw [hM1019]; exact k1005
        have k1030 : KM M1019.1 (mx M137) 13 := by rw [hM1019]; exact k1006
        have k1031 : KM M1019.1 (mx M161) 13 := by rw [hM1019]; exact k1007
        have k1032 : KM M1019.1 (mx M187) 13 := by rw [hM1019]; exact k1008
        have k1033 : KM M1019.1 (mx M215) 13 := by rw [hM1019]; exact k1009
        have k1034 : KM M1019.1 (mx M245) 13 := by rw [hM1019]; exact k1010
        have k1035 : KM M1019.1 (mx M277) 13 := by rw [hM1019]; exact k1011
        have k1036 : KM M1019.1 (mx M311) 14 := by rw [hM1019]; exact k1012
        have k1037 : KM M1019.1 (mx M347) 14 := by rw [hM1019]; exact k1013
        have k1038 : KM M1019.1 (mx M385) 14 := by rw [hM1019]; exact k1014
        have k1039 : KM M1019.1 (mx M425) 13 := by rw [hM1019]; exact k1015
        have k1040 : KM M1019.1 (mx M467) 13 := by rw [hM1019]; exact k1016
        have k1041 : KM M1019.1 (mx M511) 13 := by rw [hM1019]; exact k1017
        have k1042 : KM M1019.1 (mx M557) 13 := by rw [hM1019]; exact k1018
        refine fr_aload_n (i := 0) (q := 0) rfl dX12_init_249 rfl ?_
        obtain ⟨b1043, r_b1043, k_b1043, h⟩ := h
        refine fr_getR dX12_init_250 rfl fl_X12_7 k1020 r_b1043 ?_
        refine fr_aload_n (i := 0) (q := 0) rfl dX12_init_253 rfl ?_
        obtain ⟨b1044, r_b1044, k_b1044, h⟩ := h
        refine fr_getR dX12_init_254 rfl fl_X12_13 k1020 r_b1044 ?_
        obtain ⟨M1045, hc1046, h⟩ := h
        refine fr_callS2 (ν := mu_X12_copy) (st2 := []) (As := [rf g b1043, rf g b1044]) (st := []) (v := none) (M1 := M1045) dX12_init_257 rfl ml_X12_91 mo_X12_copy ms_X12_copy (Nat.le_of_ble_eq_true rfl) rfl rfl (Nat.le_of_ble_eq_true rfl) hc1046 rfl ?_
        have k1047 : KM M1045.1 o 12 := KM.ext k1020 hc1046.1
        have k1048 : KM M1045.1 (mx M) 13 := KM.ext k1021 hc1046.1
        have k1049 : KM M1045.1 (mx M5) 13 := KM.ext k1022 hc1046.1
        have k1050 : KM M1045.1 (mx M13) 13 := KM.ext k1023 hc1046.1
        have k1051 : KM M1045.1 (mx M23) 13 := KM.ext k1024 hc1046.1
        have k1052 : KM M1045.1 (mx M47) 13 := KM.ext k1025 hc1046.1
        have k1053 : KM M1045.1 (mx M61) 13 := KM.ext k1026 hc1046.1
        have k1054 : KM M1045.1 (mx M77) 14 := KM.ext k1027 hc1046.1
        have k1055 : KM M1045.1 (mx M95) 15 := KM.ext k1028 hc1046.1
        have k1056 : KM M1045.1 (mx M115) 13 := KM.ext k1029 hc1046.1
        have k1057 : KM M1045.1 (mx M137) 13 := KM.ext k1030 hc1046.1
        have k1058 : KM M1045.1 (mx M161) 13 := KM.ext k1031 hc1046.1
        have k1059 : KM M1045.1 (mx M187) 13 := KM.ext k1032 hc1046.1
        have k1060 : KM M1045.1 (mx M215) 13 := KM.ext k1033 hc1046.1
        have k1061 : KM M1045.1 (mx M245) 13 := KM.ext k1034 hc1046.1
        have k1062 : KM M1045.1 (mx M277) 13 := KM.ext k1035 hc1046.1
        have k1063 : KM M1045.1 (mx M311) 14 := KM.ext k1036 hc1046.1
        have k1064 : KM M1045.1 (mx M347) 14 := KM.ext k1037 hc1046.1
        have k1065 : KM M1045.1 (mx M385) 14 := KM.ext k1038 hc1046.1
        have k1066 : KM M1045.1 (mx M425) 13 := KM.ext k1039 hc1046.1
        have k1067 : KM M1045.1 (mx M467) 13 := KM.ext k1040 hc1046.1
        have k1068 : KM M1045.1 (mx M511) 13 := KM.ext k1041 hc1046.1
        have k1069 : KM M1045.1 (mx M557) 13 := KM.ext k1042 hc1046.1
        have k1070 : KM M1045.1 b1043 13 := KM.ext k_b1043 hc1046.1
        have k1071 : KM M1045.1 b1044 13 := KM.ext k_b1044 hc1046.1
        exact fr_vret rfl dX12_init_260 h.1 h.2
      · have h := h.2 hc
        refine fr_iconst (v := 5) (by decide) dX12_init_241 rfl ?_
        refine fr_goto (n := 246) dX12_init_242 (by decide) ?_
        refine fr_putFI rfl dX12_init_246 rfl fp_X12_88 k996 ?_
        refine fr_mem (fun M1072 hM1072 => ?_)
        have h := h M1072 hM1072
        have k1073 : KM M1072.1 o 12 := by rw [hM1072]; exact k996
        have k1074 : KM M1072.1 (mx M) 13 := by rw [hM1072]; exact k997
        have k1075 : KM M1072.1 (mx M5) 13 := by rw [hM1072]; exact k998
        have k1076 : KM M1072.1 (mx M13) 13 := by rw [hM1072]; exact k999
        have k1077 : KM M1072.1 (mx M23) 13 := by rw [hM1072]; exact k1000
        have k1078 : KM M1072.1 (mx M47) 13 := by rw [hM1072]; exact k1001
        have k1079 : KM M1072.1 (mx M61) 13 := by rw [hM1072]; exact k1002
        have k1080 : KM M1072.1 (mx M77) 14 := by rw [hM1072]; exact k1003
        have k1081 : KM M1072.1 (mx M95) 15 := by rw [hM1072]; exact k1004
        have k1082 : KM M1072.1 (mx M115) 13 := by rw [hM1072]; exact k1005
        have k1083 : KM M1072.1 (mx M137) 13 := by rw [hM1072]; exact k1006
        have k1084 : KM M1072.1 (mx M161) 13 := by rw [hM1072]; exact k1007
        have k1085 : KM M1072.1 (mx M187) 13 := by rw [hM1072]; exact k1008
        have k1086 : KM M1072.1 (mx M215) 13 := by rw [hM1072]; exact k1009
        have k1087 : KM M1072.1 (mx M245) 13 := by rw [hM1072]; exact k1010
        have k1088 : KM M1072.1 (mx M277) 13 := by rw [hM1072]; exact k1011
        have k1089 : KM M1072.1 (mx M311) 14 := by rw [hM1072]; exact k1012
        have k1090 : KM M1072.1 (mx M347) 14 := by rw [hM1072]; exact k1013
        have k1091 : KM M1072.1 (mx M385) 14 := by rw [hM1072]; exact k1014
        have k1092 : KM M1072.1 (mx M425) 13 := by rw [hM1072]; exact k1015
        have k1093 : KM M1072.1 (mx M467) 13 := by rw [hM1072]; exact k1016
        have k1094 : KM M1072.1 (mx M511) 13 := by rw [hM1072]; exact k1017
        have k1095 : KM M1072.1 (mx M557) 13 := by rw [hM1072]; exact k1018
        refine fr_aload_n (i := 0) (q := 0) rfl dX12_init_249 rfl ?_
        obtain ⟨b1096, r_b1096, k_b1096, h⟩ := h
        refine fr_getR dX12_init_250 rfl fl_X12_7 k1073 r_b1096 ?_
        refine fr_aload_n (i := 0) (q := 0) rfl dX12_init_253 rfl ?_
        obtain ⟨b1097, r_b1097, k_b1097, h⟩ := h
        refine fr_getR dX12_init_254 rfl fl_X12_13 k1073 r_b1097 ?_
        obtain ⟨M1098, hc1099, h⟩ := h
        refine fr_callS2 (ν := mu_X12_copy) (st2 := []) (As := [rf g b1096, rf g b1097]) (st := []) (v := none) (M1 := M1098) dX12_init_257 rfl ml_X12_91 mo_X12_copy ms_X12_copy (Nat.le_of_ble_eq_true rfl) rfl rfl (Nat.le_of_ble_eq_true rfl) hc1099 rfl ?_
        have k1100 : KM M1098.1 o 12 := KM.ext k1073 hc1099.1
        have k1101 : KM M1098.1 (mx M) 13 := KM.ext k1074 hc1099.1
        have k1102 : KM M1098.1 (mx M5) 13 := KM.ext k1075 hc1099.1
        have k1103 : KM M1098.1 (mx M13) 13 := KM.ext k1076 hc1099.1
        have k1104 : KM M1098.1 (mx M23) 13 := KM.ext k1077 hc1099.1
        have k1105 : KM M1098.1 (mx M47) 13 := KM.ext k1078 hc1099.1
        have k1106 : KM M1098.1 (mx M61) 13 := KM.ext k1079 hc1099.1
        have k1107 : KM M1098.1 (mx M77) 14 := KM.ext k1080 hc1099.1
        have k1108 : KM M1098.1 (mx M95) 15 := KM.ext k1081 hc1099.1
        have k1109 : KM M1098.1 (mx M115) 13 := KM.ext k1082 hc1099.1
        have k1110 : KM M1098.1 (mx M137) 13 := KM.ext k1083 hc1099.1
        have k1111 : KM M1098.1 (mx M161) 13 := KM.ext k1084 hc1099.1
        have k1112 : KM M1098.1 (mx M187) 13 := KM.ext k1085 hc1099.1
        have k1113 : KM M1098.1 (mx M215) 13 := KM.ext k1086 hc1099.1
        have k1114 : KM M1098.1 (mx M245) 13 := KM.ext k1087 hc1099.1
        have k1115 : KM M1098.1 (mx M277) 13 := KM.ext k1088 hc1099.1
        have k1116 : KM M1098.1 (mx M311) 14 := KM.ext k1089 hc1099.1
        have k1117 : KM M1098.1 (mx M347) 14 := KM.ext k1090 hc1099.1
        have k1118 : KM M1098.1 (mx M385) 14 := KM.ext k1091 hc1099.1
        have k1119 : KM M1098.1 (mx M425) 13 := KM.ext k1092 hc1099.1
        have k1120 : KM M1098.1 (mx M467) 13 := KM.ext k1093 hc1099.1
        have k1121 : KM M1098.1 (mx M511) 13 := KM.ext k1094 hc1099.1
        have k1122 : KM M1098.1 (mx M557) 13 := KM.ext k1095 hc1099.1
        have k1123 : KM M1098.1 b1096 13 := KM.ext k_b1096 hc1099.1
        have k1124 : KM M1098.1 b1097 13 := KM.ext k_b1097 hc1099.1
        exact fr_vret rfl dX12_init_260 h.1 h.2
    · have h := h.2 hc
      refine fr_iconst (v := 2) (by decide) dX12_init_232 rfl ?_
      refine fr_goto (n := 246) dX12_init_233 (by decide) ?_
      refine fr_putFI rfl dX12_init_246 rfl fp_X12_88 k996 ?_
      refine fr_mem (fun M1125 hM1125 => ?_)
      have h := h M1125 hM1125
      have k1126 : KM M1125.1 o 12 := by rw [hM1125]; exact k996
      have k1127 : KM M1125.1 (mx M) 13 := by rw [hM1125]; exact k997
      have k1128 : KM M1125.1 (mx M5) 13 := by rw [hM1125]; exact k998
      have k1129 : KM M1125.1 (mx M13) 13 := by rw [hM1125]; exact k999
      have k1130 : KM M1125.1 (mx M23) 13 := by rw [hM1125]; exact k1000
      have k1131 : KM M1125.1 (mx M47) 13 := by rw [hM1125]; exact k1001
      have k1132 : KM M1125.1 (mx M61) 13 := by rw [hM1125]; exact k1002
      have k1133 : KM M1125.1 (mx M77) 14 := by rw [hM1125]; exact k1003
      have k1134 : KM M1125.1 (mx M95) 15 := by rw [hM1125]; exact k1004
      have k1135 : KM M1125.1 (mx M115) 13 := by rw [hM1125]; exact k1005
      have k1136 : KM M1125.1 (mx M137) 13 := by rw [hM1125]; exact k1006
      have k1137 : KM M1125.1 (mx M161) 13 := by rw [hM1125]; exact k1007
      have k1138 : KM M1125.1 (mx M187) 13 := by rw [hM1125]; exact k1008
      have k1139 : KM M1125.1 (mx M215) 13 := by rw [hM1125]; exact k1009
      have k1140 : KM M1125.1 (mx M245) 13 := by rw [hM1125]; exact k1010
      have k1141 : KM M1125.1 (mx M277) 13 := by rw [hM1125]; exact k1011
      have k1142 : KM M1125.1 (mx M311) 14 := by rw [hM1125]; exact k1012
      have k1143 : KM M1125.1 (mx M347) 14 := by rw [hM1125]; exact k1013
      have k1144 : KM M1125.1 (mx M385) 14 := by rw [hM1125]; exact k1014
      have k1145 : KM M1125.1 (mx M425) 13 := by rw [hM1125]; exact k1015
      have k1146 : KM M1125.1 (mx M467) 13 := by rw [hM1125]; exact k1016
      have k1147 : KM M1125.1 (mx M511) 13 := by rw [hM1125]; exact k1017
      have k1148 : KM M1125.1 (mx M557) 13 := by rw [hM1125]; exact k1018
      refine fr_aload_n (i := 0) (q := 0) rfl dX12_init_249 rfl ?_
      obtain ⟨b1149, r_b1149, k_b1149, h⟩ := h
      refine fr_getR dX12_init_250 rfl fl_X12_7 k1126 r_b1149 ?_
      refine fr_aload_n (i := 0) (q := 0) rfl dX12_init_253 rfl ?_
      obtain ⟨b1150, r_b1150, k_b1150, h⟩ := h
      refine fr_getR dX12_init_254 rfl fl_X12_13 k1126 r_b1150 ?_
      obtain ⟨M1151, hc1152, h⟩ := h
      refine fr_callS2 (ν := mu_X12_copy) (st2 := []) (As := [rf g b1149, rf g b1150]) (st := []) (v := none) (M1 := M1151) dX12_init_257 rfl ml_X12_91 mo_X12_copy ms_X12_copy (Nat.le_of_ble_eq_true rfl) rfl rfl (Nat.le_of_ble_eq_true rfl) hc1152 rfl ?_
      have k1153 : KM M1151.1 o 12 := KM.ext k1126 hc1152.1
      have k1154 : KM M1151.1 (mx M) 13 := KM.ext k1127 hc1152.1
      have k1155 : KM M1151.1 (mx M5) 13 := KM.ext k1128 hc1152.1
      have k1156 : KM M1151.1 (mx M13) 13 := KM.ext k1129 hc1152.1
      have k1157 : KM M1151.1 (mx M23) 13 := KM.ext k1130 hc1152.1
      have k1158 : KM M1151.1 (mx M47) 13 := KM.ext k1131 hc1152.1
      have k1159 : KM M1151.1 (mx M61) 13 := KM.ext k1132 hc1152.1
      have k1160 : KM M1151.1 (mx M77) 14 := KM.ext k1133 hc1152.1
      have k1161 : KM M1151.1 (mx M95) 15 := KM.ext k1134 hc1152.1
      have k1162 : KM M1151.1 (mx M115) 13 := KM.ext k1135 hc1152.1
      have k1163 : KM M1151.1 (mx M137) 13 := KM.ext k1136 hc1152.1
      have k1164 : KM M1151.1 (mx M161) 13 := KM.ext k1137 hc1152.1
      have k1165 : KM M1151.1 (mx M187) 13 := KM.ext k1138 hc1152.1
      have k1166 : KM M1151.1 (mx M215) 13 := KM.ext k1139 hc1152.1
      have k1167 : KM M1151.1 (mx M245) 13 := KM.ext k1140 hc1152.1
      have k1168 : KM M1151.1 (mx M277) 13 := KM.ext k1141 hc1152.1
      have k1169 : KM M1151.1 (mx M311) 14 := KM.ext k1142 hc1152.1
      have k1170 : KM M1151.1 (mx M347) 14 := KM.ext k1143 hc1152.1
      have k1171 : KM M1151.1 (mx M385) 14 := KM.ext k1144 hc1152.1
      have k1172 : KM M1151.1 (mx M425) 13 := KM.ext k1145 hc1152.1
      have k1173 : KM M1151.1 (mx M467) 13 := KM.ext k1146 hc1152.1
      have k1174 : KM M1151.1 (mx M511) 13 := KM.ext k1147 hc1152.1
      have k1175 : KM M1151.1 (mx M557) 13 := KM.ext k1148 hc1152.1
      have k1176 : KM M1151.1 b1149 13 := KM.ext k_b1149 hc1152.1
      have k1177 : KM M1151.1 b1150 13 := KM.ext k_b1150 hc1152.1
      exact fr_vret rfl dX12_init_260 h.1 h.2
theorem cp_X7_init {g : GE} {M : Mem} {r : Option Value} {M' : Mem} {o : Nat} {a1 : Nat} (k_o : KM M.1 o 7) (k_a1 : KM M.1 a1 3) (h : (∀ M1 : Mem, M1 = nw M 2 2 → (∃ (M5 : Mem), Cl g 2 mu_X2_init [rf g (mx M), .int 3] M1 none M5 ∧ (∀ M10 : Mem, M10 = sR M5 o (va_up (mR M5 o) 1 (some (mx M))) → (∀ M15 : Mem, M15 = nw M10 13 ((3001 : Int32).toNatClampNeg) → (∀ M20 : Mem, M20 = sR M15 o (va_up (mR M15 o) 2 (some (mx M10))) → (∀ M26 : Mem, M26 = nw M20 13 ((3001 : Int32).toNatClampNeg) → (∀ M32 : Mem, M32 = sR M26 o (va_up (mR M26 o) 3 (some (mx M20))) → (∀ M39 : Mem, M39 = nw M32 13 ((3001 : Int32).toNatClampNeg) → (∀ M46 : Mem, M46 = sR M39 o (va_up (mR M39 o) 4 (some (mx M32))) → (∀ M54 : Mem, M54 = nw M46 13 ((8192 : Int32).toNatClampNeg) → (∀ M62 : Mem, M62 = sR M54 o (va_up (mR M54 o) 5 (some (mx M46))) → (∀ M70 : Mem, M70 = sR M62 o (va_up (mR M62 o) 0 (some a1)) → (r = none ∧ M' = M70)))))))))))))) : Cl g 3 mu_X7_init [rf g o, rf g a1] M r M' := by
  refine cl_of (lv := [(0, rf g o), (1, rf g a1)]) (by decide) (Nat.le_of_ble_eq_true rfl) rfl ?_
  refine fr_aload_n (i := 0) (q := 0) rfl dX7_init_0 rfl ?_
  refine fr_obj dX7_init_1 rfl ⟨ml_X7_5, wo_init.1, wo_init.2⟩ (Nat.le_of_ble_eq_true rfl) (Nat.le_of_ble_eq_true rfl) ?_
  refine fr_aload_n (i := 0) (q := 0) rfl dX7_init_4 rfl ?_
  refine fr_new dX7_init_5 rfl nl_X7_11 ?_
  refine fr_mem (fun M1 hM1 => ?_)
  have h := h M1 hM1
  have k2 : KM M1.1 o 7 := by rw [hM1]; exact KM.ext k_o (Ext.nw _ _ _)
  have k3 : KM M1.1 a1 3 := by rw [hM1]; exact KM.ext k_a1 (Ext.nw _ _ _)
  have k4 : KM M1.1 (mx M) 2 := by rw [hM1]; exact KM.nw _ _ _
  refine fr_dup rfl dX7_init_8 rfl ?_
  refine fr_iconst (v := 3) (by decide) dX7_init_9 rfl ?_
  obtain ⟨M5, hc6, h⟩ := h
  refine fr_callI (ν := mu_X2_init) (As := [.int 3]) (st := [rf g (mx M), rf g o]) (M1 := M5) rfl rfl dX7_init_10 rfl ml_X7_13 mo_X2_init mn_X2_init (Nat.le_of_ble_eq_true rfl) rfl rfl (Nat.le_of_ble_eq_true rfl) hc6 ?_
  have k7 : KM M5.1 o 7 := KM.ext k2 hc6.1
  have k8 : KM M5.1 a1 3 := KM.ext k3 hc6.1
  have k9 : KM M5.1 (mx M) 2 := KM.ext k4 hc6.1
  refine fr_putFR rfl dX7_init_13 rfl fp_X7_16 k7 ?_
  refine fr_mem (fun M10 hM10 => ?_)
  have h := h M10 hM10
  have k11 : KM M10.1 o 7 := by rw [hM10]; exact k7
  have k12 : KM M10.1 a1 3 := by rw [hM10]; exact k8
  have k13 : KM M10.1 (mx M) 2 := by rw [hM10]; exact k9
  refine fr_aload_n (i := 0) (q := 0) rfl dX7_init_16 rfl ?_
  refine fr_sipush (v := 3001) (by decide) dX7_init_17 rfl ?_
  refine fr_newI dX7_init_20 rfl ac_int (by decide) (by decide) ?_
  refine fr_mem (fun M15 hM15 => ?_)
  have h := h M15 hM15
  have k16 : KM M15.1 o 7 := by rw [hM15]; exact KM.ext k11 (Ext.nw _ _ _)
  have k17 : KM M15.1 a1 3 := by rw [hM15]; exact KM.ext k12 (Ext.nw _ _ _)
  have k18 : KM M15.1 (mx M) 2 := by rw [hM15]; exact KM.ext k13 (Ext.nw _ _ _)
  have k19 : KM M15.1 (mx M10) 13 := by rw [hM15]; exact KM.nw _ _ _
  refine fr_putFA rfl dX7_init_22 rfl fp_X7_20 k16 ?_
  refine fr_mem (fun M20 hM20 => ?_)
  have h := h M20 hM20
  have k21 : KM M20.1 o 7 := by rw [hM20]; exact k16
  have k22 : KM M20.1 a1 3 := by rw [hM20]; exact k17
  have k23 : KM M20.1 (mx M) 2 := by rw [hM20]; exact k18
  have k24 : KM M20.1 (mx M10) 13 := by rw [hM20]; exact k19
  refine fr_aload_n (i := 0) (q := 0) rfl dX7_init_25 rfl ?_
  refine fr_sipush (v := 3001) (by decide) dX7_init_26 rfl ?_
  refine fr_newI dX7_init_29 rfl ac_int (by decide) (by decide) ?_
  refine fr_mem (fun M26 hM26 => ?_)
  have h := h M26 hM26
  have k27 : KM M26.1 o 7 := by rw [hM26]; exact KM.ext k21 (Ext.nw _ _ _)
  have k28 : KM M26.1 a1 3 := by rw [hM26]; exact KM.ext k22 (Ext.nw _ _ _)
  have k29 : KM M26.1 (mx M) 2 := by rw [hM26]; exact KM.ext k23 (Ext.nw _ _ _)
  have k30 : KM M26.1 (mx M10) 13 := by rw [hM26]; exact KM.ext k24 (Ext.nw _ _ _)
  have k31 : KM M26.1 (mx M20) 13 := by rw [hM26]; exact KM.nw _ _ _
  refine fr_putFA rfl dX7_init_31 rfl fp_X7_24 k27 ?_
  refine fr_mem (fun M32 hM32 => ?_)
  have h := h M32 hM32
  have k33 : KM M32.1 o 7 := by rw [hM32]; exact k27
  have k34 : KM M32.1 a1 3 := by rw [hM32]; exact k28
  have k35 : KM M32.1 (mx M) 2 := by rw [hM32]; exact k29
  have k36 : KM M32.1 (mx M10) 13 := by rw [hM32]; exact k30
  have k37 : KM M32.1 (mx M20) 13 := by rw [hM32]; exact k31
  refine fr_aload_n (i := 0) (q := 0) rfl dX7_init_34 rfl ?_
  refine fr_sipush (v := 3001) (by decide) dX7_init_35 rfl ?_
  refine fr_newI dX7_init_38 rfl ac_int (by decide) (by decide) ?_
  refine fr_mem (fun M39 hM39 => ?_)
  have h := h M39 hM39
  have k40 : KM M39.1 o 7 := by rw [hM39]; exact KM.ext k33 (Ext.nw _ _ _)
  have k41 : KM M39.1 a1 3 := by rw [hM39]; exact KM.ext k34 (Ext.nw _ _ _)
  have k42 : KM M39.1 (mx M) 2 := by rw [hM39]; exact KM.ext k35 (Ext.nw _ _ _)
  have k43 : KM M39.1 (mx M10) 13 := by rw [hM39]; exact KM.ext k36 (Ext.nw _ _ _)
  have k44 : KM M39.1 (mx M20) 13 := by rw [hM39]; exact KM.ext k37 (Ext.nw _ _ _)
  have k45 : KM M39.1 (mx M32) 13 := by rw [hM39]; exact KM.nw _ _ _
  refine fr_putFA rfl dX7_init_40 rfl fp_X7_27 k40 ?_
  refine fr_mem (fun M46 hM46 => ?_)
  have h := h M46 hM46
  have k47 : KM M46.1 o 7 := by rw [hM46]; exact k40
  have k48 : KM M46.1 a1 3 := by rw [hM46]; exact k41
  have k49 : KM M46.1 (mx M) 2 := by rw [hM46]; exact k42
  have k50 : KM M46.1 (mx M10) 13 := by rw [hM46]; exact k43
  have k51 : KM M46.1 (mx M20) 13 := by rw [hM46]; exact k44
  have k52 : KM M46.1 (mx M32) 13 := by rw [hM46]; exact k45
  refine fr_aload_n (i := 0) (q := 0) rfl dX7_init_43 rfl ?_
  refine fr_sipush (v := 8192) (by decide) dX7_init_44 rfl ?_
  refine fr_newI dX7_init_47 rfl ac_int (by decide) (by decide) ?_
  refine fr_mem (fun M54 hM54 => ?_)
  have h := h M54 hM54
  have k55 : KM M54.1 o 7 := by rw [hM54]; exact KM.ext k47 (Ext.nw _ _ _)
  have k56 : KM M54.1 a1 3 := by rw [hM54]; exact KM.ext k48 (Ext.nw _ _ _)
  have k57 : KM M54.1 (mx M) 2 := by rw [hM54]; exact KM.ext k49 (Ext.nw _ _ _)
  have k58 : KM M54.1 (mx M10) 13 := by rw [hM54]; exact KM.ext k50 (Ext.nw _ _ _)
  have k59 : KM M54.1 (mx M20) 13 := by rw [hM54]; exact KM.ext k51 (Ext.nw _ _ _)
  have k60 : KM M54.1 (mx M32) 13 := by rw [hM54]; exact KM.ext k52 (Ext.nw _ _ _)
  have k61 : KM M54.1 (mx M46) 13 := by rw [hM54]; exact KM.nw _ _ _
  refine fr_putFA rfl dX7_init_49 rfl fp_X7_30 k55 ?_
  refine fr_mem (fun M62 hM62 => ?_)
  have h := h M62 hM62
  have k63 : KM M62.1 o 7 := by rw [hM62]; exact k55
  have k64 : KM M62.1 a1 3 := by rw [hM62]; exact k56
  have k65 : KM M62.1 (mx M) 2 := by rw [hM62]; exact k57
  have k66 : KM M62.1 (mx M10) 13 := by rw [hM62]; exact k58
  have k67 : KM M62.1 (mx M20) 13 := by rw [hM62]; exact k59
  have k68 : KM M62.1 (mx M32) 13 := by rw [hM62]; exact k60
  have k69 : KM M62.1 (mx M46) 13 := by rw [hM62]; exact k61
  refine fr_aload_n (i := 0) (q := 0) rfl dX7_init_52 rfl ?_
  refine fr_aload_n (i := 1) (q := 1) rfl dX7_init_53 rfl ?_
  refine fr_putFR rfl dX7_init_54 rfl fp_X7_33 k63 ?_
  refine fr_mem (fun M70 hM70 => ?_)
  have h := h M70 hM70
  have k71 : KM M70.1 o 7 := by rw [hM70]; exact k63
  have k72 : KM M70.1 a1 3 := by rw [hM70]; exact k64
  have k73 : KM M70.1 (mx M) 2 := by rw [hM70]; exact k65
  have k74 : KM M70.1 (mx M10) 13 := by rw [hM70]; exact k66
  have k75 : KM M70.1 (mx M20) 13 := by rw [hM70]; exact k67
  have k76 : KM M70.1 (mx M32) 13 := by rw [hM70]; exact k68
  have k77 : KM M70.1 (mx M46) 13 := by rw [hM70]; exact k69
  exact fr_vret rfl dX7_init_57 h.1 h.2
theorem cp_X0_init {g : GE} {M : Mem} {r : Option Value} {M' : Mem} {o : Nat} {a1 : Nat} {a2 : Nat} (k_o : KM M.1 o 0) (k_a1 : KM M.1 a1 8) (k_a2 : KM M.1 a2 3) (h : (∀ M1 : Mem, M1 = sR M o (va_up (mR M o) 0 (some a1)) → (∀ M5 : Mem, M5 = sR M1 o (va_up (mR M1 o) 1 (some a2)) → (∃ (v9 : Int32) (M10 : Mem), Cl g 1 mu_X8_posesInAll [rf g a1] M5 (some (.int v9)) M10 ∧ (∀ M15 : Mem, M15 = sI M10 o (upd (mI M10 o) 2 v9) → (∀ M19 : Mem, M19 = sI M15 o (upd (mI M15 o) 3 ((mI M15 o 2) * (mI M15 o 2))) → (¬ (2 * (mI M19 o 3)) < 0 ∧ (2 * (mI M19 o 3)).toNatClampNeg ≤ 60000 ∧ (∀ M24 : Mem, M24 = nw M19 13 ((2 * (mI M19 o 3)).toNatClampNeg) → (∀ M29 : Mem, M29 = sR M24 o (va_up (mR M24 o) 4 (some (mx M19))) → (¬ (2 * (mI M29 o 3)) < 0 ∧ (2 * (mI M29 o 3)).toNatClampNeg ≤ 60000 ∧ (∀ M35 : Mem, M35 = nw M29 13 ((2 * (mI M29 o 3)).toNatClampNeg) → (∀ M41 : Mem, M41 = sR M35 o (va_up (mR M35 o) 5 (some (mx M29))) → (¬ ((mI M41 o 2) + 1) < 0 ∧ ((mI M41 o 2) + 1).toNatClampNeg ≤ 60000 ∧ (∀ M48 : Mem, M48 = nw M41 13 (((mI M41 o 2) + 1).toNatClampNeg) → (∀ M55 : Mem, M55 = sR M48 o (va_up (mR M48 o) 7 (some (mx M41))) → (¬ (4 * (mI M55 o 2)) < 0 ∧ (4 * (mI M55 o 2)).toNatClampNeg ≤ 60000 ∧ (∀ M63 : Mem, M63 = nw M55 13 ((4 * (mI M55 o 2)).toNatClampNeg) → (∀ M71 : Mem, M71 = sR M63 o (va_up (mR M63 o) 8 (some (mx M55))) → (¬ ((mI M71 o 2) + 1) < 0 ∧ ((mI M71 o 2) + 1).toNatClampNeg ≤ 60000 ∧ (∀ M80 : Mem, M80 = nw M71 13 (((mI M71 o 2) + 1).toNatClampNeg) → (∀ M89 : Mem, M89 = sR M80 o (va_up (mR M80 o) 9 (some (mx M71))) → (¬ (4 * (mI M89 o 2)) < 0 ∧ (4 * (mI M89 o 2)).toNatClampNeg ≤ 60000 ∧ (∀ M99 : Mem, M99 = nw M89 13 ((4 * (mI M89 o 2)).toNatClampNeg) → (∀ M109 : Mem, M109 = sR M99 o (va_up (mR M99 o) 10 (some (mx M89))) → (r = none ∧ M' = M109))))))))))))))))))))))))) : Cl g 2 mu_X0_init [rf g o, rf g a1, rf g a2] M r M' := by
  refine cl_of (lv := [(0, rf g o), (1, rf g a1), (2, rf g a2)]) (by decide) (Nat.le_of_ble_eq_true rfl) rfl ?_
  refine fr_aload_n (i := 0) (q := 0) rfl dX0_init_0 rfl ?_
  refine fr_obj dX0_init_1 rfl ⟨ml_X0_3, wo_init.1, wo_init.2⟩ (Nat.le_of_ble_eq_true rfl) (Nat.le_of_ble_eq_true rfl) ?_
  refine fr_aload_n (i := 0) (q := 0) rfl dX0_init_4 rfl ?_
  refine fr_aload_n (i := 1) (q := 1) rfl dX0_init_5 rfl ?_
  refine fr_putFR rfl dX0_init_6 rfl fp_X0_9 k_o ?_
  refine fr_mem (fun M1 hM1 => ?_)
  have h := h M1 hM1
  have k2 : KM M1.1 o 0 := by rw [hM1]; exact k_o
  have k3 : KM M1.1 a1 8 := by rw [hM1]; exact k_a1
  have k4 : KM M1.1 a2 3 := by rw [hM1]; exact k_a2
  refine fr_aload_n (i := 0) (q := 0) rfl dX0_init_9 rfl ?_
  refine fr_aload_n (i := 2) (q := 2) rfl dX0_init_10 rfl ?_
  refine fr_putFR rfl dX0_init_11 rfl fp_X0_15 k2 ?_
  refine fr_mem (fun M5 hM5 => ?_)
  have h := h M5 hM5
  have k6 : KM M5.1 o 0 := by rw [hM5]; exact k2
  have k7 : KM M5.1 a1 8 := by rw [hM5]; exact k3
  have k8 : KM M5.1 a2 3 := by rw [hM5]; exact k4
  refine fr_aload_n (i := 0) (q := 0) rfl dX0_init_14 rfl ?_
  refine fr_aload_n (i := 1) (q := 1) rfl dX0_init_15 rfl ?_
  obtain ⟨v9, M10, hc11, h⟩ := h
  refine fr_callV2 (ν := mu_X8_posesInAll) (st2 := [.int v9, rf g o]) (As := []) (st := [rf g o]) (v := (some (.int v9))) (M1 := M10) dX0_init_16 rfl ml_X0_19 mo_X8_posesInAll mi_X8_posesInAll (ci := 8) rfl rfl k7 (Nat.le_of_ble_eq_true rfl) rfl rfl (Nat.le_of_ble_eq_true rfl) hc11 rfl ?_
  have k12 : KM M10.1 o 0 := KM.ext k6 hc11.1
  have k13 : KM M10.1 a1 8 := KM.ext k7 hc11.1
  have k14 : KM M10.1 a2 3 := KM.ext k8 hc11.1
  refine fr_putFI rfl dX0_init_19 rfl fp_X0_25 k12 ?_
  refine fr_mem (fun M15 hM15 => ?_)
  have h := h M15 hM15
  have k16 : KM M15.1 o 0 := by rw [hM15]; exact k12
  have k17 : KM M15.1 a1 8 := by rw [hM15]; exact k13
  have k18 : KM M15.1 a2 3 := by rw [hM15]; exact k14
  refine fr_aload_n (i := 0) (q := 0) rfl dX0_init_22 rfl ?_
  refine fr_aload_n (i := 0) (q := 0) rfl dX0_init_23 rfl ?_
  refine fr_getI dX0_init_24 rfl fl_X0_25 k16 ?_
  refine fr_aload_n (i := 0) (q := 0) rfl dX0_init_27 rfl ?_
  refine fr_getI dX0_init_28 rfl fl_X0_25 k16 ?_
  refine fr_imul dX0_init_31 rfl ?_
  refine fr_putFI rfl dX0_init_32 rfl fp_X0_29 k16 ?_
  refine fr_mem (fun M19 hM19 => ?_)
  have h := h M19 hM19
  have k20 : KM M19.1 o 0 := by rw [hM19]; exact k16
  have k21 : KM M19.1 a1 8 := by rw [hM19]; exact k17
  have k22 : KM M19.1 a2 3 := by rw [hM19]; exact k18
  refine fr_aload_n (i := 0) (q := 0) rfl dX0_init_35 rfl ?_
  refine fr_iconst (v := 2) (by decide) dX0_init_36 rfl ?_
  refine fr_aload_n (i := 0) (q := 0) rfl dX0_init_37 rfl ?_
  refine fr_getI dX0_init_38 rfl fl_X0_29 k20 ?_
  refine fr_imul dX0_init_41 rfl ?_
  obtain ⟨hz23, hz23b, h⟩ := h
  refine fr_newI dX0_init_42 rfl ac_int hz23 hz23b ?_
  refine fr_mem (fun M24 hM24 => ?_)
  have h := h M24 hM24
  have k25 : KM M24.1 o 0 := by rw [hM24]; exact KM.ext k20 (Ext.nw _ _ _)
  have k26 : KM M24.1 a1 8 := by rw [hM24]; exact KM.ext k21 (Ext.nw _ _ _)
  have k27 : KM M24.1 a2 3 := by rw [hM24]; exact KM.ext k22 (Ext.nw _ _ _)
  have k28 : KM M24.1 (mx M19) 13 := by rw [hM24]; exact KM.nw _ _ _
  refine fr_putFA rfl dX0_init_44 rfl fp_X0_32 k25 ?_
  refine fr_mem (fun M29 hM29 => ?_)
  have h := h M29 hM29
  have k30 : KM M29.1 o 0 := by rw [hM29]; exact k25
  have k31 : KM M29.1 a1 8 := by rw [hM29]; exact k26
  have k32 : KM M29.1 a2 3 := by rw [hM29]; exact k27
  have k33 : KM M29.1 (mx M19) 13 := by rw [hM29]; exact k28
  refine fr_aload_n (i := 0) (q := 0) rfl dX0_init_47 rfl ?_
  refine fr_iconst (v := 2) (by decide) dX0_init_48 rfl ?_
  refine fr_aload_n (i := 0) (q := 0) rfl dX0_init_49 rfl ?_
  refine fr_getI dX0_init_50 rfl fl_X0_29 k30 ?_
  refine fr_imul dX0_init_53 rfl ?_
  obtain ⟨hz34, hz34b, h⟩ := h
  refine fr_newI dX0_init_54 rfl ac_int hz34 hz34b ?_
  refine fr_mem (fun M35 hM35 => ?_)
  have h := h M35 hM35
  have k36 : KM M35.1 o 0 := by rw [hM35]; exact KM.ext k30 (Ext.nw _ _ _)
  have k37 : KM M35.1 a1 8 := by rw [hM35]; exact KM.ext k31 (Ext.nw _ _ _)
  have k38 : KM M35.1 a2 3 := by rw [hM35]; exact KM.ext k32 (Ext.nw _ _ _)
  have k39 : KM M35.1 (mx M19) 13 := by rw [hM35]; exact KM.ext k33 (Ext.nw _ _ _)
  have k40 : KM M35.1 (mx M29) 13 := by rw [hM35]; exact KM.nw _ _ _
  refine fr_putFA rfl dX0_init_56 rfl fp_X0_36 k36 ?_
  refine fr_mem (fun M41 hM41 => ?_)
  have h := h M41 hM41
  have k42 : KM M41.1 o 0 := by rw [hM41]; exact k36
  have k43 : KM M41.1 a1 8 := by rw [hM41]; exact k37
  have k44 : KM M41.1 a2 3 := by rw [hM41]; exact k38
  have k45 : KM M41.1 (mx M19) 13 := by rw [hM41]; exact k39
  have k46 : KM M41.1 (mx M29) 13 := by rw [hM41]; exact k40
  refine fr_aload_n (i := 0) (q := 0) rfl dX0_init_59 rfl ?_
  refine fr_aload_n (i := 0) (q := 0) rfl dX0_init_60 rfl ?_
  refine fr_getI dX0_init_61 rfl fl_X0_25 k42 ?_
  refine fr_iconst (v := 1) (by decide) dX0_init_64 rfl ?_
  refine fr_iadd dX0_init_65 rfl ?_
  obtain ⟨hz47, hz47b, h⟩ := h
  refine fr_newI dX0_init_66 rfl ac_int hz47 hz47b ?_
  refine fr_mem (fun M48 hM48 => ?_)
  have h := h M48 hM48
  have k49 : KM M48.1 o 0 := by rw [hM48]; exact KM.ext k42 (Ext.nw _ _ _)
  have k50 : KM M48.1 a1 8 := by rw [hM48]; exact KM.ext k43 (Ext.nw _ _ _)
  have k51 : KM M48.1 a2 3 := by rw [hM48]; exact KM.ext k44 (Ext.nw _ _ _)
  have k52 : KM M48.1 (mx M19) 13 := by rw [hM48]; exact KM.ext k45 (Ext.nw _ _ _)
  have k53 : KM M48.1 (mx M29) 13 := by rw [hM48]; exact KM.ext k46 (Ext.nw _ _ _)
  have k54 : KM M48.1 (mx M41) 13 := by rw [hM48]; exact KM.nw _ _ _
  refine fr_putFA rfl dX0_init_68 rfl fp_X0_39 k49 ?_
  refine fr_mem (fun M55 hM55 => ?_)
  have h := h M55 hM55
  have k56 : KM M55.1 o 0 := by rw [hM55]; exact k49
  have k57 : KM M55.1 a1 8 := by rw [hM55]; exact k50
  have k58 : KM M55.1 a2 3 := by rw [hM55]; exact k51
  have k59 : KM M55.1 (mx M19) 13 := by rw [hM55]; exact k52
  have k60 : KM M55.1 (mx M29) 13 := by rw [hM55]; exact k53
  have k61 : KM M55.1 (mx M41) 13 := by rw [hM55]; exact k54
  refine fr_aload_n (i := 0) (q := 0) rfl dX0_init_71 rfl ?_
  refine fr_iconst (v := 4) (by decide) dX0_init_72 rfl ?_
  refine fr_aload_n (i := 0) (q := 0) rfl dX0_init_73 rfl ?_
  refine fr_getI dX0_init_74 rfl fl_X0_25 k56 ?_
  refine fr_imul dX0_init_77 rfl ?_
  obtain ⟨hz62, hz62b, h⟩ := h
  refine fr_newI dX0_init_78 rfl ac_int hz62 hz62b ?_
  refine fr_mem (fun M63 hM63 => ?_)
  have h := h M63 hM63
  have k64 : KM M63.1 o 0 := by rw [hM63]; exact KM.ext k56 (Ext.nw _ _ _)
  have k65 : KM M63.1 a1 8 := by rw [hM63]; exact KM.ext k57 (Ext.nw _ _ _)
  have k66 : KM M63.1 a2 3 := by rw [hM63]; exact KM.ext k58 (Ext.nw _ _ _)
  have k67 : KM M63.1 (mx M19) 13 := by rw [hM63]; exact KM.ext k59 (Ext.nw _ _ _)
  have k68 : KM M63.1 (mx M29) 13 := by rw [hM63]; exact KM.ext k60 (Ext.nw _ _ _)
  have k69 : KM M63.1 (mx M41) 13 := by rw [hM63]; exact KM.ext k61 (Ext.nw _ _ _)
  have k70 : KM M63.1 (mx M55) 13 := by rw [hM63]; exact KM.nw _ _ _
  refine fr_putFA rfl dX0_init_80 rfl fp_X0_42 k64 ?_
  refine fr_mem (fun M71 hM71 => ?_)
  have h := h M71 hM71
  have k72 : KM M71.1 o 0 := by rw [hM71]; exact k64
  have k73 : KM M71.1 a1 8 := by rw [hM71]; exact k65
  have k74 : KM M71.1 a2 3 := by rw [hM71]; exact k66
  have k75 : KM M71.1 (mx M19) 13 := by rw [hM71]; exact k67
  have k76 : KM M71.1 (mx M29) 13 := by rw [hM71]; exact k68
  have k77 : KM M71.1 (mx M41) 13 := by rw [hM71]; exact k69
  have k78 : KM M71.1 (mx M55) 13 := by rw [hM71]; exact k70
  refine fr_aload_n (i := 0) (q := 0) rfl dX0_init_83 rfl ?_
  refine fr_aload_n (i := 0) (q := 0) rfl dX0_init_84 rfl ?_
  refine fr_getI dX0_init_85 rfl fl_X0_25 k72 ?_
  refine fr_iconst (v := 1) (by decide) dX0_init_88 rfl ?_
  refine fr_iadd dX0_init_89 rfl ?_
  obtain ⟨hz79, hz79b, h⟩ := h
  refine fr_newI dX0_init_90 rfl ac_int hz79 hz79b ?_
  refine fr_mem (fun M80 hM80 => ?_)
  have h := h M80 hM80
  have k81 : KM M80.1 o 0 := by rw [hM80]; exact KM.ext k72 (Ext.nw _ _ _)
  have k82 : KM M80.1 a1 8 := by rw [hM80]; exact KM.ext k73 (Ext.nw _ _ _)
  have k83 : KM M80.1 a2 3 := by rw [hM80]; exact KM.ext k74 (Ext.nw _ _ _)
  have k84 : KM M80.1 (mx M19) 13 := by rw [hM80]; exact KM.ext k75 (Ext.nw _ _ _)
  have k85 : KM M80.1 (mx M29) 13 := by rw [hM80]; exact KM.ext k76 (Ext.nw _ _ _)
  have k86 : KM M80.1 (mx M41) 13 := by rw [hM80]; exact KM.ext k77 (Ext.nw _ _ _)
  have k87 : KM M80.1 (mx M55) 13 := by rw [hM80]; exact KM.ext k78 (Ext.nw _ _ _)
  have k88 : KM M80.1 (mx M71) 13 := by rw [hM80]; exact KM.nw _ _ _
  refine fr_putFA rfl dX0_init_92 rfl fp_X0_45 k81 ?_
  refine fr_mem (fun M89 hM89 => ?_)
  have h := h M89 hM89
  have k90 : KM M89.1 o 0 := by rw [hM89]; exact k81
  have k91 : KM M89.1 a1 8 := by rw [hM89]; exact k82
  have k92 : KM M89.1 a2 3 := by rw [hM89]; exact k83
  have k93 : KM M89.1 (mx M19) 13 := by rw [hM89]; exact k84
  have k94 : KM M89.1 (mx M29) 13 := by rw [hM89]; exact k85
  have k95 : KM M89.1 (mx M41) 13 := by rw [hM89]; exact k86
  have k96 : KM M89.1 (mx M55) 13 := by rw [hM89]; exact k87
  have k97 : KM M89.1 (mx M71) 13 := by rw [hM89]; exact k88
  refine fr_aload_n (i := 0) (q := 0) rfl dX0_init_95 rfl ?_
  refine fr_iconst (v := 4) (by decide) dX0_init_96 rfl ?_
  refine fr_aload_n (i := 0) (q := 0) rfl dX0_init_97 rfl ?_
  refine fr_getI dX0_init_98 rfl fl_X0_25 k90 ?_
  refine fr_imul dX0_init_101 rfl ?_
  obtain ⟨hz98, hz98b, h⟩ := h
  refine fr_newI dX0_init_102 rfl ac_int hz98 hz98b ?_
  refine fr_mem (fun M99 hM99 => ?_)
  have h := h M99 hM99
  have k100 : KM M99.1 o 0 := by rw [hM99]; exact KM.ext k90 (Ext.nw _ _ _)
  have k101 : KM M99.1 a1 8 := by rw [hM99]; exact KM.ext k91 (Ext.nw _ _ _)
  have k102 : KM M99.1 a2 3 := by rw [hM99]; exact KM.ext k92 (Ext.nw _ _ _)
  have k103 : KM M99.1 (mx M19) 13 := by rw [hM99]; exact KM.ext k93 (Ext.nw _ _ _)
  have k104 : KM M99.1 (mx M29) 13 := by rw [hM99]; exact KM.ext k94 (Ext.nw _ _ _)
  have k105 : KM M99.1 (mx M41) 13 := by rw [hM99]; exact KM.ext k95 (Ext.nw _ _ _)
  have k106 : KM M99.1 (mx M55) 13 := by rw [hM99]; exact KM.ext k96 (Ext.nw _ _ _)
  have k107 : KM M99.1 (mx M71) 13 := by rw [hM99]; exact KM.ext k97 (Ext.nw _ _ _)
  have k108 : KM M99.1 (mx M89) 13 := by rw [hM99]; exact KM.nw _ _ _
  refine fr_putFA rfl dX0_init_104 rfl fp_X0_48 k100 ?_
  refine fr_mem (fun M109 hM109 => ?_)
  have h := h M109 hM109
  have k110 : KM M109.1 o 0 := by rw [hM109]; exact k100
  have k111 : KM M109.1 a1 8 := by rw [hM109]; exact k101
  have k112 : KM M109.1 a2 3 := by rw [hM109]; exact k102
  have k113 : KM M109.1 (mx M19) 13 := by rw [hM109]; exact k103
  have k114 : KM M109.1 (mx M29) 13 := by rw [hM109]; exact k104
  have k115 : KM M109.1 (mx M41) 13 := by rw [hM109]; exact k105
  have k116 : KM M109.1 (mx M55) 13 := by rw [hM109]; exact k106
  have k117 : KM M109.1 (mx M71) 13 := by rw [hM109]; exact k107
  have k118 : KM M109.1 (mx M89) 13 := by rw [hM109]; exact k108
  exact fr_vret rfl dX0_init_107 h.1 h.2
theorem cp_X6_init {g : GE} {M : Mem} {r : Option Value} {M' : Mem} {o : Nat} {a1 : Nat} {x2 : Int32} {x3 : Int32} {x4 : Int32} (k_o : KM M.1 o 6) (k_a1 : KM M.1 a1 13) (h : (∀ M1 : Mem, M1 = sR M o (va_up (mR M o) 0 (some a1)) → (∀ M4 : Mem, M4 = sI M1 o (upd (mI M1 o) 1 x2) → (∀ M7 : Mem, M7 = sI M4 o (upd (mI M4 o) 2 x3) → (∀ M10 : Mem, M10 = sI M7 o (upd (mI M7 o) 3 x4) → (r = none ∧ M' = M10)))))) : Cl g 2 mu_X6_init [rf g o, rf g a1, .int x2, .int x3, .int x4] M r M' := by
  refine cl_of (lv := [(0, rf g o), (1, rf g a1), (2, .int x2), (3, .int x3), (4, .int x4)]) (by decide) (Nat.le_of_ble_eq_true rfl) rfl ?_
  refine fr_aload_n (i := 0) (q := 0) rfl dX6_init_0 rfl ?_
  refine fr_obj dX6_init_1 rfl ⟨ml_X6_1, wo_init.1, wo_init.2⟩ (Nat.le_of_ble_eq_true rfl) (Nat.le_of_ble_eq_true rfl) ?_
  refine fr_aload_n (i := 0) (q := 0) rfl dX6_init_4 rfl ?_
  refine fr_aload_n (i := 1) (q := 1) rfl dX6_init_5 rfl ?_
  refine fr_putFA rfl dX6_init_6 rfl fp_X6_7 k_o ?_
  refine fr_mem (fun M1 hM1 => ?_)
  have h := h M1 hM1
  have k2 : KM M1.1 o 6 := by rw [hM1]; exact k_o
  have k3 : KM M1.1 a1 13 := by rw [hM1]; exact k_a1
  refine fr_aload_n (i := 0) (q := 0) rfl dX6_init_9 rfl ?_
  refine fr_iload_n (i := 2) (q := 2) rfl dX6_init_10 rfl ?_
  refine fr_putFI rfl dX6_init_11 rfl fp_X6_13 k2 ?_
  refine fr_mem (fun M4 hM4 => ?_)
  have h := h M4 hM4
  have k5 : KM M4.1 o 6 := by rw [hM4]; exact k2
  have k6 : KM M4.1 a1 13 := by rw [hM4]; exact k3
  refine fr_aload_n (i := 0) (q := 0) rfl dX6_init_14 rfl ?_
  refine fr_iload_n (i := 3) (q := 3) rfl dX6_init_15 rfl ?_
  refine fr_putFI rfl dX6_init_16 rfl fp_X6_17 k5 ?_
  refine fr_mem (fun M7 hM7 => ?_)
  have h := h M7 hM7
  have k8 : KM M7.1 o 6 := by rw [hM7]; exact k5
  have k9 : KM M7.1 a1 13 := by rw [hM7]; exact k6
  refine fr_aload_n (i := 0) (q := 0) rfl dX6_init_19 rfl ?_
  refine fr_iload (q := 4) rfl dX6_init_20 rfl ?_
  refine fr_putFI rfl dX6_init_22 rfl fp_X6_20 k8 ?_
  refine fr_mem (fun M10 hM10 => ?_)
  have h := h M10 hM10
  have k11 : KM M10.1 o 6 := by rw [hM10]; exact k8
  have k12 : KM M10.1 a1 13 := by rw [hM10]; exact k9
  exact fr_vret rfl dX6_init_25 h.1 h.2
abbrev Lp_X8_copyFrom_123 (g : GE) (d : Nat) (o : Nat) (a1 : Nat) (u2 : Int32) (M : Mem) (r : Option Value) (M' : Mem) : Prop := Fr g d mu_X8_copyFrom 123 [(0, rf g o), (1, rf g a1), (2, .int u2)] [] M r M'
theorem cp_X8_copyFrom {g : GE} {M : Mem} {r : Option Value} {M' : Mem} {o : Nat} {a1 : Nat} (k_o : KM M.1 o 8) (k_a1 : KM M.1 a1 8) (h : (∃ b1 : Nat, mR M o 2 = some b1 ∧ KM M.1 b1 2 ∧ (∃ b2 : Nat, mR M a1 2 = some b2 ∧ KM M.1 b2 2 ∧ (∃ (M3 : Mem), Cl g 2 mu_X2_copyFrom [rf g b1, rf g b2] M none M3 ∧ (∃ b9 : Nat, mR M3 o 3 = some b9 ∧ KM M3.1 b9 2 ∧ (∃ b10 : Nat, mR M3 a1 3 = some b10 ∧ KM M3.1 b10 2 ∧ (∃ (M11 : Mem), Cl g 2 mu_X2_copyFrom [rf g b9, rf g b10] M3 none M11 ∧ (∃ b19 : Nat, mR M11 o 4 = some b19 ∧ KM M11.1 b19 2 ∧ (∃ b20 : Nat, mR M11 a1 4 = some b20 ∧ KM M11.1 b20 2 ∧ (∃ (M21 : Mem), Cl g 2 mu_X2_copyFrom [rf g b19, rf g b20] M11 none M21 ∧ (∃ b31 : Nat, mR M21 o 5 = some b31 ∧ KM M21.1 b31 2 ∧ (∃ b32 : Nat, mR M21 a1 5 = some b32 ∧ KM M21.1 b32 2 ∧ (∃ (M33 : Mem), Cl g 2 mu_X2_copyFrom [rf g b31, rf g b32] M21 none M33 ∧ (∃ b45 : Nat, mR M33 o 6 = some b45 ∧ KM M33.1 b45 2 ∧ (∃ b46 : Nat, mR M33 a1 6 = some b46 ∧ KM M33.1 b46 2 ∧ (∃ (M47 : Mem), Cl g 2 mu_X2_copyFrom [rf g b45, rf g b46] M33 none M47 ∧ (∃ b61 : Nat, mR M47 o 7 = some b61 ∧ KM M47.1 b61 2 ∧ (∃ b62 : Nat, mR M47 a1 7 = some b62 ∧ KM M47.1 b62 2 ∧ (∃ (M63 : Mem), Cl g 2 mu_X2_copyFrom [rf g b61, rf g b62] M47 none M63 ∧ (∃ b79 : Nat, mR M63 o 8 = some b79 ∧ KM M63.1 b79 2 ∧ (∃ b80 : Nat, mR M63 a1 8 = some b80 ∧ KM M63.1 b80 2 ∧ (∃ (M81 : Mem), Cl g 2 mu_X2_copyFrom [rf g b79, rf g b80] M63 none M81 ∧ (∃ b99 : Nat, mR M81 o 9 = some b99 ∧ KM M81.1 b99 2 ∧ (∃ b100 : Nat, mR M81 a1 9 = some b100 ∧ KM M81.1 b100 2 ∧ (∃ (M101 : Mem), Cl g 2 mu_X2_copyFrom [rf g b99, rf g b100] M81 none M101 ∧ (∃ b121 : Nat, mR M101 o 10 = some b121 ∧ KM M101.1 b121 2 ∧ (∃ b122 : Nat, mR M101 a1 10 = some b122 ∧ KM M101.1 b122 2 ∧ (∃ (M123 : Mem), Cl g 2 mu_X2_copyFrom [rf g b121, rf g b122] M101 none M123 ∧ (∃ b145 : Nat, mR M123 o 11 = some b145 ∧ KM M123.1 b145 2 ∧ (∃ b146 : Nat, mR M123 a1 11 = some b146 ∧ KM M123.1 b146 2 ∧ (∃ (M147 : Mem), Cl g 2 mu_X2_copyFrom [rf g b145, rf g b146] M123 none M147 ∧ (∃ b171 : Nat, mR M147 o 12 = some b171 ∧ KM M147.1 b171 2 ∧ (∃ b172 : Nat, mR M147 a1 12 = some b172 ∧ KM M147.1 b172 2 ∧ (∃ (M173 : Mem), Cl g 2 mu_X2_copyFrom [rf g b171, rf g b172] M147 none M173 ∧ Lp_X8_copyFrom_123 g 3 o a1 0 M173 r M')))))))))))))))))))))))))))))))))) : Cl g 3 mu_X8_copyFrom [rf g o, rf g a1] M r M' := by
  refine cl_of (lv := [(0, rf g o), (1, rf g a1)]) (by decide) (Nat.le_of_ble_eq_true rfl) rfl ?_
  refine fr_aload_n (i := 0) (q := 0) rfl dX8_copyFrom_0 rfl ?_
  obtain ⟨b1, r_b1, k_b1, h⟩ := h
  refine fr_getR dX8_copyFrom_1 rfl fl_X8_69 k_o r_b1 ?_
  refine fr_aload_n (i := 1) (q := 1) rfl dX8_copyFrom_4 rfl ?_
  obtain ⟨b2, r_b2, k_b2, h⟩ := h
  refine fr_getR dX8_copyFrom_5 rfl fl_X8_69 k_a1 r_b2 ?_
  obtain ⟨M3, hc4, h⟩ := h
  refine fr_callV2 (ν := mu_X2_copyFrom) (st2 := []) (As := [rf g b2]) (st := []) (v := none) (M1 := M3) dX8_copyFrom_8 rfl ml_X8_75 mo_X2_copyFrom mi_X2_copyFrom (ci := 2) rfl rfl k_b1 (Nat.le_of_ble_eq_true rfl) rfl rfl (Nat.le_of_ble_eq_true rfl) hc4 rfl ?_
  have k5 : KM M3.1 o 8 := KM.ext k_o hc4.1
  have k6 : KM M3.1 a1 8 := KM.ext k_a1 hc4.1
  have k7 : KM M3.1 b1 2 := KM.ext k_b1 hc4.1
  have k8 : KM M3.1 b2 2 := KM.ext k_b2 hc4.1
  refine fr_aload_n (i := 0) (q := 0) rfl dX8_copyFrom_11 rfl ?_
  obtain ⟨b9, r_b9, k_b9, h⟩ := h
  refine fr_getR dX8_copyFrom_12 rfl fl_X8_14 k5 r_b9 ?_
  refine fr_aload_n (i := 1) (q := 1) rfl dX8_copyFrom_15 rfl ?_
  obtain ⟨b10, r_b10, k_b10, h⟩ := h
  refine fr_getR dX8_copyFrom_16 rfl fl_X8_14 k6 r_b10 ?_
  obtain ⟨M11, hc12, h⟩ := h
  refine fr_callV2 (ν := mu_X2_copyFrom) (st2 := []) (As := [rf g b10]) (st := []) (v := none) (M1 := M11) dX8_copyFrom_19 rfl ml_X8_75 mo_X2_copyFrom mi_X2_copyFrom (ci := 2) rfl rfl k_b9 (Nat.le_of_ble_eq_true rfl) rfl rfl (Nat.le_of_ble_eq_true rfl) hc12 rfl ?_
  have k13 : KM M11.1 o 8 := KM.ext k5 hc12.1
  have k14 : KM M11.1 a1 8 := KM.ext k6 hc12.1
  have k15 : KM M11.1 b1 2 := KM.ext k7 hc12.1
  have k16 : KM M11.1 b2 2 := KM.ext k8 hc12.1
  have k17 : KM M11.1 b9 2 := KM.ext k_b9 hc12.1
  have k18 : KM M11.1 b10 2 := KM.ext k_b10 hc12.1
  refine fr_aload_n (i := 0) (q := 0) rfl dX8_copyFrom_22 rfl ?_
  obtain ⟨b19, r_b19, k_b19, h⟩ := h
  refine fr_getR dX8_copyFrom_23 rfl fl_X8_20 k13 r_b19 ?_
  refine fr_aload_n (i := 1) (q := 1) rfl dX8_copyFrom_26 rfl ?_
  obtain ⟨b20, r_b20, k_b20, h⟩ := h
  refine fr_getR dX8_copyFrom_27 rfl fl_X8_20 k14 r_b20 ?_
  obtain ⟨M21, hc22, h⟩ := h
  refine fr_callV2 (ν := mu_X2_copyFrom) (st2 := []) (As := [rf g b20]) (st := []) (v := none) (M1 := M21) dX8_copyFrom_30 rfl ml_X8_75 mo_X2_copyFrom mi_X2_copyFrom (ci := 2) rfl rfl k_b19 (Nat.le_of_ble_eq_true rfl) rfl rfl (Nat.le_of_ble_eq_true rfl) hc22 rfl ?_
  have k23 : KM M21.1 o 8 := KM.ext k13 hc22.1
  have k24 : KM M21.1 a1 8 := KM.ext k14 hc22.1
  have k25 : KM M21.1 b1 2 := KM.ext k15 hc22.1
  have k26 : KM M21.1 b2 2 := KM.ext k16 hc22.1
  have k27 : KM M21.1 b9 2 := KM.ext k17 hc22.1
  have k28 : KM M21.1 b10 2 := KM.ext k18 hc22.1
  have k29 : KM M21.1 b19 2 := KM.ext k_b19 hc22.1
  have k30 : KM M21.1 b20 2 := KM.ext k_b20 hc22.1
  refine fr_aload_n (i := 0) (q := 0) rfl dX8_copyFrom_33 rfl ?_
  obtain ⟨b31, r_b31, k_b31, h⟩ := h
  refine fr_getR dX8_copyFrom_34 rfl fl_X8_23 k23 r_b31 ?_
  refine fr_aload_n (i := 1) (q := 1) rfl dX8_copyFrom_37 rfl ?_
  obtain ⟨b32, r_b32, k_b32, h⟩ := h
  refine fr_getR dX8_copyFrom_38 rfl fl_X8_23 k24 r_b32 ?_
  obtain ⟨M33, hc34, h⟩ := h
  refine fr_callV2 (ν := mu_X2_copyFrom) (st2 := []) (As := [rf g b32]) (st := []) (v := none) (M1 := M33) dX8_copyFrom_41 rfl ml_X8_75 mo_X2_copyFrom mi_X2_copyFrom (ci := 2) rfl rfl k_b31 (Nat.le_of_ble_eq_true rfl) rfl rfl (Nat.le_of_ble_eq_true rfl) hc34 rfl ?_
  have k35 : KM M33.1 o 8 := KM.ext k23 hc34.1
  have k36 : KM M33.1 a1 8 := KM.ext k24 hc34.1
  have k37 : KM M33.1 b1 2 := KM.ext k25 hc34.1
  have k38 : KM M33.1 b2 2 := KM.ext k26 hc34.1
  have k39 : KM M33.1 b9 2 := KM.ext k27 hc34.1
  have k40 : KM M33.1 b10 2 := KM.ext k28 hc34.1
  have k41 : KM M33.1 b19 2 := KM.ext k29 hc34.1
  have k42 : KM M33.1 b20 2 := KM.ext k30 hc34.1
  have k43 : KM M33.1 b31 2 := KM.ext k_b31 hc34.1
  have k44 : KM M33.1 b32 2 := KM.ext k_b32 hc34.1
  refine fr_aload_n (i := 0) (q := 0) rfl dX8_copyFrom_44 rfl ?_
  obtain ⟨b45, r_b45, k_b45, h⟩ := h
  refine fr_getR dX8_copyFrom_45 rfl fl_X8_26 k35 r_b45 ?_
  refine fr_aload_n (i := 1) (q := 1) rfl dX8_copyFrom_48 rfl ?_
  obtain ⟨b46, r_b46, k_b46, h⟩ := h
  refine fr_getR dX8_copyFrom_49 rfl fl_X8_26 k36 r_b46 ?_
  obtain ⟨M47, hc48, h⟩ := h
  refine fr_callV2 (ν := mu_X2_copyFrom) (st2 := []) (As := [rf g b46]) (st := []) (v := none) (M1 := M47) dX8_copyFrom_52 rfl ml_X8_75 mo_X2_copyFrom mi_X2_copyFrom (ci := 2) rfl rfl k_b45 (Nat.le_of_ble_eq_true rfl) rfl rfl (Nat.le_of_ble_eq_true rfl) hc48 rfl ?_
  have k49 : KM M47.1 o 8 := KM.ext k35 hc48.1
  have k50 : KM M47.1 a1 8 := KM.ext k36 hc48.1
  have k51 : KM M47.1 b1 2 := KM.ext k37 hc48.1
  have k52 : KM M47.1 b2 2 := KM.ext k38 hc48.1
  have k53 : KM M47.1 b9 2 := KM.ext k39 hc48.1
  have k54 : KM M47.1 b10 2 := KM.ext k40 hc48.1
  have k55 : KM M47.1 b19 2 := KM.ext k41 hc48.1
  have k56 : KM M47.1 b20 2 := KM.ext k42 hc48.1
  have k57 : KM M47.1 b31 2 := KM.ext k43 hc48.1
  have k58 : KM M47.1 b32 2 := KM.ext k44 hc48.1
  have k59 : KM M47.1 b45 2 := KM.ext k_b45 hc48.1
  have k60 : KM M47.1 b46 2 := KM.ext k_b46 hc48.1
  refine fr_aload_n (i := 0) (q := 0) rfl dX8_copyFrom_55 rfl ?_
  obtain ⟨b61, r_b61, k_b61, h⟩ := h
  refine fr_getR dX8_copyFrom_56 rfl fl_X8_29 k49 r_b61 ?_
  refine fr_aload_n (i := 1) (q := 1) rfl dX8_copyFrom_59 rfl ?_
  obtain ⟨b62, r_b62, k_b62, h⟩ := h
  refine fr_getR dX8_copyFrom_60 rfl fl_X8_29 k50 r_b62 ?_
  obtain ⟨M63, hc64, h⟩ := h
  refine fr_callV2 (ν := mu_X2_copyFrom) (st2 := []) (As := [rf g b62]) (st := []) (v := none) (M1 := M63) dX8_copyFrom_63 rfl ml_X8_75 mo_X2_copyFrom mi_X2_copyFrom (ci := 2) rfl rfl k_b61 (Nat.le_of_ble_eq_true rfl) rfl rfl (Nat.le_of_ble_eq_true rfl) hc64 rfl ?_
  have k65 : KM M63.1 o 8 := KM.ext k49 hc64.1
  have k66 : KM M63.1 a1 8 := KM.ext k50 hc64.1
  have k67 : KM M63.1 b1 2 := KM.ext k51 hc64.1
  have k68 : KM M63.1 b2 2 := KM.ext k52 hc64.1
  have k69 : KM M63.1 b9 2 := KM.ext k53 hc64.1
  have k70 : KM M63.1 b10 2 := KM.ext k54 hc64.1
  have k71 : KM M63.1 b19 2 := KM.ext k55 hc64.1
  have k72 : KM M63.1 b20 2 := KM.ext k56 hc64.1
  have k73 : KM M63.1 b31 2 := KM.ext k57 hc64.1
  have k74 : KM M63.1 b32 2 := KM.ext k58 hc64.1
  have k75 : KM M63.1 b45 2 := KM.ext k59 hc64.1
  have k76 : KM M63.1 b46 2 := KM.ext k60 hc64.1
  have k77 : KM M63.1 b61 2 := KM.ext k_b61 hc64.1
  have k78 : KM M63.1 b62 2 := KM.ext k_b62 hc64.1
  refine fr_aload_n (i := 0) (q := 0) rfl dX8_copyFrom_66 rfl ?_
  obtain ⟨b79, r_b79, k_b79, h⟩ := h
  refine fr_getR dX8_copyFrom_67 rfl fl_X8_32 k65 r_b79 ?_
  refine fr_aload_n (i := 1) (q := 1) rfl dX8_copyFrom_70 rfl ?_
  obtain ⟨b80, r_b80, k_b80, h⟩ := h
  refine fr_getR dX8_copyFrom_71 rfl fl_X8_32 k66 r_b80 ?_
  obtain ⟨M81, hc82, h⟩ := h
  refine fr_callV2 (ν := mu_X2_copyFrom) (st2 := []) (As := [rf g b80]) (st := []) (v := none) (M1 := M81) dX8_copyFrom_74 rfl ml_X8_75 mo_X2_copyFrom mi_X2_copyFrom (ci := 2) rfl rfl k_b79 (Nat.le_of_ble_eq_true rfl) rfl rfl (Nat.le_of_ble_eq_true rfl) hc82 rfl ?_
  have k83 : KM M81.1 o 8 := KM.ext k65 hc82.1
  have k84 : KM M81.1 a1 8 := KM.ext k66 hc82.1
  have k85 : KM M81.1 b1 2 := KM.ext k67 hc82.1
  have k86 : KM M81.1 b2 2 := KM.ext k68 hc82.1
  have k87 : KM M81.1 b9 2 := KM.ext k69 hc82.1
  have k88 : KM M81.1 b10 2 := KM.ext k70 hc82.1
  have k89 : KM M81.1 b19 2 := KM.ext k71 hc82.1
  have k90 : KM M81.1 b20 2 := KM.ext k72 hc82.1
  have k91 : KM M81.1 b31 2 := KM.ext k73 hc82.1
  have k92 : KM M81.1 b32 2 := KM.ext k74 hc82.1
  have k93 : KM M81.1 b45 2 := KM.ext k75 hc82.1
  have k94 : KM M81.1 b46 2 := KM.ext k76 hc82.1
  have k95 : KM M81.1 b61 2 := KM.ext k77 hc82.1
  have k96 : KM M81.1 b62 2 := KM.ext k78 hc82.1
  have k97 : KM M81.1 b79 2 := KM.ext k_b79 hc82.1
  have k98 : KM M81.1 b80 2 := KM.ext k_b80 hc82.1
  refine fr_aload_n (i := 0) (q := 0) rfl dX8_copyFrom_77 rfl ?_
  obtain ⟨b99, r_b99, k_b99, h⟩ := h
  refine fr_getR dX8_copyFrom_78 rfl fl_X8_35 k83 r_b99 ?_
  refine fr_aload_n (i := 1) (q := 1) rfl dX8_copyFrom_81 rfl ?_
  obtain ⟨b100, r_b100, k_b100, h⟩ := h
  refine fr_getR dX8_copyFrom_82 rfl fl_X8_35 k84 r_b100 ?_
  obtain ⟨M101, hc102, h⟩ := h
  refine fr_callV2 (ν := mu_X2_copyFrom) (st2 := []) (As := [rf g b100]) (st := []) (v := none) (M1 := M101) dX8_copyFrom_85 rfl ml_X8_75 mo_X2_copyFrom mi_X2_copyFrom (ci := 2) rfl rfl k_b99 (Nat.le_of_ble_eq_true rfl) rfl rfl (Nat.le_of_ble_eq_true rfl) hc102 rfl ?_
  have k103 : KM M101.1 o 8 := KM.ext k83 hc102.1
  have k104 : KM M101.1 a1 8 := KM.ext k84 hc102.1
  have k105 : KM M101.1 b1 2 := KM.ext k85 hc102.1
  have k106 : KM M101.1 b2 2 := KM.ext k86 hc102.1
  have k107 : KM M101.1 b9 2 := KM.ext k87 hc102.1
  have k108 : KM M101.1 b10 2 := KM.ext k88 hc102.1
  have k109 : KM M101.1 b19 2 := KM.ext k89 hc102.1
  have k110 : KM M101.1 b20 2 := KM.ext k90 hc102.1
  have k111 : KM M101.1 b31 2 := KM.ext k91 hc102.1
  have k112 : KM M101.1 b32 2 := KM.ext k92 hc102.1
  have k113 : KM M101.1 b45 2 := KM.ext k93 hc102.1
  have k114 : KM M101.1 b46 2 := KM.ext k94 hc102.1
  have k115 : KM M101.1 b61 2 := KM.ext k95 hc102.1
  have k116 : KM M101.1 b62 2 := KM.ext k96 hc102.1
  have k117 : KM M101.1 b79 2 := KM.ext k97 hc102.1
  have k118 : KM M101.1 b80 2 := KM.ext k98 hc102.1
  have k119 : KM M101.1 b99 2 := KM.ext k_b99 hc102.1
  have k120 : KM M101.1 b100 2 := KM.ext k_b100 hc102.1
  refine fr_aload_n (i := 0) (q := 0) rfl dX8_copyFrom_88 rfl ?_
  obtain ⟨b121, r_b121, k_b121, h⟩ := h
  refine fr_getR dX8_copyFrom_89 rfl fl_X8_38 k103 r_b121 ?_
  refine fr_aload_n (i := 1) (q := 1) rfl dX8_copyFrom_92 rfl ?_
  obtain ⟨b122, r_b122, k_b122, h⟩ := h
  refine fr_getR dX8_copyFrom_93 rfl fl_X8_38 k104 r_b122 ?_
  obtain ⟨M123, hc124, h⟩ := h
  refine fr_callV2 (ν := mu_X2_copyFrom) (st2 := []) (As := [rf g b122]) (st := []) (v := none) (M1 := M123) dX8_copyFrom_96 rfl ml_X8_75 mo_X2_copyFrom mi_X2_copyFrom (ci := 2) rfl rfl k_b121 (Nat.le_of_ble_eq_true rfl) rfl rfl (Nat.le_of_ble_eq_true rfl) hc124 rfl ?_
  have k125 : KM M123.1 o 8 := KM.ext k103 hc124.1
  have k126 : KM M123.1 a1 8 := KM.ext k104 hc124.1
  have k127 : KM M123.1 b1 2 := KM.ext k105 hc124.1
  have k128 : KM M123.1 b2 2 := KM.ext k106 hc124.1
  have k129 : KM M123.1 b9 2 := KM.ext k107 hc124.1
  have k130 : KM M123.1 b10 2 := KM.ext k108 hc124.1
  have k131 : KM M123.1 b19 2 := KM.ext k109 hc124.1
  have k132 : KM M123.1 b20 2 := KM.ext k110 hc124.1
  have k133 : KM M123.1 b31 2 := KM.ext k111 hc124.1
  have k134 : KM M123.1 b32 2 := KM.ext k112 hc124.1
  have k135 : KM M123.1 b45 2 := KM.ext k113 hc124.1
  have k136 : KM M123.1 b46 2 := KM.ext k114 hc124.1
  have k137 : KM M123.1 b61 2 := KM.ext k115 hc124.1
  have k138 : KM M123.1 b62 2 := KM.ext k116 hc124.1
  have k139 : KM M123.1 b79 2 := KM.ext k117 hc124.1
  have k140 : KM M123.1 b80 2 := KM.ext k118 hc124.1
  have k141 : KM M123.1 b99 2 := KM.ext k119 hc124.1
  have k142 : KM M123.1 b100 2 := KM.ext k120 hc124.1
  have k143 : KM M123.1 b121 2 := KM.ext k_b121 hc124.1
  have k144 : KM M123.1 b122 2 := KM.ext k_b122 hc124.1
  refine fr_aload_n (i := 0) (q := 0) rfl dX8_copyFrom_99 rfl ?_
  obtain ⟨b145, r_b145, k_b145, h⟩ := h
  refine fr_getR dX8_copyFrom_100 rfl fl_X8_41 k125 r_b145 ?_
  refine fr_aload_n (i := 1) (q := 1) rfl dX8_copyFrom_103 rfl ?_
  obtain ⟨b146, r_b146, k_b146, h⟩ := h
  refine fr_getR dX8_copyFrom_104 rfl fl_X8_41 k126 r_b146 ?_
  obtain ⟨M147, hc148, h⟩ := h
  refine fr_callV2 (ν := mu_X2_copyFrom) (st2 := []) (As := [rf g b146]) (st := []) (v := none) (M1 := M147) dX8_copyFrom_107 rfl ml_X8_75 mo_X2_copyFrom mi_X2_copyFrom (ci := 2) rfl rfl k_b145 (Nat.le_of_ble_eq_true rfl) rfl rfl (Nat.le_of_ble_eq_true rfl) hc148 rfl ?_
  have k149 : KM M147.1 o 8 := KM.ext k125 hc148.1
  have k150 : KM M147.1 a1 8 := KM.ext k126 hc148.1
  have k151 : KM M147.1 b1 2 := KM.ext k127 hc148.1
  have k152 : KM M147.1 b2 2 := KM.ext k128 hc148.1
  have k153 : KM M147.1 b9 2 := KM.ext k129 hc148.1
  have k154 : KM M147.1 b10 2 := KM.ext k130 hc148.1
  have k155 : KM M147.1 b19 2 := KM.ext k131 hc148.1
  have k156 : KM M147.1 b20 2 := KM.ext k132 hc148.1
  have k157 : KM M147.1 b31 2 := KM.ext k133 hc148.1
  have k158 : KM M147.1 b32 2 := KM.ext k134 hc148.1
  have k159 : KM M147.1 b45 2 := KM.ext k135 hc148.1
  have k160 : KM M147.1 b46 2 := KM.ext k136 hc148.1
  have k161 : KM M147.1 b61 2 := KM.ext k137 hc148.1
  have k162 : KM M147.1 b62 2 := KM.ext k138 hc148.1
  have k163 : KM M147.1 b79 2 := KM.ext k139 hc148.1
  have k164 : KM M147.1 b80 2 := KM.ext k140 hc148.1
  have k165 : KM M147.1 b99 2 := KM.ext k141 hc148.1
  have k166 : KM M147.1 b100 2 := KM.ext k142 hc148.1
  have k167 : KM M147.1 b121 2 := KM.ext k143 hc148.1
  have k168 : KM M147.1 b122 2 := KM.ext k144 hc148.1
  have k169 : KM M147.1 b145 2 := KM.ext k_b145 hc148.1
  have k170 : KM M147.1 b146 2 := KM.ext k_b146 hc148.1
  refine fr_aload_n (i := 0) (q := 0) rfl dX8_copyFrom_110 rfl ?_
  obtain ⟨b171, r_b171, k_b171, h⟩ := h
  refine fr_getR dX8_copyFrom_111 rfl fl_X8_44 k149 r_b171 ?_
  refine fr_aload_n (i := 1) (q := 1) rfl dX8_copyFrom_114 rfl ?_
  obtain ⟨b172, r_b172, k_b172, h⟩ := h
  refine fr_getR dX8_copyFrom_115 rfl fl_X8_44 k150 r_b172 ?_
  obtain ⟨M173, hc174, h⟩ := h
  refine fr_callV2 (ν := mu_X2_copyFrom) (st2 := []) (As := [rf g b172]) (st := []) (v := none) (M1 := M173) dX8_copyFrom_118 rfl ml_X8_75 mo_X2_copyFrom mi_X2_copyFrom (ci := 2) rfl rfl k_b171 (Nat.le_of_ble_eq_true rfl) rfl rfl (Nat.le_of_ble_eq_true rfl) hc174 rfl ?_
  have k175 : KM M173.1 o 8 := KM.ext k149 hc174.1
  have k176 : KM M173.1 a1 8 := KM.ext k150 hc174.1
  have k177 : KM M173.1 b1 2 := KM.ext k151 hc174.1
  have k178 : KM M173.1 b2 2 := KM.ext k152 hc174.1
  have k179 : KM M173.1 b9 2 := KM.ext k153 hc174.1
  have k180 : KM M173.1 b10 2 := KM.ext k154 hc174.1
  have k181 : KM M173.1 b19 2 := KM.ext k155 hc174.1
  have k182 : KM M173.1 b20 2 := KM.ext k156 hc174.1
  have k183 : KM M173.1 b31 2 := KM.ext k157 hc174.1
  have k184 : KM M173.1 b32 2 := KM.ext k158 hc174.1
  have k185 : KM M173.1 b45 2 := KM.ext k159 hc174.1
  have k186 : KM M173.1 b46 2 := KM.ext k160 hc174.1
  have k187 : KM M173.1 b61 2 := KM.ext k161 hc174.1
  have k188 : KM M173.1 b62 2 := KM.ext k162 hc174.1
  have k189 : KM M173.1 b79 2 := KM.ext k163 hc174.1
  have k190 : KM M173.1 b80 2 := KM.ext k164 hc174.1
  have k191 : KM M173.1 b99 2 := KM.ext k165 hc174.1
  have k192 : KM M173.1 b100 2 := KM.ext k166 hc174.1
  have k193 : KM M173.1 b121 2 := KM.ext k167 hc174.1
  have k194 : KM M173.1 b122 2 := KM.ext k168 hc174.1
  have k195 : KM M173.1 b145 2 := KM.ext k169 hc174.1
  have k196 : KM M173.1 b146 2 := KM.ext k170 hc174.1
  have k197 : KM M173.1 b171 2 := KM.ext k_b171 hc174.1
  have k198 : KM M173.1 b172 2 := KM.ext k_b172 hc174.1
  refine fr_iconst (v := 0) (by decide) dX8_copyFrom_121 rfl ?_
  refine fr_istore_n (i := 2) (lv' := [(2, .int 0), (0, rf g o), (1, rf g a1)]) dX8_copyFrom_122 rfl (by decide) rfl ?_
  exact fr_sub [1, 2, 0] rfl h
theorem wp_X8_copyFrom_123 {g : GE} {M : Mem} {r : Option Value} {M' : Mem} {o : Nat} {a1 : Nat} {u2 : Int32} (k_o : KM M.1 o 8) (k_a1 : KM M.1 a1 8) (h : ((4 ≤ u2 → (∀ M1 : Mem, M1 = sI M o (upd (mI M o) 14 (mI M a1 14)) → (r = none ∧ M' = M1))) ∧ (¬ 4 ≤ u2 → (∃ b4 : Nat, mR M o 13 = some b4 ∧ KM M.1 b4 16 ∧ (∃ b5 : Nat, mR M a1 13 = some b5 ∧ KM M.1 b5 16 ∧ (vp_in u2 (mN M b5) ∧ ((mR M b5 u2.toNatClampNeg = none → (vp_in u2 (mN M b4) ∧ (∀ M9 : Mem, M9 = sR M b4 (va_up (mR M b4) u2.toNatClampNeg none) → (∀ y14 : Int32, y14 = (u2 + 1) → Lp_X8_copyFrom_123 g 3 o a1 y14 M9 r M')))) ∧ (∀ b7 : Nat, mR M b5 u2.toNatClampNeg = some b7 → KM M.1 b7 6 ∧ (vp_in u2 (mN M b4) ∧ (∀ M16 : Mem, M16 = sR M b4 (va_up (mR M b4) u2.toNatClampNeg (some b7)) → (∀ y22 : Int32, y22 = (u2 + 1) → Lp_X8_copyFrom_123 g 3 o a1 y22 M16 r M'))))))))))) : Lp_X8_copyFrom_123 g 3 o a1 u2 M r M' := by
  refine fr_iload_n (i := 2) (q := 2) rfl dX8_copyFrom_123 rfl ?_
  refine fr_iconst (v := 4) (by decide) dX8_copyFrom_124 rfl ?_
  refine fr_icmp_ge (tgt := 146) dX8_copyFrom_125 (by decide) rfl (fun hc => ?_) (fun hc => ?_)
  · have h := h.1 hc
    refine fr_aload_n (i := 0) (q := 0) rfl dX8_copyFrom_146 rfl ?_
    refine fr_aload_n (i := 1) (q := 1) rfl dX8_copyFrom_147 rfl ?_
    refine fr_getI dX8_copyFrom_148 rfl fl_X8_79 k_a1 ?_
    refine fr_putI dX8_copyFrom_151 rfl fp_X8_79 k_o ?_
    refine fr_mem (fun M1 hM1 => ?_)
    have h := h M1 hM1
    have k2 : KM M1.1 o 8 := by rw [hM1]; exact k_o
    have k3 : KM M1.1 a1 8 := by rw [hM1]; exact k_a1
    exact fr_vret rfl dX8_copyFrom_154 h.1 h.2
  · have h := h.2 hc
    refine fr_aload_n (i := 0) (q := 0) rfl dX8_copyFrom_128 rfl ?_
    obtain ⟨b4, r_b4, k_b4, h⟩ := h
    refine fr_getR dX8_copyFrom_129 rfl fl_X8_49 k_o r_b4 ?_
    refine fr_iload_n (i := 2) (q := 2) rfl dX8_copyFrom_132 rfl ?_
    refine fr_aload_n (i := 1) (q := 1) rfl dX8_copyFrom_133 rfl ?_
    obtain ⟨b5, r_b5, k_b5, h⟩ := h
    refine fr_getR dX8_copyFrom_134 rfl fl_X8_49 k_a1 r_b5 ?_
    refine fr_iload_n (i := 2) (q := 2) rfl dX8_copyFrom_137 rfl ?_
    obtain ⟨hz6, h⟩ := h
    refine fr_aald dX8_copyFrom_138 rfl k_b5 hz6 ?_
    refine fr_case (fun hq => ?_) (fun b7 hq => ?_)
    · have h := h.1 hq
      obtain ⟨hz8, h⟩ := h
      refine fr_aastN dX8_copyFrom_139 rfl k_b4 hz8 ?_
      refine fr_mem (fun M9 hM9 => ?_)
      have h := h M9 hM9
      have k10 : KM M9.1 o 8 := by rw [hM9]; exact k_o
      have k11 : KM M9.1 a1 8 := by rw [hM9]; exact k_a1
      have k12 : KM M9.1 b4 16 := by rw [hM9]; exact k_b4
      have k13 : KM M9.1 b5 16 := by rw [hM9]; exact k_b5
      obtain ⟨y14, hy14⟩ : ∃ y : Int32, y = u2 + 1 := ⟨_, rfl⟩
      have h := h y14 hy14
      refine fr_iinc (q := 2) (v := y14) (lv' := [(2, .int y14), (0, rf g o), (1, rf g a1)]) rfl (by rw [hy14]; rfl) dX8_copyFrom_140 rfl (by decide) rfl ?_
      refine fr_goto (n := 123) dX8_copyFrom_143 (by decide) ?_
      exact fr_sub [1, 2, 0] rfl h
    · obtain ⟨k_b7, h⟩ := h.2 b7 hq
      obtain ⟨hz15, h⟩ := h
      refine fr_aast dX8_copyFrom_139 rfl k_b4 k_b7 hz15 ?_
      refine fr_mem (fun M16 hM16 => ?_)
      have h := h M16 hM16
      have k17 : KM M16.1 o 8 := by rw [hM16]; exact k_o
      have k18 : KM M16.1 a1 8 := by rw [hM16]; exact k_a1
      have k19 : KM M16.1 b4 16 := by rw [hM16]; exact k_b4
      have k20 : KM M16.1 b5 16 := by rw [hM16]; exact k_b5
      have k21 : KM M16.1 b7 6 := by rw [hM16]; exact k_b7
      obtain ⟨y22, hy22⟩ : ∃ y : Int32, y = u2 + 1 := ⟨_, rfl⟩
      have h := h y22 hy22
      refine fr_iinc (q := 2) (v := y22) (lv' := [(2, .int y22), (0, rf g o), (1, rf g a1)]) rfl (by rw [hy22]; rfl) dX8_copyFrom_140 rfl (by decide) rfl ?_
      refine fr_goto (n := 123) dX8_copyFrom_143 (by decide) ?_
      exact fr_sub [1, 2, 0] rfl h
theorem cp_X8_addText {g : GE} {M : Mem} {r : Option Value} {M' : Mem} {o : Nat} {a1 : Nat} (k_o : KM M.1 o 8) (k_a1 : KM M.1 a1 6) (h : (∃ b1 : Nat, mR M o 13 = some b1 ∧ KM M.1 b1 16 ∧ (((mI M o 14) < (nI (mN M b1)) → (∃ b2 : Nat, mR M o 13 = some b2 ∧ KM M.1 b2 16 ∧ (vp_in (mI M o 14) (mN M b2) ∧ (∀ M4 : Mem, M4 = sR M b2 (va_up (mR M b2) (mI M o 14).toNatClampNeg (some a1)) → (∀ M9 : Mem, M9 = sI M4 o (upd (mI M4 o) 14 ((mI M4 o 14) + 1)) → (r = some (.int ((mI M9 o 14) - 1)) ∧ M' = M9)))))) ∧ (¬ (mI M o 14) < (nI (mN M b1)) → (r = some (.int ((-1))) ∧ M' = M))))) : Cl g 1 mu_X8_addText [rf g o, rf g a1] M r M' := by
  refine cl_of (lv := [(0, rf g o), (1, rf g a1)]) (by decide) (Nat.le_of_ble_eq_true rfl) rfl ?_
  refine fr_aload_n (i := 0) (q := 0) rfl dX8_addText_0 rfl ?_
  refine fr_getI dX8_addText_1 rfl fl_X8_79 k_o ?_
  refine fr_aload_n (i := 0) (q := 0) rfl dX8_addText_4 rfl ?_
  obtain ⟨b1, r_b1, k_b1, h⟩ := h
  refine fr_getR dX8_addText_5 rfl fl_X8_49 k_o r_b1 ?_
  refine fr_alen dX8_addText_8 rfl k_b1 (Or.inr (Or.inr (Or.inr rfl))) ?_
  refine fr_icmp_lt (tgt := 14) dX8_addText_9 (by decide) rfl (fun hc => ?_) (fun hc => ?_)
  · have h := h.1 hc
    refine fr_aload_n (i := 0) (q := 0) rfl dX8_addText_14 rfl ?_
    obtain ⟨b2, r_b2, k_b2, h⟩ := h
    refine fr_getR dX8_addText_15 rfl fl_X8_49 k_o r_b2 ?_
    refine fr_aload_n (i := 0) (q := 0) rfl dX8_addText_18 rfl ?_
    refine fr_getI dX8_addText_19 rfl fl_X8_79 k_o ?_
    refine fr_aload_n (i := 1) (q := 1) rfl dX8_addText_22 rfl ?_
    obtain ⟨hz3, h⟩ := h
    refine fr_aast dX8_addText_23 rfl k_b2 k_a1 hz3 ?_
    refine fr_mem (fun M4 hM4 => ?_)
    have h := h M4 hM4
    have k5 : KM M4.1 o 8 := by rw [hM4]; exact k_o
    have k6 : KM M4.1 a1 6 := by rw [hM4]; exact k_a1
    have k7 : KM M4.1 b1 16 := by rw [hM4]; exact k_b1
    have k8 : KM M4.1 b2 16 := by rw [hM4]; exact k_b2
    refine fr_aload_n (i := 0) (q := 0) rfl dX8_addText_24 rfl ?_
    refine fr_dup rfl dX8_addText_25 rfl ?_
    refine fr_getI dX8_addText_26 rfl fl_X8_79 k5 ?_
    refine fr_iconst (v := 1) (by decide) dX8_addText_29 rfl ?_
    refine fr_iadd dX8_addText_30 rfl ?_
    refine fr_putI dX8_addText_31 rfl fp_X8_79 k5 ?_
    refine fr_mem (fun M9 hM9 => ?_)
    have h := h M9 hM9
    have k10 : KM M9.1 o 8 := by rw [hM9]; exact k5
    have k11 : KM M9.1 a1 6 := by rw [hM9]; exact k6
    have k12 : KM M9.1 b1 16 := by rw [hM9]; exact k7
    have k13 : KM M9.1 b2 16 := by rw [hM9]; exact k8
    refine fr_aload_n (i := 0) (q := 0) rfl dX8_addText_34 rfl ?_
    refine fr_getI dX8_addText_35 rfl fl_X8_79 k10 ?_
    refine fr_iconst (v := 1) (by decide) dX8_addText_38 rfl ?_
    refine fr_isub dX8_addText_39 rfl ?_
    exact fr_iret rfl dX8_addText_40 h.1 h.2
  · have h := h.2 hc
    refine fr_iconst (v := (-1)) (by decide) dX8_addText_12 rfl ?_
    exact fr_iret rfl dX8_addText_13 h.1 h.2
theorem cp_X11_searcher {g : GE} {M : Mem} {r : Option Value} {M' : Mem} {o : Nat} (k_o : KM M.1 o 11) (h : ((mR M o 12 = none → (∀ M2 : Mem, M2 = nw M 7 8 → (∃ b5 : Nat, mR M2 o 5 = some b5 ∧ KM M2.1 b5 3 ∧ (∃ (M6 : Mem), Cl g 3 mu_X7_init [rf g (mx M), rf g b5] M2 none M6 ∧ (∀ M11 : Mem, M11 = sR M6 o (va_up (mR M6 o) 12 (some (mx M))) → ((mR M11 o 12 = none → (r = some (.null) ∧ M' = M11)) ∧ (∀ b15 : Nat, mR M11 o 12 = some b15 → KM M11.1 b15 7 ∧ (r = some (rf g b15) ∧ M' = M11)))))))) ∧ (∀ b1 : Nat, mR M o 12 = some b1 → KM M.1 b1 7 ∧ ((mR M o 12 = none → (r = some (.null) ∧ M' = M)) ∧ (∀ b16 : Nat, mR M o 12 = some b16 → KM M.1 b16 7 ∧ (r = some (rf g b16) ∧ M' = M)))))) : Cl g 4 mu_X11_searcher [rf g o] M r M' := by
  refine cl_of (lv := [(0, rf g o)]) (by decide) (Nat.le_of_ble_eq_true rfl) rfl ?_
  refine fr_aload_n (i := 0) (q := 0) rfl dX11_searcher_0 rfl ?_
  refine fr_getQ dX11_searcher_1 rfl fl_X11_201 k_o ?_
  refine fr_case (fun hq => ?_) (fun b1 hq => ?_)
  · have h := h.1 hq
    refine fr_nnN dX11_searcher_4 rfl ?_
    refine fr_aload_n (i := 0) (q := 0) rfl dX11_searcher_7 rfl ?_
    refine fr_new dX11_searcher_8 rfl nl_X11_186 ?_
    refine fr_mem (fun M2 hM2 => ?_)
    have h := h M2 hM2
    have k3 : KM M2.1 o 11 := by rw [hM2]; exact KM.ext k_o (Ext.nw _ _ _)
    have k4 : KM M2.1 (mx M) 7 := by rw [hM2]; exact KM.nw _ _ _
    refine fr_dup rfl dX11_searcher_11 rfl ?_
    refine fr_aload_n (i := 0) (q := 0) rfl dX11_searcher_12 rfl ?_
    obtain ⟨b5, r_b5, k_b5, h⟩ := h
    refine fr_getR dX11_searcher_13 rfl fl_X11_63 k3 r_b5 ?_
    obtain ⟨M6, hc7, h⟩ := h
    refine fr_callI (ν := mu_X7_init) (As := [rf g b5]) (st := [rf g (mx M), rf g o]) (M1 := M6) rfl rfl dX11_searcher_16 rfl ml_X11_205 mo_X7_init mn_X7_init (Nat.le_of_ble_eq_true rfl) rfl rfl (Nat.le_of_ble_eq_true rfl) hc7 ?_
    have k8 : KM M6.1 o 11 := KM.ext k3 hc7.1
    have k9 : KM M6.1 (mx M) 7 := KM.ext k4 hc7.1
    have k10 : KM M6.1 b5 3 := KM.ext k_b5 hc7.1
    refine fr_putR dX11_searcher_19 rfl fp_X11_201 k8 ?_
    refine fr_mem (fun M11 hM11 => ?_)
    have h := h M11 hM11
    have k12 : KM M11.1 o 11 := by rw [hM11]; exact k8
    have k13 : KM M11.1 (mx M) 7 := by rw [hM11]; exact k9
    have k14 : KM M11.1 b5 3 := by rw [hM11]; exact k10
    refine fr_aload_n (i := 0) (q := 0) rfl dX11_searcher_22 rfl ?_
    refine fr_getQ dX11_searcher_23 rfl fl_X11_201 k12 ?_
    refine fr_case (fun hq => ?_) (fun b15 hq => ?_)
    · have h := h.1 hq
      exact fr_aretN rfl dX11_searcher_26 h.1 h.2
    · obtain ⟨k_b15, h⟩ := h.2 b15 hq
      exact fr_aret rfl dX11_searcher_26 h.1 h.2
  · obtain ⟨k_b1, h⟩ := h.2 b1 hq
    refine fr_nnR (tgt := 22) dX11_searcher_4 (by decide) ?_
    refine fr_aload_n (i := 0) (q := 0) rfl dX11_searcher_22 rfl ?_
    refine fr_getQ dX11_searcher_23 rfl fl_X11_201 k_o ?_
    refine fr_case (fun hq => ?_) (fun b16 hq => ?_)
    · have h := h.1 hq
      exact fr_aretN rfl dX11_searcher_26 h.1 h.2
    · obtain ⟨k_b16, h⟩ := h.2 b16 hq
      exact fr_aret rfl dX11_searcher_26 h.1 h.2
theorem cp_X11_pursuer {g : GE} {M : Mem} {r : Option Value} {M' : Mem} {o : Nat} (k_o : KM M.1 o 11) (h : ((mR M o 13 = none → (∀ M2 : Mem, M2 = nw M 0 11 → (∃ b5 : Nat, mR M2 o 0 = some b5 ∧ KM M2.1 b5 8 ∧ (∃ b6 : Nat, mR M2 o 5 = some b6 ∧ KM M2.1 b6 3 ∧ (∃ (M7 : Mem), Cl g 2 mu_X0_init [rf g (mx M), rf g b5, rf g b6] M2 none M7 ∧ (∀ M13 : Mem, M13 = sR M7 o (va_up (mR M7 o) 13 (some (mx M))) → ((mR M13 o 13 = none → (r = some (.null) ∧ M' = M13)) ∧ (∀ b18 : Nat, mR M13 o 13 = some b18 → KM M13.1 b18 0 ∧ (r = some (rf g b18) ∧ M' = M13))))))))) ∧ (∀ b1 : Nat, mR M o 13 = some b1 → KM M.1 b1 0 ∧ ((mR M o 13 = none → (r = some (.null) ∧ M' = M)) ∧ (∀ b19 : Nat, mR M o 13 = some b19 → KM M.1 b19 0 ∧ (r = some (rf g b19) ∧ M' = M)))))) : Cl g 3 mu_X11_pursuer [rf g o] M r M' := by
  refine cl_of (lv := [(0, rf g o)]) (by decide) (Nat.le_of_ble_eq_true rfl) rfl ?_
  refine fr_aload_n (i := 0) (q := 0) rfl dX11_pursuer_0 rfl ?_
  refine fr_getQ dX11_pursuer_1 rfl fl_X11_297 k_o ?_
  refine fr_case (fun hq => ?_) (fun b1 hq => ?_)
  · have h := h.1 hq
    refine fr_nnN dX11_pursuer_4 rfl ?_
    refine fr_aload_n (i := 0) (q := 0) rfl dX11_pursuer_7 rfl ?_
    refine fr_new dX11_pursuer_8 rfl nl_X11_289 ?_
    refine fr_mem (fun M2 hM2 => ?_)
    have h := h M2 hM2
    have k3 : KM M2.1 o 11 := by rw [hM2]; exact KM.ext k_o (Ext.nw _ _ _)
    have k4 : KM M2.1 (mx M) 0 := by rw [hM2]; exact KM.nw _ _ _
    refine fr_dup rfl dX11_pursuer_11 rfl ?_
    refine fr_aload_n (i := 0) (q := 0) rfl dX11_pursuer_12 rfl ?_
    obtain ⟨b5, r_b5, k_b5, h⟩ := h
    refine fr_getR dX11_pursuer_13 rfl fl_X11_51 k3 r_b5 ?_
    refine fr_aload_n (i := 0) (q := 0) rfl dX11_pursuer_16 rfl ?_
    obtain ⟨b6, r_b6, k_b6, h⟩ := h
    refine fr_getR dX11_pursuer_17 rfl fl_X11_63 k3 r_b6 ?_
    obtain ⟨M7, hc8, h⟩ := h
    refine fr_callI (ν := mu_X0_init) (As := [rf g b5, rf g b6]) (st := [rf g (mx M), rf g o]) (M1 := M7) rfl rfl dX11_pursuer_20 rfl ml_X11_301 mo_X0_init mn_X0_init (Nat.le_of_ble_eq_true rfl) rfl rfl (Nat.le_of_ble_eq_true rfl) hc8 ?_
    have k9 : KM M7.1 o 11 := KM.ext k3 hc8.1
    have k10 : KM M7.1 (mx M) 0 := KM.ext k4 hc8.1
    have k11 : KM M7.1 b5 8 := KM.ext k_b5 hc8.1
    have k12 : KM M7.1 b6 3 := KM.ext k_b6 hc8.1
    refine fr_putR dX11_pursuer_23 rfl fp_X11_297 k9 ?_
    refine fr_mem (fun M13 hM13 => ?_)
    have h := h M13 hM13
    have k14 : KM M13.1 o 11 := by rw [hM13]; exact k9
    have k15 : KM M13.1 (mx M) 0 := by rw [hM13]; exact k10
    have k16 : KM M13.1 b5 8 := by rw [hM13]; exact k11
    have k17 : KM M13.1 b6 3 := by rw [hM13]; exact k12
    refine fr_aload_n (i := 0) (q := 0) rfl dX11_pursuer_26 rfl ?_
    refine fr_getQ dX11_pursuer_27 rfl fl_X11_297 k14 ?_
    refine fr_case (fun hq => ?_) (fun b18 hq => ?_)
    · have h := h.1 hq
      exact fr_aretN rfl dX11_pursuer_30 h.1 h.2
    · obtain ⟨k_b18, h⟩ := h.2 b18 hq
      exact fr_aret rfl dX11_pursuer_30 h.1 h.2
  · obtain ⟨k_b1, h⟩ := h.2 b1 hq
    refine fr_nnR (tgt := 26) dX11_pursuer_4 (by decide) ?_
    refine fr_aload_n (i := 0) (q := 0) rfl dX11_pursuer_26 rfl ?_
    refine fr_getQ dX11_pursuer_27 rfl fl_X11_297 k_o ?_
    refine fr_case (fun hq => ?_) (fun b19 hq => ?_)
    · have h := h.1 hq
      exact fr_aretN rfl dX11_pursuer_30 h.1 h.2
    · obtain ⟨k_b19, h⟩ := h.2 b19 hq
      exact fr_aret rfl dX11_pursuer_30 h.1 h.2
theorem cp_X11_back {g : GE} {M : Mem} {r : Option Value} {M' : Mem} {o : Nat} (k_o : KM M.1 o 11) (h : (∃ b1 : Nat, mR M o 0 = some b1 ∧ KM M.1 b1 8 ∧ (∃ b2 : Nat, mR M o 1 = some b2 ∧ KM M.1 b2 8 ∧ (∃ (M3 : Mem), Cl g 3 mu_X8_copyFrom [rf g b1, rf g b2] M none M3 ∧ (∃ b8 : Nat, mR M3 o 5 = some b8 ∧ KM M3.1 b8 3 ∧ (∃ (M9 : Mem), Cl g 2 mu_X3_forget [rf g b8] M3 none M9 ∧ (∃ b15 : Nat, mR M9 o 0 = some b15 ∧ KM M9.1 b15 8 ∧ (∃ b16 : Nat, mR M9 b15 3 = some b16 ∧ KM M9.1 b16 2 ∧ (∃ (v17 : Int32) (M18 : Mem), Cl g 1 mu_X2_size [rf g b16] M9 (some (.int v17)) M18 ∧ (r = some (.int v17) ∧ M' = M18)))))))))) : Cl g 4 mu_X11_back [rf g o] M r M' := by
  refine cl_of (lv := [(0, rf g o)]) (by decide) (Nat.le_of_ble_eq_true rfl) rfl ?_
  refine fr_aload_n (i := 0) (q := 0) rfl dX11_back_0 rfl ?_
  obtain ⟨b1, r_b1, k_b1, h⟩ := h
  refine fr_getR dX11_back_1 rfl fl_X11_51 k_o r_b1 ?_
  refine fr_aload_n (i := 0) (q := 0) rfl dX11_back_4 rfl ?_
  obtain ⟨b2, r_b2, k_b2, h⟩ := h
  refine fr_getR dX11_back_5 rfl fl_X11_55 k_o r_b2 ?_
  obtain ⟨M3, hc4, h⟩ := h
  refine fr_callV2 (ν := mu_X8_copyFrom) (st2 := []) (As := [rf g b2]) (st := []) (v := none) (M1 := M3) dX11_back_8 rfl ml_X11_302 mo_X8_copyFrom mi_X8_copyFrom (ci := 8) rfl rfl k_b1 (Nat.le_of_ble_eq_true rfl) rfl rfl (Nat.le_of_ble_eq_true rfl) hc4 rfl ?_
  have k5 : KM M3.1 o 11 := KM.ext k_o hc4.1
  have k6 : KM M3.1 b1 8 := KM.ext k_b1 hc4.1
  have k7 : KM M3.1 b2 8 := KM.ext k_b2 hc4.1
  refine fr_aload_n (i := 0) (q := 0) rfl dX11_back_11 rfl ?_
  obtain ⟨b8, r_b8, k_b8, h⟩ := h
  refine fr_getR dX11_back_12 rfl fl_X11_63 k5 r_b8 ?_
  obtain ⟨M9, hc10, h⟩ := h
  refine fr_callV2 (ν := mu_X3_forget) (st2 := []) (As := []) (st := []) (v := none) (M1 := M9) dX11_back_15 rfl ml_X11_99 mo_X3_forget mi_X3_forget (ci := 3) rfl rfl k_b8 (Nat.le_of_ble_eq_true rfl) rfl rfl (Nat.le_of_ble_eq_true rfl) hc10 rfl ?_
  have k11 : KM M9.1 o 11 := KM.ext k5 hc10.1
  have k12 : KM M9.1 b1 8 := KM.ext k6 hc10.1
  have k13 : KM M9.1 b2 8 := KM.ext k7 hc10.1
  have k14 : KM M9.1 b8 3 := KM.ext k_b8 hc10.1
  refine fr_aload_n (i := 0) (q := 0) rfl dX11_back_18 rfl ?_
  obtain ⟨b15, r_b15, k_b15, h⟩ := h
  refine fr_getR dX11_back_19 rfl fl_X11_51 k11 r_b15 ?_
  obtain ⟨b16, r_b16, k_b16, h⟩ := h
  refine fr_getR dX11_back_22 rfl fl_X11_108 k_b15 r_b16 ?_
  obtain ⟨v17, M18, hc19, h⟩ := h
  refine fr_callV2 (ν := mu_X2_size) (st2 := [.int v17]) (As := []) (st := []) (v := (some (.int v17))) (M1 := M18) dX11_back_25 rfl ml_X11_111 mo_X2_size mi_X2_size (ci := 2) rfl rfl k_b16 (Nat.le_of_ble_eq_true rfl) rfl rfl (Nat.le_of_ble_eq_true rfl) hc19 rfl ?_
  have k20 : KM M18.1 o 11 := KM.ext k11 hc19.1
  have k21 : KM M18.1 b1 8 := KM.ext k12 hc19.1
  have k22 : KM M18.1 b2 8 := KM.ext k13 hc19.1
  have k23 : KM M18.1 b8 3 := KM.ext k14 hc19.1
  have k24 : KM M18.1 b15 8 := KM.ext k_b15 hc19.1
  have k25 : KM M18.1 b16 2 := KM.ext k_b16 hc19.1
  exact fr_iret rfl dX11_back_28 h.1 h.2
theorem cp_X11_image {g : GE} {M : Mem} {r : Option Value} {M' : Mem} {o : Nat} (k_o : KM M.1 o 11) (h : (∃ b1 : Nat, mR M o 1 = some b1 ∧ KM M.1 b1 8 ∧ (∃ b2 : Nat, mR M o 0 = some b2 ∧ KM M.1 b2 8 ∧ (∃ (M3 : Mem), Cl g 3 mu_X8_copyFrom [rf g b1, rf g b2] M none M3 ∧ (∃ b8 : Nat, mR M3 o 0 = some b8 ∧ KM M3.1 b8 8 ∧ (∃ b9 : Nat, mR M3 b8 3 = some b9 ∧ KM M3.1 b9 2 ∧ (∃ (v10 : Int32) (M11 : Mem), Cl g 1 mu_X2_size [rf g b9] M3 (some (.int v10)) M11 ∧ (r = some (.int v10) ∧ M' = M11)))))))) : Cl g 4 mu_X11_image [rf g o] M r M' := by
  refine cl_of (lv := [(0, rf g o)]) (by decide) (Nat.le_of_ble_eq_true rfl) rfl ?_
  refine fr_aload_n (i := 0) (q := 0) rfl dX11_image_0 rfl ?_
  obtain ⟨b1, r_b1, k_b1, h⟩ := h
  refine fr_getR dX11_image_1 rfl fl_X11_55 k_o r_b1 ?_
  refine fr_aload_n (i := 0) (q := 0) rfl dX11_image_4 rfl ?_
  obtain ⟨b2, r_b2, k_b2, h⟩ := h
  refine fr_getR dX11_image_5 rfl fl_X11_51 k_o r_b2 ?_
  obtain ⟨M3, hc4, h⟩ := h
  refine fr_callV2 (ν := mu_X8_copyFrom) (st2 := []) (As := [rf g b2]) (st := []) (v := none) (M1 := M3) dX11_image_8 rfl ml_X11_302 mo_X8_copyFrom mi_X8_copyFrom (ci := 8) rfl rfl k_b1 (Nat.le_of_ble_eq_true rfl) rfl rfl (Nat.le_of_ble_eq_true rfl) hc4 rfl ?_
  have k5 : KM M3.1 o 11 := KM.ext k_o hc4.1
  have k6 : KM M3.1 b1 8 := KM.ext k_b1 hc4.1
  have k7 : KM M3.1 b2 8 := KM.ext k_b2 hc4.1
  refine fr_aload_n (i := 0) (q := 0) rfl dX11_image_11 rfl ?_
  obtain ⟨b8, r_b8, k_b8, h⟩ := h
  refine fr_getR dX11_image_12 rfl fl_X11_51 k5 r_b8 ?_
  obtain ⟨b9, r_b9, k_b9, h⟩ := h
  refine fr_getR dX11_image_15 rfl fl_X11_108 k_b8 r_b9 ?_
  obtain ⟨v10, M11, hc12, h⟩ := h
  refine fr_callV2 (ν := mu_X2_size) (st2 := [.int v10]) (As := []) (st := []) (v := (some (.int v10))) (M1 := M11) dX11_image_18 rfl ml_X11_111 mo_X2_size mi_X2_size (ci := 2) rfl rfl k_b9 (Nat.le_of_ble_eq_true rfl) rfl rfl (Nat.le_of_ble_eq_true rfl) hc12 rfl ?_
  have k13 : KM M11.1 o 11 := KM.ext k5 hc12.1
  have k14 : KM M11.1 b1 8 := KM.ext k6 hc12.1
  have k15 : KM M11.1 b2 8 := KM.ext k7 hc12.1
  have k16 : KM M11.1 b8 8 := KM.ext k_b8 hc12.1
  have k17 : KM M11.1 b9 2 := KM.ext k_b9 hc12.1
  exact fr_iret rfl dX11_image_21 h.1 h.2
abbrev Lp_X11_fewest_72 (g : GE) (d : Nat) (o : Nat) (u1 : Int32) (u2 : Int32) (u4 : Int32) (a5 : Nat) (u6 : Int32) (M : Mem) (r : Option Value) (M' : Mem) : Prop := Fr g d mu_X11_fewest 72 [(0, rf g o), (1, .int u1), (2, .int u2), (4, .int u4), (5, rf g a5), (6, .int u6)] [] M r M'
theorem cp_X11_fewest {g : GE} {M : Mem} {r : Option Value} {M' : Mem} {o : Nat} {x1 : Int32} {x2 : Int32} {x3 : Int32} {x4 : Int32} (k_o : KM M.1 o 11) (h : ((x1 ≤ 0 → (r = some (.int ((-1))) ∧ M' = M)) ∧ (¬ x1 ≤ 0 → (∃ b1 : Nat, mR M o 0 = some b1 ∧ KM M.1 b1 8 ∧ (((1 <<< ((mI M b1 14) &&& 31)) ≤ x1 → (r = some (.int ((-1))) ∧ M' = M)) ∧ (¬ (1 <<< ((mI M b1 14) &&& 31)) ≤ x1 → (∃ (v2 : Int32) (M3 : Mem), Cl g 1 mu_J6_bitCount_0f7a4 [.int x1] M (some (.int v2)) M3 ∧ ((v2 ≤ 3 → (∃ b7 : Nat, mR M3 o 0 = some b7 ∧ KM M3.1 b7 8 ∧ (∃ (v8 : Int32) (M9 : Mem), Cl g 2 mu_X8_isPose [rf g b7, .int x2] M3 (some (.int v8)) M9 ∧ ((v8 = 0 → (r = some (.int ((-1))) ∧ M' = M9)) ∧ (¬ v8 = 0 → (∃ b14 : Nat, mR M9 o 0 = some b14 ∧ KM M9.1 b14 8 ∧ (∃ (v15 : Int32) (M16 : Mem), Cl g 1 mu_X8_isCell [rf g b14, .int x3] M9 (some (.int v15)) M16 ∧ ((v15 = 0 → (r = some (.int ((-1))) ∧ M' = M16)) ∧ (¬ v15 = 0 → ((((-1)) ≤ x4 → (∃ (b22 : Nat) (M23 : Mem), Cl g 4 mu_X11_searcher [rf g o] M16 (some (rf g b22)) M23 ∧ KM M23.1 b22 7 ∧ (∃ (M29 : Mem), Cl g 3 mu_X7_goTo [rf g b22, .int x3] M23 none M29 ∧ Lp_X11_fewest_72 g 8 o x1 x2 x4 b22 0 M29 r M'))) ∧ (¬ ((-1)) ≤ x4 → (r = some (.int ((-1))) ∧ M' = M16)))))))))))) ∧ (¬ v2 ≤ 3 → (r = some (.int ((-1))) ∧ M' = M3)))))))))) : Cl g 8 mu_X11_fewest [rf g o, .int x1, .int x2, .int x3, .int x4] M r M' := by
  refine cl_of (lv := [(0, rf g o), (1, .int x1), (2, .int x2), (3, .int x3), (4, .int x4)]) (by decide) (Nat.le_of_ble_eq_true rfl) rfl ?_
  refine fr_iload_n (i := 1) (q := 1) rfl dX11_fewest_0 rfl ?_
  refine fr_if_le (tgt := 25) dX11_fewest_1 (by decide) rfl (fun hc => ?_) (fun hc => ?_)
  · have h := h.1 hc
    refine fr_iconst (v := (-1)) (by decide) dX11_fewest_25 rfl ?_
    exact fr_iret rfl dX11_fewest_26 h.1 h.2
  · have h := h.2 hc
    refine fr_iload_n (i := 1) (q := 1) rfl dX11_fewest_4 rfl ?_
    refine fr_iconst (v := 1) (by decide) dX11_fewest_5 rfl ?_
    refine fr_aload_n (i := 0) (q := 0) rfl dX11_fewest_6 rfl ?_
    obtain ⟨b1, r_b1, k_b1, h⟩ := h
    refine fr_getR dX11_fewest_7 rfl fl_X11_51 k_o r_b1 ?_
    refine fr_getI dX11_fewest_10 rfl fl_X11_127 k_b1 ?_
    refine fr_ishl dX11_fewest_13 rfl ?_
    refine fr_icmp_ge (tgt := 25) dX11_fewest_14 (by decide) rfl (fun hc => ?_) (fun hc => ?_)
    · have h := h.1 hc
      refine fr_iconst (v := (-1)) (by decide) dX11_fewest_25 rfl ?_
      exact fr_iret rfl dX11_fewest_26 h.1 h.2
    · have h := h.2 hc
      refine fr_iload_n (i := 1) (q := 1) rfl dX11_fewest_17 rfl ?_
      obtain ⟨v2, M3, hc4, h⟩ := h
      refine fr_callS2 (ν := mu_J6_bitCount_0f7a4) (st2 := [.int v2]) (As := [.int x1]) (st := []) (v := (some (.int v2))) (M1 := M3) dX11_fewest_18 rfl ml_X11_176 mo_J6_bitCount_0f7a4 ms_J6_bitCount_0f7a4 (Nat.le_of_ble_eq_true rfl) rfl rfl (Nat.le_of_ble_eq_true rfl) hc4 rfl ?_
      have k5 : KM M3.1 o 11 := KM.ext k_o hc4.1
      have k6 : KM M3.1 b1 8 := KM.ext k_b1 hc4.1
      refine fr_iconst (v := 3) (by decide) dX11_fewest_21 rfl ?_
      refine fr_icmp_le (tgt := 27) dX11_fewest_22 (by decide) rfl (fun hc => ?_) (fun hc => ?_)
      · have h := h.1 hc
        refine fr_aload_n (i := 0) (q := 0) rfl dX11_fewest_27 rfl ?_
        obtain ⟨b7, r_b7, k_b7, h⟩ := h
        refine fr_getR dX11_fewest_28 rfl fl_X11_51 k5 r_b7 ?_
        refine fr_iload_n (i := 2) (q := 2) rfl dX11_fewest_31 rfl ?_
        obtain ⟨v8, M9, hc10, h⟩ := h
        refine fr_callV2 (ν := mu_X8_isPose) (st2 := [.int v8]) (As := [.int x2]) (st := []) (v := (some (.int v8))) (M1 := M9) dX11_fewest_32 rfl ml_X11_102 mo_X8_isPose mi_X8_isPose (ci := 8) rfl rfl k_b7 (Nat.le_of_ble_eq_true rfl) rfl rfl (Nat.le_of_ble_eq_true rfl) hc10 rfl ?_
        have k11 : KM M9.1 o 11 := KM.ext k5 hc10.1
        have k12 : KM M9.1 b1 8 := KM.ext k6 hc10.1
        have k13 : KM M9.1 b7 8 := KM.ext k_b7 hc10.1
        refine fr_if_eq (tgt := 55) dX11_fewest_35 (by decide) rfl (fun hc => ?_) (fun hc => ?_)
        · have h := h.1 hc
          refine fr_iconst (v := (-1)) (by decide) dX11_fewest_55 rfl ?_
          exact fr_iret rfl dX11_fewest_56 h.1 h.2
        · have h := h.2 hc
          refine fr_aload_n (i := 0) (q := 0) rfl dX11_fewest_38 rfl ?_
          obtain ⟨b14, r_b14, k_b14, h⟩ := h
          refine fr_getR dX11_fewest_39 rfl fl_X11_51 k11 r_b14 ?_
          refine fr_iload_n (i := 3) (q := 3) rfl dX11_fewest_42 rfl ?_
          obtain ⟨v15, M16, hc17, h⟩ := h
          refine fr_callV2 (ν := mu_X8_isCell) (st2 := [.int v15]) (As := [.int x3]) (st := []) (v := (some (.int v15))) (M1 := M16) dX11_fewest_43 rfl ml_X11_83 mo_X8_isCell mi_X8_isCell (ci := 8) rfl rfl k_b14 (Nat.le_of_ble_eq_true rfl) rfl rfl (Nat.le_of_ble_eq_true rfl) hc17 rfl ?_
          have k18 : KM M16.1 o 11 := KM.ext k11 hc17.1
          have k19 : KM M16.1 b1 8 := KM.ext k12 hc17.1
          have k20 : KM M16.1 b7 8 := KM.ext k13 hc17.1
          have k21 : KM M16.1 b14 8 := KM.ext k_b14 hc17.1
          refine fr_if_eq (tgt := 55) dX11_fewest_46 (by decide) rfl (fun hc => ?_) (fun hc => ?_)
          · have h := h.1 hc
            refine fr_iconst (v := (-1)) (by decide) dX11_fewest_55 rfl ?_
            exact fr_iret rfl dX11_fewest_56 h.1 h.2
          · have h := h.2 hc
            refine fr_iload (q := 4) rfl dX11_fewest_49 rfl ?_
            refine fr_iconst (v := (-1)) (by decide) dX11_fewest_51 rfl ?_
            refine fr_icmp_ge (tgt := 57) dX11_fewest_52 (by decide) rfl (fun hc => ?_) (fun hc => ?_)
            · have h := h.1 hc
              refine fr_aload_n (i := 0) (q := 0) rfl dX11_fewest_57 rfl ?_
              obtain ⟨b22, M23, hc24, k_b22, h⟩ := h
              refine fr_callV2 (ν := mu_X11_searcher) (st2 := [rf g b22]) (As := []) (st := []) (v := (some (rf g b22))) (M1 := M23) dX11_fewest_58 rfl ml_X11_181 mo_X11_searcher mi_X11_searcher (ci := 11) rfl rfl k18 (Nat.le_of_ble_eq_true rfl) rfl rfl (Nat.le_of_ble_eq_true rfl) hc24 rfl ?_
              have k25 : KM M23.1 o 11 := KM.ext k18 hc24.1
              have k26 : KM M23.1 b1 8 := KM.ext k19 hc24.1
              have k27 : KM M23.1 b7 8 := KM.ext k20 hc24.1
              have k28 : KM M23.1 b14 8 := KM.ext k21 hc24.1
              refine fr_astore (lv' := [(5, rf g b22), (0, rf g o), (1, .int x1), (2, .int x2), (3, .int x3), (4, .int x4)]) dX11_fewest_61 rfl (by decide) rfl ?_
              refine fr_aload (q := 0) rfl dX11_fewest_63 rfl ?_
              refine fr_iload_n (i := 3) (q := 4) rfl dX11_fewest_65 rfl ?_
              obtain ⟨M29, hc30, h⟩ := h
              refine fr_callV2 (ν := mu_X7_goTo) (st2 := []) (As := [.int x3]) (st := []) (v := none) (M1 := M29) dX11_fewest_66 rfl ml_X11_185 mo_X7_goTo mi_X7_goTo (ci := 7) rfl rfl k_b22 (Nat.le_of_ble_eq_true rfl) rfl rfl (Nat.le_of_ble_eq_true rfl) hc30 rfl ?_
              have k31 : KM M29.1 o 11 := KM.ext k25 hc30.1
              have k32 : KM M29.1 b1 8 := KM.ext k26 hc30.1
              have k33 : KM M29.1 b7 8 := KM.ext k27 hc30.1
              have k34 : KM M29.1 b14 8 := KM.ext k28 hc30.1
              have k35 : KM M29.1 b22 7 := KM.ext k_b22 hc30.1
              refine fr_iconst (v := 0) (by decide) dX11_fewest_69 rfl ?_
              refine fr_istore (lv' := [(6, .int 0), (5, rf g b22), (0, rf g o), (1, .int x1), (2, .int x2), (3, .int x3), (4, .int x4)]) dX11_fewest_70 rfl (by decide) rfl ?_
              exact fr_sub [2, 3, 4, 6, 1, 0] rfl h
            · have h := h.2 hc
              refine fr_iconst (v := (-1)) (by decide) dX11_fewest_55 rfl ?_
              exact fr_iret rfl dX11_fewest_56 h.1 h.2
      · have h := h.2 hc
        refine fr_iconst (v := (-1)) (by decide) dX11_fewest_25 rfl ?_
        exact fr_iret rfl dX11_fewest_26 h.1 h.2
theorem wp_X11_fewest_72 {g : GE} {M : Mem} {r : Option Value} {M' : Mem} {o : Nat} {u1 : Int32} {u2 : Int32} {u4 : Int32} {a5 : Nat} {u6 : Int32} (k_o : KM M.1 o 11) (k_a5 : KM M.1 a5 7) (h : (∃ b1 : Nat, mR M o 0 = some b1 ∧ KM M.1 b1 8 ∧ (((mI M b1 14) ≤ u6 → (∃ (v2 : Int32) (M3 : Mem), Cl g 7 mu_X7_seek [rf g a5, .int u2] M (some (.int v2)) M3 ∧ (∃ (v8 : Int32) (M9 : Mem), Cl g 2 mu_X11_tapOrCount [rf g a5, .int v2, .int u4] M3 (some (.int v8)) M9 ∧ (r = some (.int v8) ∧ M' = M9)))) ∧ (¬ (mI M b1 14) ≤ u6 → ((¬ ((u1 >>> (u6 &&& 31)) &&& 1) = 1 → (∀ y14 : Int32, y14 = (u6 + 1) → Lp_X11_fewest_72 g 8 o u1 u2 u4 a5 y14 M r M')) ∧ (((u1 >>> (u6 &&& 31)) &&& 1) = 1 → (∃ (M15 : Mem), Cl g 2 mu_X7_add [rf g a5, .int u6] M none M15 ∧ (∀ y20 : Int32, y20 = (u6 + 1) → Lp_X11_fewest_72 g 8 o u1 u2 u4 a5 y20 M15 r M')))))))) : Lp_X11_fewest_72 g 8 o u1 u2 u4 a5 u6 M r M' := by
  refine fr_iload (q := 5) rfl dX11_fewest_72 rfl ?_
  refine fr_aload_n (i := 0) (q := 0) rfl dX11_fewest_74 rfl ?_
  obtain ⟨b1, r_b1, k_b1, h⟩ := h
  refine fr_getR dX11_fewest_75 rfl fl_X11_51 k_o r_b1 ?_
  refine fr_getI dX11_fewest_78 rfl fl_X11_127 k_b1 ?_
  refine fr_icmp_ge (tgt := 107) dX11_fewest_81 (by decide) rfl (fun hc => ?_) (fun hc => ?_)
  · have h := h.1 hc
    refine fr_aload (q := 4) rfl dX11_fewest_107 rfl ?_
    refine fr_aload (q := 4) rfl dX11_fewest_109 rfl ?_
    refine fr_iload_n (i := 2) (q := 2) rfl dX11_fewest_111 rfl ?_
    obtain ⟨v2, M3, hc4, h⟩ := h
    refine fr_callV2 (ν := mu_X7_seek) (st2 := [.int v2, rf g a5]) (As := [.int u2]) (st := [rf g a5]) (v := (some (.int v2))) (M1 := M3) dX11_fewest_112 rfl ml_X11_191 mo_X7_seek mi_X7_seek (ci := 7) rfl rfl k_a5 (Nat.le_of_ble_eq_true rfl) rfl rfl (Nat.le_of_ble_eq_true rfl) hc4 rfl ?_
    have k5 : KM M3.1 o 11 := KM.ext k_o hc4.1
    have k6 : KM M3.1 a5 7 := KM.ext k_a5 hc4.1
    have k7 : KM M3.1 b1 8 := KM.ext k_b1 hc4.1
    refine fr_iload (q := 3) rfl dX11_fewest_115 rfl ?_
    obtain ⟨v8, M9, hc10, h⟩ := h
    refine fr_callS2 (ν := mu_X11_tapOrCount) (st2 := [.int v8]) (As := [rf g a5, .int v2, .int u4]) (st := []) (v := (some (.int v8))) (M1 := M9) dX11_fewest_117 rfl ml_X11_194 mo_X11_tapOrCount ms_X11_tapOrCount (Nat.le_of_ble_eq_true rfl) rfl rfl (Nat.le_of_ble_eq_true rfl) hc10 rfl ?_
    have k11 : KM M9.1 o 11 := KM.ext k5 hc10.1
    have k12 : KM M9.1 a5 7 := KM.ext k6 hc10.1
    have k13 : KM M9.1 b1 8 := KM.ext k7 hc10.1
    exact fr_iret rfl dX11_fewest_120 h.1 h.2
  · have h := h.2 hc
    refine fr_iload_n (i := 1) (q := 1) rfl dX11_fewest_84 rfl ?_
    refine fr_iload (q := 5) rfl dX11_fewest_85 rfl ?_
    refine fr_ishr dX11_fewest_87 rfl ?_
    refine fr_iconst (v := 1) (by decide) dX11_fewest_88 rfl ?_
    refine fr_iand dX11_fewest_89 rfl ?_
    refine fr_iconst (v := 1) (by decide) dX11_fewest_90 rfl ?_
    refine fr_icmp_ne (tgt := 101) dX11_fewest_91 (by decide) rfl (fun hc => ?_) (fun hc => ?_)
    · have h := h.1 hc
      obtain ⟨y14, hy14⟩ : ∃ y : Int32, y = u6 + 1 := ⟨_, rfl⟩
      have h := h y14 hy14
      refine fr_iinc (q := 5) (v := y14) (lv' := [(6, .int y14), (0, rf g o), (1, .int u1), (2, .int u2), (4, .int u4), (5, rf g a5)]) rfl (by rw [hy14]; rfl) dX11_fewest_101 rfl (by decide) rfl ?_
      refine fr_goto (n := 72) dX11_fewest_104 (by decide) ?_
      exact fr_sub [1, 2, 3, 4, 5, 0] rfl h
    · have h := h.2 hc
      refine fr_aload (q := 4) rfl dX11_fewest_94 rfl ?_
      refine fr_iload (q := 5) rfl dX11_fewest_96 rfl ?_
      obtain ⟨M15, hc16, h⟩ := h
      refine fr_callV2 (ν := mu_X7_add) (st2 := []) (As := [.int u6]) (st := []) (v := none) (M1 := M15) dX11_fewest_98 rfl ml_X11_190 mo_X7_add mi_X7_add (ci := 7) rfl rfl k_a5 (Nat.le_of_ble_eq_true rfl) rfl rfl (Nat.le_of_ble_eq_true rfl) hc16 rfl ?_
      have k17 : KM M15.1 o 11 := KM.ext k_o hc16.1
      have k18 : KM M15.1 a5 7 := KM.ext k_a5 hc16.1
      have k19 : KM M15.1 b1 8 := KM.ext k_b1 hc16.1
      obtain ⟨y20, hy20⟩ : ∃ y : Int32, y = u6 + 1 := ⟨_, rfl⟩
      have h := h y20 hy20
      refine fr_iinc (q := 5) (v := y20) (lv' := [(6, .int y20), (0, rf g o), (1, .int u1), (2, .int u2), (4, .int u4), (5, rf g a5)]) rfl (by rw [hy20]; rfl) dX11_fewest_101 rfl (by decide) rfl ?_
      refine fr_goto (n := 72) dX11_fewest_104 (by decide) ?_
      exact fr_sub [1, 2, 3, 4, 5, 0] rfl h
theorem cp_X11_tells {g : GE} {M : Mem} {r : Option Value} {M' : Mem} {o : Nat} {x1 : Int32} {x2 : Int32} {x3 : Int32} {x4 : Int32} (k_o : KM M.1 o 11) (h : (∃ b1 : Nat, mR M o 0 = some b1 ∧ KM M.1 b1 8 ∧ (∃ (v2 : Int32) (M3 : Mem), Cl g 1 mu_X8_isText [rf g b1, .int x1] M (some (.int v2)) M3 ∧ ((v2 = 0 → (r = some (.int ((-1))) ∧ M' = M3)) ∧ (¬ v2 = 0 → (∃ b7 : Nat, mR M3 o 0 = some b7 ∧ KM M3.1 b7 8 ∧ (∃ (v8 : Int32) (M9 : Mem), Cl g 1 mu_X8_isText [rf g b7, .int x2] M3 (some (.int v8)) M9 ∧ ((v8 = 0 → (r = some (.int ((-1))) ∧ M' = M9)) ∧ (¬ v8 = 0 → (∃ b14 : Nat, mR M9 o 0 = some b14 ∧ KM M9.1 b14 8 ∧ (∃ (v15 : Int32) (M16 : Mem), Cl g 2 mu_X8_isPose [rf g b14, .int x3] M9 (some (.int v15)) M16 ∧ ((v15 = 0 → (r = some (.int ((-1))) ∧ M' = M16)) ∧ (¬ v15 = 0 → ((((-1)) ≤ x4 → (∃ (b22 : Nat) (M23 : Mem), Cl g 4 mu_X11_searcher [rf g o] M16 (some (rf g b22)) M23 ∧ KM M23.1 b22 7 ∧ (∃ (M29 : Mem), Cl g 3 mu_X7_goApart [rf g b22] M23 none M29 ∧ (∃ (M36 : Mem), Cl g 2 mu_X7_add [rf g b22, .int x1] M29 none M36 ∧ (∃ (M43 : Mem), Cl g 2 mu_X7_add [rf g b22, .int x2] M36 none M43 ∧ (∃ (v50 : Int32) (M51 : Mem), Cl g 7 mu_X7_seek [rf g b22, .int x3] M43 (some (.int v50)) M51 ∧ (∃ (v58 : Int32) (M59 : Mem), Cl g 2 mu_X11_tapOrCount [rf g b22, .int v50, .int x4] M51 (some (.int v58)) M59 ∧ (r = some (.int v58) ∧ M' = M59)))))))) ∧ (¬ ((-1)) ≤ x4 → (r = some (.int ((-1))) ∧ M' = M16)))))))))))))))) : Cl g 8 mu_X11_tells [rf g o, .int x1, .int x2, .int x3, .int x4] M r M' := by
  refine cl_of (lv := [(0, rf g o), (1, .int x1), (2, .int x2), (3, .int x3), (4, .int x4)]) (by decide) (Nat.le_of_ble_eq_true rfl) rfl ?_
  refine fr_aload_n (i := 0) (q := 0) rfl dX11_tells_0 rfl ?_
  obtain ⟨b1, r_b1, k_b1, h⟩ := h
  refine fr_getR dX11_tells_1 rfl fl_X11_51 k_o r_b1 ?_
  refine fr_iload_n (i := 1) (q := 1) rfl dX11_tells_4 rfl ?_
  obtain ⟨v2, M3, hc4, h⟩ := h
  refine fr_callV2 (ν := mu_X8_isText) (st2 := [.int v2]) (As := [.int x1]) (st := []) (v := (some (.int v2))) (M1 := M3) dX11_tells_5 rfl ml_X11_105 mo_X8_isText mi_X8_isText (ci := 8) rfl rfl k_b1 (Nat.le_of_ble_eq_true rfl) rfl rfl (Nat.le_of_ble_eq_true rfl) hc4 rfl ?_
  have k5 : KM M3.1 o 11 := KM.ext k_o hc4.1
  have k6 : KM M3.1 b1 8 := KM.ext k_b1 hc4.1
  refine fr_if_eq (tgt := 39) dX11_tells_8 (by decide) rfl (fun hc => ?_) (fun hc => ?_)
  · have h := h.1 hc
    refine fr_iconst (v := (-1)) (by decide) dX11_tells_39 rfl ?_
    exact fr_iret rfl dX11_tells_40 h.1 h.2
  · have h := h.2 hc
    refine fr_aload_n (i := 0) (q := 0) rfl dX11_tells_11 rfl ?_
    obtain ⟨b7, r_b7, k_b7, h⟩ := h
    refine fr_getR dX11_tells_12 rfl fl_X11_51 k5 r_b7 ?_
    refine fr_iload_n (i := 2) (q := 2) rfl dX11_tells_15 rfl ?_
    obtain ⟨v8, M9, hc10, h⟩ := h
    refine fr_callV2 (ν := mu_X8_isText) (st2 := [.int v8]) (As := [.int x2]) (st := []) (v := (some (.int v8))) (M1 := M9) dX11_tells_16 rfl ml_X11_105 mo_X8_isText mi_X8_isText (ci := 8) rfl rfl k_b7 (Nat.le_of_ble_eq_true rfl) rfl rfl (Nat.le_of_ble_eq_true rfl) hc10 rfl ?_
    have k11 : KM M9.1 o 11 := KM.ext k5 hc10.1
    have k12 : KM M9.1 b1 8 := KM.ext k6 hc10.1
    have k13 : KM M9.1 b7 8 := KM.ext k_b7 hc10.1
    refine fr_if_eq (tgt := 39) dX11_tells_19 (by decide) rfl (fun hc => ?_) (fun hc => ?_)
    · have h := h.1 hc
      refine fr_iconst (v := (-1)) (by decide) dX11_tells_39 rfl ?_
      exact fr_iret rfl dX11_tells_40 h.1 h.2
    · have h := h.2 hc
      refine fr_aload_n (i := 0) (q := 0) rfl dX11_tells_22 rfl ?_
      obtain ⟨b14, r_b14, k_b14, h⟩ := h
      refine fr_getR dX11_tells_23 rfl fl_X11_51 k11 r_b14 ?_
      refine fr_iload_n (i := 3) (q := 3) rfl dX11_tells_26 rfl ?_
      obtain ⟨v15, M16, hc17, h⟩ := h
      refine fr_callV2 (ν := mu_X8_isPose) (st2 := [.int v15]) (As := [.int x3]) (st := []) (v := (some (.int v15))) (M1 := M16) dX11_tells_27 rfl ml_X11_102 mo_X8_isPose mi_X8_isPose (ci := 8) rfl rfl k_b14 (Nat.le_of_ble_eq_true rfl) rfl rfl (Nat.le_of_ble_eq_true rfl) hc17 rfl ?_
      have k18 : KM M16.1 o 11 := KM.ext k11 hc17.1
      have k19 : KM M16.1 b1 8 := KM.ext k12 hc17.1
      have k20 : KM M16.1 b7 8 := KM.ext k13 hc17.1
      have k21 : KM M16.1 b14 8 := KM.ext k_b14 hc17.1
      refine fr_if_eq (tgt := 39) dX11_tells_30 (by decide) rfl (fun hc => ?_) (fun hc => ?_)
      · have h := h.1 hc
        refine fr_iconst (v := (-1)) (by decide) dX11_tells_39 rfl ?_
        exact fr_iret rfl dX11_tells_40 h.1 h.2
      · have h := h.2 hc
        refine fr_iload (q := 4) rfl dX11_tells_33 rfl ?_
        refine fr_iconst (v := (-1)) (by decide) dX11_tells_35 rfl ?_
        refine fr_icmp_ge (tgt := 41) dX11_tells_36 (by decide) rfl (fun hc => ?_) (fun hc => ?_)
        · have h := h.1 hc
          refine fr_aload_n (i := 0) (q := 0) rfl dX11_tells_41 rfl ?_
          obtain ⟨b22, M23, hc24, k_b22, h⟩ := h
          refine fr_callV2 (ν := mu_X11_searcher) (st2 := [rf g b22]) (As := []) (st := []) (v := (some (rf g b22))) (M1 := M23) dX11_tells_42 rfl ml_X11_181 mo_X11_searcher mi_X11_searcher (ci := 11) rfl rfl k18 (Nat.le_of_ble_eq_true rfl) rfl rfl (Nat.le_of_ble_eq_true rfl) hc24 rfl ?_
          have k25 : KM M23.1 o 11 := KM.ext k18 hc24.1
          have k26 : KM M23.1 b1 8 := KM.ext k19 hc24.1
          have k27 : KM M23.1 b7 8 := KM.ext k20 hc24.1
          have k28 : KM M23.1 b14 8 := KM.ext k21 hc24.1
          refine fr_astore (lv' := [(5, rf g b22), (0, rf g o), (1, .int x1), (2, .int x2), (3, .int x3), (4, .int x4)]) dX11_tells_45 rfl (by decide) rfl ?_
          refine fr_aload (q := 0) rfl dX11_tells_47 rfl ?_
          obtain ⟨M29, hc30, h⟩ := h
          refine fr_callV2 (ν := mu_X7_goApart) (st2 := []) (As := []) (st := []) (v := none) (M1 := M29) dX11_tells_49 rfl ml_X11_198 mo_X7_goApart mi_X7_goApart (ci := 7) rfl rfl k_b22 (Nat.le_of_ble_eq_true rfl) rfl rfl (Nat.le_of_ble_eq_true rfl) hc30 rfl ?_
          have k31 : KM M29.1 o 11 := KM.ext k25 hc30.1
          have k32 : KM M29.1 b1 8 := KM.ext k26 hc30.1
          have k33 : KM M29.1 b7 8 := KM.ext k27 hc30.1
          have k34 : KM M29.1 b14 8 := KM.ext k28 hc30.1
          have k35 : KM M29.1 b22 7 := KM.ext k_b22 hc30.1
          refine fr_aload (q := 0) rfl dX11_tells_52 rfl ?_
          refine fr_iload_n (i := 1) (q := 2) rfl dX11_tells_54 rfl ?_
          obtain ⟨M36, hc37, h⟩ := h
          refine fr_callV2 (ν := mu_X7_add) (st2 := []) (As := [.int x1]) (st := []) (v := none) (M1 := M36) dX11_tells_55 rfl ml_X11_190 mo_X7_add mi_X7_add (ci := 7) rfl rfl k35 (Nat.le_of_ble_eq_true rfl) rfl rfl (Nat.le_of_ble_eq_true rfl) hc37 rfl ?_
          have k38 : KM M36.1 o 11 := KM.ext k31 hc37.1
          have k39 : KM M36.1 b1 8 := KM.ext k32 hc37.1
          have k40 : KM M36.1 b7 8 := KM.ext k33 hc37.1
          have k41 : KM M36.1 b14 8 := KM.ext k34 hc37.1
          have k42 : KM M36.1 b22 7 := KM.ext k35 hc37.1
          refine fr_aload (q := 0) rfl dX11_tells_58 rfl ?_
          refine fr_iload_n (i := 2) (q := 3) rfl dX11_tells_60 rfl ?_
          obtain ⟨M43, hc44, h⟩ := h
          refine fr_callV2 (ν := mu_X7_add) (st2 := []) (As := [.int x2]) (st := []) (v := none) (M1 := M43) dX11_tells_61 rfl ml_X11_190 mo_X7_add mi_X7_add (ci := 7) rfl rfl k42 (Nat.le_of_ble_eq_true rfl) rfl rfl (Nat.le_of_ble_eq_true rfl) hc44 rfl ?_
          have k45 : KM M43.1 o 11 := KM.ext k38 hc44.1
          have k46 : KM M43.1 b1 8 := KM.ext k39 hc44.1
          have k47 : KM M43.1 b7 8 := KM.ext k40 hc44.1
          have k48 : KM M43.1 b14 8 := KM.ext k41 hc44.1
          have k49 : KM M43.1 b22 7 := KM.ext k42 hc44.1
          refine fr_aload (q := 0) rfl dX11_tells_64 rfl ?_
          refine fr_aload (q := 0) rfl dX11_tells_66 rfl ?_
          refine fr_iload_n (i := 3) (q := 4) rfl dX11_tells_68 rfl ?_
          obtain ⟨v50, M51, hc52, h⟩ := h
          refine fr_callV2 (ν := mu_X7_seek) (st2 := [.int v50, rf g b22]) (As := [.int x3]) (st := [rf g b22]) (v := (some (.int v50))) (M1 := M51) dX11_tells_69 rfl ml_X11_191 mo_X7_seek mi_X7_seek (ci := 7) rfl rfl k49 (Nat.le_of_ble_eq_true rfl) rfl rfl (Nat.le_of_ble_eq_true rfl) hc52 rfl ?_
          have k53 : KM M51.1 o 11 := KM.ext k45 hc52.1
          have k54 : KM M51.1 b1 8 := KM.ext k46 hc52.1
          have k55 : KM M51.1 b7 8 := KM.ext k47 hc52.1
          have k56 : KM M51.1 b14 8 := KM.ext k48 hc52.1
          have k57 : KM M51.1 b22 7 := KM.ext k49 hc52.1
          refine fr_iload (q := 5) rfl dX11_tells_72 rfl ?_
          obtain ⟨v58, M59, hc60, h⟩ := h
          refine fr_callS2 (ν := mu_X11_tapOrCount) (st2 := [.int v58]) (As := [rf g b22, .int v50, .int x4]) (st := []) (v := (some (.int v58))) (M1 := M59) dX11_tells_74 rfl ml_X11_194 mo_X11_tapOrCount ms_X11_tapOrCount (Nat.le_of_ble_eq_true rfl) rfl rfl (Nat.le_of_ble_eq_true rfl) hc60 rfl ?_
          have k61 : KM M59.1 o 11 := KM.ext k53 hc60.1
          have k62 : KM M59.1 b1 8 := KM.ext k54 hc60.1
          have k63 : KM M59.1 b7 8 := KM.ext k55 hc60.1
          have k64 : KM M59.1 b14 8 := KM.ext k56 hc60.1
          have k65 : KM M59.1 b22 7 := KM.ext k57 hc60.1
          exact fr_iret rfl dX11_tells_77 h.1 h.2
        · have h := h.2 hc
          refine fr_iconst (v := (-1)) (by decide) dX11_tells_39 rfl ?_
          exact fr_iret rfl dX11_tells_40 h.1 h.2
theorem cp_X11_chase {g : GE} {M : Mem} {r : Option Value} {M' : Mem} {o : Nat} {x1 : Int32} {x2 : Int32} {x3 : Int32} {x4 : Int32} (k_o : KM M.1 o 11) (h : (∃ (v1 : Int32) (M2 : Mem), Cl g 3 mu_X11_isChase [rf g o, .int x1, .int x2, .int x3, .int x4] M (some (.int v1)) M2 ∧ ((¬ v1 = 0 → (∃ (b5 : Nat) (M6 : Mem), Cl g 3 mu_X11_pursuer [rf g o] M2 (some (rf g b5)) M6 ∧ KM M6.1 b5 0 ∧ (∃ (v9 : Int32) (M10 : Mem), Cl g 7 mu_X0_turns [rf g b5, .int x1, .int x2, .int x3, .int x4] M6 (some (.int v9)) M10 ∧ (r = some (.int v9) ∧ M' = M10)))) ∧ (v1 = 0 → (r = some (.int ((-1))) ∧ M' = M2))))) : Cl g 8 mu_X11_chase [rf g o, .int x1, .int x2, .int x3, .int x4] M r M' := by
  refine cl_of (lv := [(0, rf g o), (1, .int x1), (2, .int x2), (3, .int x3), (4, .int x4)]) (by decide) (Nat.le_of_ble_eq_true rfl) rfl ?_
  refine fr_aload_n (i := 0) (q := 0) rfl dX11_chase_0 rfl ?_
  refine fr_iload_n (i := 1) (q := 1) rfl dX11_chase_1 rfl ?_
  refine fr_iload_n (i := 2) (q := 2) rfl dX11_chase_2 rfl ?_
  refine fr_iload_n (i := 3) (q := 3) rfl dX11_chase_3 rfl ?_
  refine fr_iload (q := 4) rfl dX11_chase_4 rfl ?_
  obtain ⟨v1, M2, hc3, h⟩ := h
  refine fr_callV2 (ν := mu_X11_isChase) (st2 := [.int v1]) (As := [.int x1, .int x2, .int x3, .int x4]) (st := []) (v := (some (.int v1))) (M1 := M2) dX11_chase_6 rfl ml_X11_280 mo_X11_isChase mi_X11_isChase (ci := 11) rfl rfl k_o (Nat.le_of_ble_eq_true rfl) rfl rfl (Nat.le_of_ble_eq_true rfl) hc3 rfl ?_
  have k4 : KM M2.1 o 11 := KM.ext k_o hc3.1
  refine fr_if_ne (tgt := 14) dX11_chase_9 (by decide) rfl (fun hc => ?_) (fun hc => ?_)
  · have h := h.1 hc
    refine fr_aload_n (i := 0) (q := 0) rfl dX11_chase_14 rfl ?_
    obtain ⟨b5, M6, hc7, k_b5, h⟩ := h
    refine fr_callV2 (ν := mu_X11_pursuer) (st2 := [rf g b5]) (As := []) (st := []) (v := (some (rf g b5))) (M1 := M6) dX11_chase_15 rfl ml_X11_284 mo_X11_pursuer mi_X11_pursuer (ci := 11) rfl rfl k4 (Nat.le_of_ble_eq_true rfl) rfl rfl (Nat.le_of_ble_eq_true rfl) hc7 rfl ?_
    have k8 : KM M6.1 o 11 := KM.ext k4 hc7.1
    refine fr_iload_n (i := 1) (q := 1) rfl dX11_chase_18 rfl ?_
    refine fr_iload_n (i := 2) (q := 2) rfl dX11_chase_19 rfl ?_
    refine fr_iload_n (i := 3) (q := 3) rfl dX11_chase_20 rfl ?_
    refine fr_iload (q := 4) rfl dX11_chase_21 rfl ?_
    obtain ⟨v9, M10, hc11, h⟩ := h
    refine fr_callV2 (ν := mu_X0_turns) (st2 := [.int v9]) (As := [.int x1, .int x2, .int x3, .int x4]) (st := []) (v := (some (.int v9))) (M1 := M10) dX11_chase_23 rfl ml_X11_288 mo_X0_turns mi_X0_turns (ci := 0) rfl rfl k_b5 (Nat.le_of_ble_eq_true rfl) rfl rfl (Nat.le_of_ble_eq_true rfl) hc11 rfl ?_
    have k12 : KM M10.1 o 11 := KM.ext k8 hc11.1
    have k13 : KM M10.1 b5 0 := KM.ext k_b5 hc11.1
    exact fr_iret rfl dX11_chase_26 h.1 h.2
  · have h := h.2 hc
    refine fr_iconst (v := (-1)) (by decide) dX11_chase_12 rfl ?_
    exact fr_iret rfl dX11_chase_13 h.1 h.2
theorem cp_X11_hunt {g : GE} {M : Mem} {r : Option Value} {M' : Mem} {o : Nat} {x1 : Int32} {x2 : Int32} {x3 : Int32} {x4 : Int32} (k_o : KM M.1 o 11) (h : (∃ (v1 : Int32) (M2 : Mem), Cl g 3 mu_X11_isChase [rf g o, .int x1, .int x2, .int x3, .int x4] M (some (.int v1)) M2 ∧ ((¬ v1 = 0 → (∃ (b5 : Nat) (M6 : Mem), Cl g 3 mu_X11_pursuer [rf g o] M2 (some (rf g b5)) M6 ∧ KM M6.1 b5 0 ∧ (∃ (v9 : Int32) (M10 : Mem), Cl g 7 mu_X0_turns [rf g b5, .int x1, .int x2, .int x3, .int x4] M6 (some (.int v9)) M10 ∧ ((0 < v9 → (∃ (b14 : Nat) (M15 : Mem), Cl g 3 mu_X11_pursuer [rf g o] M10 (some (rf g b14)) M15 ∧ KM M15.1 b14 0 ∧ (∃ (v19 : Int32) (M20 : Mem), Cl g 6 mu_X0_firstTap [rf g b14, .int x1, .int x2, .int x4, .int v9] M15 (some (.int v19)) M20 ∧ (r = some (.int v19) ∧ M' = M20)))) ∧ (¬ 0 < v9 → (r = some (.int ((-1))) ∧ M' = M10)))))) ∧ (v1 = 0 → (r = some (.int ((-1))) ∧ M' = M2))))) : Cl g 8 mu_X11_hunt [rf g o, .int x1, .int x2, .int x3, .int x4] M r M' := by
  refine cl_of (lv := [(0, rf g o), (1, .int x1), (2, .int x2), (3, .int x3), (4, .int x4)]) (by decide) (Nat.le_of_ble_eq_true rfl) rfl ?_
  refine fr_aload_n (i := 0) (q := 0) rfl dX11_hunt_0 rfl ?_
  refine fr_iload_n (i := 1) (q := 1) rfl dX11_hunt_1 rfl ?_
  refine fr_iload_n (i := 2) (q := 2) rfl dX11_hunt_2 rfl ?_
  refine fr_iload_n (i := 3) (q := 3) rfl dX11_hunt_3 rfl ?_
  refine fr_iload (q := 4) rfl dX11_hunt_4 rfl ?_
  obtain ⟨v1, M2, hc3, h⟩ := h
  refine fr_callV2 (ν := mu_X11_isChase) (st2 := [.int v1]) (As := [.int x1, .int x2, .int x3, .int x4]) (st := []) (v := (some (.int v1))) (M1 := M2) dX11_hunt_6 rfl ml_X11_280 mo_X11_isChase mi_X11_isChase (ci := 11) rfl rfl k_o (Nat.le_of_ble_eq_true rfl) rfl rfl (Nat.le_of_ble_eq_true rfl) hc3 rfl ?_
  have k4 : KM M2.1 o 11 := KM.ext k_o hc3.1
  refine fr_if_ne (tgt := 14) dX11_hunt_9 (by decide) rfl (fun hc => ?_) (fun hc => ?_)
  · have h := h.1 hc
    refine fr_aload_n (i := 0) (q := 0) rfl dX11_hunt_14 rfl ?_
    obtain ⟨b5, M6, hc7, k_b5, h⟩ := h
    refine fr_callV2 (ν := mu_X11_pursuer) (st2 := [rf g b5]) (As := []) (st := []) (v := (some (rf g b5))) (M1 := M6) dX11_hunt_15 rfl ml_X11_284 mo_X11_pursuer mi_X11_pursuer (ci := 11) rfl rfl k4 (Nat.le_of_ble_eq_true rfl) rfl rfl (Nat.le_of_ble_eq_true rfl) hc7 rfl ?_
    have k8 : KM M6.1 o 11 := KM.ext k4 hc7.1
    refine fr_iload_n (i := 1) (q := 1) rfl dX11_hunt_18 rfl ?_
    refine fr_iload_n (i := 2) (q := 2) rfl dX11_hunt_19 rfl ?_
    refine fr_iload_n (i := 3) (q := 3) rfl dX11_hunt_20 rfl ?_
    refine fr_iload (q := 4) rfl dX11_hunt_21 rfl ?_
    obtain ⟨v9, M10, hc11, h⟩ := h
    refine fr_callV2 (ν := mu_X0_turns) (st2 := [.int v9]) (As := [.int x1, .int x2, .int x3, .int x4]) (st := []) (v := (some (.int v9))) (M1 := M10) dX11_hunt_23 rfl ml_X11_288 mo_X0_turns mi_X0_turns (ci := 0) rfl rfl k_b5 (Nat.le_of_ble_eq_true rfl) rfl rfl (Nat.le_of_ble_eq_true rfl) hc11 rfl ?_
    have k12 : KM M10.1 o 11 := KM.ext k8 hc11.1
    have k13 : KM M10.1 b5 0 := KM.ext k_b5 hc11.1
    refine fr_istore (lv' := [(5, .int v9), (0, rf g o), (1, .int x1), (2, .int x2), (3, .int x3), (4, .int x4)]) dX11_hunt_26 rfl (by decide) rfl ?_
    refine fr_iload (q := 0) rfl dX11_hunt_28 rfl ?_
    refine fr_if_gt (tgt := 37) dX11_hunt_30 (by decide) rfl (fun hc => ?_) (fun hc => ?_)
    · have h := h.1 hc
      refine fr_aload_n (i := 0) (q := 1) rfl dX11_hunt_37 rfl ?_
      obtain ⟨b14, M15, hc16, k_b14, h⟩ := h
      refine fr_callV2 (ν := mu_X11_pursuer) (st2 := [rf g b14]) (As := []) (st := []) (v := (some (rf g b14))) (M1 := M15) dX11_hunt_38 rfl ml_X11_284 mo_X11_pursuer mi_X11_pursuer (ci := 11) rfl rfl k12 (Nat.le_of_ble_eq_true rfl) rfl rfl (Nat.le_of_ble_eq_true rfl) hc16 rfl ?_
      have k17 : KM M15.1 o 11 := KM.ext k12 hc16.1
      have k18 : KM M15.1 b5 0 := KM.ext k13 hc16.1
      refine fr_iload_n (i := 1) (q := 2) rfl dX11_hunt_41 rfl ?_
      refine fr_iload_n (i := 2) (q := 3) rfl dX11_hunt_42 rfl ?_
      refine fr_iload (q := 5) rfl dX11_hunt_43 rfl ?_
      refine fr_iload (q := 0) rfl dX11_hunt_45 rfl ?_
      obtain ⟨v19, M20, hc21, h⟩ := h
      refine fr_callV2 (ν := mu_X0_firstTap) (st2 := [.int v19]) (As := [.int x1, .int x2, .int x4, .int v9]) (st := []) (v := (some (.int v19))) (M1 := M20) dX11_hunt_47 rfl ml_X11_294 mo_X0_firstTap mi_X0_firstTap (ci := 0) rfl rfl k_b14 (Nat.le_of_ble_eq_true rfl) rfl rfl (Nat.le_of_ble_eq_true rfl) hc21 rfl ?_
      have k22 : KM M20.1 o 11 := KM.ext k17 hc21.1
      have k23 : KM M20.1 b5 0 := KM.ext k18 hc21.1
      have k24 : KM M20.1 b14 0 := KM.ext k_b14 hc21.1
      exact fr_iret rfl dX11_hunt_50 h.1 h.2
    · have h := h.2 hc
      refine fr_iconst (v := (-1)) (by decide) dX11_hunt_33 rfl ?_
      refine fr_goto (n := 50) dX11_hunt_34 (by decide) ?_
      exact fr_iret rfl dX11_hunt_50 h.1 h.2
  · have h := h.2 hc
    refine fr_iconst (v := (-1)) (by decide) dX11_hunt_12 rfl ?_
    exact fr_iret rfl dX11_hunt_13 h.1 h.2
theorem cp_X11_text {g : GE} {M : Mem} {r : Option Value} {M' : Mem} {o : Nat} (k_o : KM M.1 o 11) (h : (∃ b1 : Nat, mR M o 0 = some b1 ∧ KM M.1 b1 8 ∧ (((mI M b1 14) < 4 → (∃ b2 : Nat, mR M o 3 = some b2 ∧ KM M.1 b2 5 ∧ (∃ b3 : Nat, mR M o 2 = some b3 ∧ KM M.1 b3 2 ∧ (∃ (v4 : Option Nat) (M5 : Mem), Cl g 82 mu_X5_read [rf g b2, rf g b3] M (some (rv g v4)) M5 ∧ ((v4 = none → (∃ b12 : Nat, mR M5 o 2 = some b12 ∧ KM M5.1 b12 2 ∧ (∃ (M13 : Mem), Cl g 2 mu_X2_cutTo [rf g b12, .int 0] M5 none M13 ∧ (∃ b20 : Nat, mR M13 o 3 = some b20 ∧ KM M13.1 b20 5 ∧ (∃ (v21 : Int32) (M22 : Mem), Cl g 1 mu_X5_found [rf g b20] M13 (some (.int v21)) M22 ∧ (∀ M30 : Mem, M30 = sI M22 o (upd (mI M22 o) 10 v21) → (∃ b37 : Nat, mR M30 o 3 = some b37 ∧ KM M30.1 b37 5 ∧ (∃ (v38 : Int32) (M39 : Mem), Cl g 1 mu_X5_foundAt [rf g b37] M30 (some (.int v38)) M39 ∧ (∀ M48 : Mem, M48 = sI M39 o (upd (mI M39 o) 11 v38) → (r = some (.int ((-1))) ∧ M' = M48)))))))))) ∧ (∀ b11 : Nat, v4 = some b11 → KM M5.1 b11 6 ∧ (∃ b56 : Nat, mR M5 o 2 = some b56 ∧ KM M5.1 b56 2 ∧ (∃ (M57 : Mem), Cl g 2 mu_X2_cutTo [rf g b56, .int 0] M5 none M57 ∧ (∃ b65 : Nat, mR M57 o 3 = some b65 ∧ KM M57.1 b65 5 ∧ (∃ (v66 : Int32) (M67 : Mem), Cl g 1 mu_X5_found [rf g b65] M57 (some (.int v66)) M67 ∧ (∀ M76 : Mem, M76 = sI M67 o (upd (mI M67 o) 10 v66) → (∃ b84 : Nat, mR M76 o 3 = some b84 ∧ KM M76.1 b84 5 ∧ (∃ (v85 : Int32) (M86 : Mem), Cl g 1 mu_X5_foundAt [rf g b84] M76 (some (.int v85)) M86 ∧ (∀ M96 : Mem, M96 = sI M86 o (upd (mI M86 o) 11 v85) → (∃ b105 : Nat, mR M96 o 0 = some b105 ∧ KM M96.1 b105 8 ∧ (∃ (v106 : Int32) (M107 : Mem), Cl g 1 mu_X8_addText [rf g b105, rf g b11] M96 (some (.int v106)) M107 ∧ (r = some (.int v106) ∧ M' = M107))))))))))))))))) ∧ (¬ (mI M b1 14) < 4 → (r = some (.int ((-1))) ∧ M' = M))))) : Cl g 83 mu_X11_text [rf g o] M r M' := by
  refine cl_of (lv := [(0, rf g o)]) (by decide) (Nat.le_of_ble_eq_true rfl) rfl ?_
  refine fr_aload_n (i := 0) (q := 0) rfl dX11_text_0 rfl ?_
  obtain ⟨b1, r_b1, k_b1, h⟩ := h
  refine fr_getR dX11_text_1 rfl fl_X11_51 k_o r_b1 ?_
  refine fr_getI dX11_text_4 rfl fl_X11_127 k_b1 ?_
  refine fr_iconst (v := 4) (by decide) dX11_text_7 rfl ?_
  refine fr_icmp_lt (tgt := 13) dX11_text_8 (by decide) rfl (fun hc => ?_) (fun hc => ?_)
  · have h := h.1 hc
    refine fr_aload_n (i := 0) (q := 0) rfl dX11_text_13 rfl ?_
    obtain ⟨b2, r_b2, k_b2, h⟩ := h
    refine fr_getR dX11_text_14 rfl fl_X11_21 k_o r_b2 ?_
    refine fr_aload_n (i := 0) (q := 0) rfl dX11_text_17 rfl ?_
    obtain ⟨b3, r_b3, k_b3, h⟩ := h
    refine fr_getR dX11_text_18 rfl fl_X11_14 k_o r_b3 ?_
    obtain ⟨v4, M5, hc6, h⟩ := h
    refine fr_callV2 (ν := mu_X5_read) (st2 := [rv g v4]) (As := [rf g b3]) (st := []) (v := (some (rv g v4))) (M1 := M5) dX11_text_21 rfl ml_X11_130 mo_X5_read mi_X5_read (ci := 5) rfl rfl k_b2 (Nat.le_of_ble_eq_true rfl) rfl rfl (Nat.le_of_ble_eq_true rfl) hc6 rfl ?_
    have k7 : KM M5.1 o 11 := KM.ext k_o hc6.1
    have k8 : KM M5.1 b1 8 := KM.ext k_b1 hc6.1
    have k9 : KM M5.1 b2 5 := KM.ext k_b2 hc6.1
    have k10 : KM M5.1 b3 2 := KM.ext k_b3 hc6.1
    refine fr_case (fun hq => ?_) (fun b11 hq => ?_)
    · have h := h.1 hq
      refine fr_astore_nN (i := 1) (lv' := [(1, .null), (0, rf g o)]) dX11_text_24 rfl (by decide) rfl ?_
      refine fr_aload_n (i := 0) (q := 1) rfl dX11_text_25 rfl ?_
      obtain ⟨b12, r_b12, k_b12, h⟩ := h
      refine fr_getR dX11_text_26 rfl fl_X11_14 k7 r_b12 ?_
      refine fr_iconst (v := 0) (by decide) dX11_text_29 rfl ?_
      obtain ⟨M13, hc14, h⟩ := h
      refine fr_callV2 (ν := mu_X2_cutTo) (st2 := []) (As := [.int 0]) (st := []) (v := none) (M1 := M13) dX11_text_30 rfl ml_X11_124 mo_X2_cutTo mi_X2_cutTo (ci := 2) rfl rfl k_b12 (Nat.le_of_ble_eq_true rfl) rfl rfl (Nat.le_of_ble_eq_true rfl) hc14 rfl ?_
      have k15 : KM M13.1 o 11 := KM.ext k7 hc14.1
      have k16 : KM M13.1 b1 8 := KM.ext k8 hc14.1
      have k17 : KM M13.1 b2 5 := KM.ext k9 hc14.1
      have k18 : KM M13.1 b3 2 := KM.ext k10 hc14.1
      have k19 : KM M13.1 b12 2 := KM.ext k_b12 hc14.1
      refine fr_aload_n (i := 0) (q := 1) rfl dX11_text_33 rfl ?_
      refine fr_aload_n (i := 0) (q := 1) rfl dX11_text_34 rfl ?_
      obtain ⟨b20, r_b20, k_b20, h⟩ := h
      refine fr_getR dX11_text_35 rfl fl_X11_21 k15 r_b20 ?_
      obtain ⟨v21, M22, hc23, h⟩ := h
      refine fr_callV2 (ν := mu_X5_found) (st2 := [.int v21, rf g o]) (As := []) (st := [rf g o]) (v := (some (.int v21))) (M1 := M22) dX11_text_38 rfl ml_X11_134 mo_X5_found mi_X5_found (ci := 5) rfl rfl k_b20 (Nat.le_of_ble_eq_true rfl) rfl rfl (Nat.le_of_ble_eq_true rfl) hc23 rfl ?_
      have k24 : KM M22.1 o 11 := KM.ext k15 hc23.1
      have k25 : KM M22.1 b1 8 := KM.ext k16 hc23.1
      have k26 : KM M22.1 b2 5 := KM.ext k17 hc23.1
      have k27 : KM M22.1 b3 2 := KM.ext k18 hc23.1
      have k28 : KM M22.1 b12 2 := KM.ext k19 hc23.1
      have k29 : KM M22.1 b20 5 := KM.ext k_b20 hc23.1
      refine fr_putI dX11_text_41 rfl fp_X11_39 k24 ?_
      refine fr_mem (fun M30 hM30 => ?_)
      have h := h M30 hM30
      have k31 : KM M30.1 o 11 := by rw [hM30]; exact k24
      have k32 : KM M30.1 b1 8 := by rw [hM30]; exact k25
      have k33 : KM M30.1 b2 5 := by rw [hM30]; exact k26
      have k34 : KM M30.1 b3 2 := by rw [hM30]; exact k27
      have k35 : KM M30.1 b12 2 := by rw [hM30]; exact k28
      have k36 : KM M30.1 b20 5 := by rw [hM30]; exact k29
      refine fr_aload_n (i := 0) (q := 1) rfl dX11_text_44 rfl ?_
      refine fr_aload_n (i := 0) (q := 1) rfl dX11_text_45 rfl ?_
      obtain ⟨b37, r_b37, k_b37, h⟩ := h
      refine fr_getR dX11_text_46 rfl fl_X11_21 k31 r_b37 ?_
      obtain ⟨v38, M39, hc40, h⟩ := h
      refine fr_callV2 (ν := mu_X5_foundAt) (st2 := [.int v38, rf g o]) (As := []) (st := [rf g o]) (v := (some (.int v38))) (M1 := M39) dX11_text_49 rfl ml_X11_137 mo_X5_foundAt mi_X5_foundAt (ci := 5) rfl rfl k_b37 (Nat.le_of_ble_eq_true rfl) rfl rfl (Nat.le_of_ble_eq_true rfl) hc40 rfl ?_
      have k41 : KM M39.1 o 11 := KM.ext k31 hc40.1
      have k42 : KM M39.1 b1 8 := KM.ext k32 hc40.1
      have k43 : KM M39.1 b2 5 := KM.ext k33 hc40.1
      have k44 : KM M39.1 b3 2 := KM.ext k34 hc40.1
      have k45 : KM M39.1 b12 2 := KM.ext k35 hc40.1
      have k46 : KM M39.1 b20 5 := KM.ext k36 hc40.1
      have k47 : KM M39.1 b37 5 := KM.ext k_b37 hc40.1
      refine fr_putI dX11_text_52 rfl fp_X11_43 k41 ?_
      refine fr_mem (fun M48 hM48 => ?_)
      have h := h M48 hM48
      have k49 : KM M48.1 o 11 := by rw [hM48]; exact k41
      have k50 : KM M48.1 b1 8 := by rw [hM48]; exact k42
      have k51 : KM M48.1 b2 5 := by rw [hM48]; exact k43
      have k52 : KM M48.1 b3 2 := by rw [hM48]; exact k44
      have k53 : KM M48.1 b12 2 := by rw [hM48]; exact k45
      have k54 : KM M48.1 b20 5 := by rw [hM48]; exact k46
      have k55 : KM M48.1 b37 5 := by rw [hM48]; exact k47
      refine fr_aload_nN (i := 1) (q := 0) rfl dX11_text_55 rfl ?_
      refine fr_nnN dX11_text_56 rfl ?_
      refine fr_iconst (v := (-1)) (by decide) dX11_text_59 rfl ?_
      exact fr_iret rfl dX11_text_60 h.1 h.2
    · obtain ⟨k_b11, h⟩ := h.2 b11 hq
      refine fr_astore_n (i := 1) (lv' := [(1, rf g b11), (0, rf g o)]) dX11_text_24 rfl (by decide) rfl ?_
      refine fr_aload_n (i := 0) (q := 1) rfl dX11_text_25 rfl ?_
      obtain ⟨b56, r_b56, k_b56, h⟩ := h
      refine fr_getR dX11_text_26 rfl fl_X11_14 k7 r_b56 ?_
      refine fr_iconst (v := 0) (by decide) dX11_text_29 rfl ?_
      obtain ⟨M57, hc58, h⟩ := h
      refine fr_callV2 (ν := mu_X2_cutTo) (st2 := []) (As := [.int 0]) (st := []) (v := none) (M1 := M57) dX11_text_30 rfl ml_X11_124 mo_X2_cutTo mi_X2_cutTo (ci := 2) rfl rfl k_b56 (Nat.le_of_ble_eq_true rfl) rfl rfl (Nat.le_of_ble_eq_true rfl) hc58 rfl ?_
      have k59 : KM M57.1 o 11 := KM.ext k7 hc58.1
      have k60 : KM M57.1 b1 8 := KM.ext k8 hc58.1
      have k61 : KM M57.1 b2 5 := KM.ext k9 hc58.1
      have k62 : KM M57.1 b3 2 := KM.ext k10 hc58.1
      have k63 : KM M57.1 b11 6 := KM.ext k_b11 hc58.1
      have k64 : KM M57.1 b56 2 := KM.ext k_b56 hc58.1
      refine fr_aload_n (i := 0) (q := 1) rfl dX11_text_33 rfl ?_
      refine fr_aload_n (i := 0) (q := 1) rfl dX11_text_34 rfl ?_
      obtain ⟨b65, r_b65, k_b65, h⟩ := h
      refine fr_getR dX11_text_35 rfl fl_X11_21 k59 r_b65 ?_
      obtain ⟨v66, M67, hc68, h⟩ := h
      refine fr_callV2 (ν := mu_X5_found) (st2 := [.int v66, rf g o]) (As := []) (st := [rf g o]) (v := (some (.int v66))) (M1 := M67) dX11_text_38 rfl ml_X11_134 mo_X5_found mi_X5_found (ci := 5) rfl rfl k_b65 (Nat.le_of_ble_eq_true rfl) rfl rfl (Nat.le_of_ble_eq_true rfl) hc68 rfl ?_
      have k69 : KM M67.1 o 11 := KM.ext k59 hc68.1
      have k70 : KM M67.1 b1 8 := KM.ext k60 hc68.1
      have k71 : KM M67.1 b2 5 := KM.ext k61 hc68.1
      have k72 : KM M67.1 b3 2 := KM.ext k62 hc68.1
      have k73 : KM M67.1 b11 6 := KM.ext k63 hc68.1
      have k74 : KM M67.1 b56 2 := KM.ext k64 hc68.1
      have k75 : KM M67.1 b65 5 := KM.ext k_b65 hc68.1
      refine fr_putI dX11_text_41 rfl fp_X11_39 k69 ?_
      refine fr_mem (fun M76 hM76 => ?_)
      have h := h M76 hM76
      have k77 : KM M76.1 o 11 := by rw [hM76]; exact k69
      have k78 : KM M76.1 b1 8 := by rw [hM76]; exact k70
      have k79 : KM M76.1 b2 5 := by rw [hM76]; exact k71
      have k80 : KM M76.1 b3 2 := by rw [hM76]; exact k72
      have k81 : KM M76.1 b11 6 := by rw [hM76]; exact k73
      have k82 : KM M76.1 b56 2 := by rw [hM76]; exact k74
      have k83 : KM M76.1 b65 5 := by rw [hM76]; exact k75
      refine fr_aload_n (i := 0) (q := 1) rfl dX11_text_44 rfl ?_
      refine fr_aload_n (i := 0) (q := 1) rfl dX11_text_45 rfl ?_
      obtain ⟨b84, r_b84, k_b84, h⟩ := h
      refine fr_getR dX11_text_46 rfl fl_X11_21 k77 r_b84 ?_
      obtain ⟨v85, M86, hc87, h⟩ := h
      refine fr_callV2 (ν := mu_X5_foundAt) (st2 := [.int v85, rf g o]) (As := []) (st := [rf g o]) (v := (some (.int v85))) (M1 := M86) dX11_text_49 rfl ml_X11_137 mo_X5_foundAt mi_X5_foundAt (ci := 5) rfl rfl k_b84 (Nat.le_of_ble_eq_true rfl) rfl rfl (Nat.le_of_ble_eq_true rfl) hc87 rfl ?_
      have k88 : KM M86.1 o 11 := KM.ext k77 hc87.1
      have k89 : KM M86.1 b1 8 := KM.ext k78 hc87.1
      have k90 : KM M86.1 b2 5 := KM.ext k79 hc87.1
      have k91 : KM M86.1 b3 2 := KM.ext k80 hc87.1
      have k92 : KM M86.1 b11 6 := KM.ext k81 hc87.1
      have k93 : KM M86.1 b56 2 := KM.ext k82 hc87.1
      have k94 : KM M86.1 b65 5 := KM.ext k83 hc87.1
      have k95 : KM M86.1 b84 5 := KM.ext k_b84 hc87.1
      refine fr_putI dX11_text_52 rfl fp_X11_43 k88 ?_
      refine fr_mem (fun M96 hM96 => ?_)
      have h := h M96 hM96
      have k97 : KM M96.1 o 11 := by rw [hM96]; exact k88
      have k98 : KM M96.1 b1 8 := by rw [hM96]; exact k89
      have k99 : KM M96.1 b2 5 := by rw [hM96]; exact k90
      have k100 : KM M96.1 b3 2 := by rw [hM96]; exact k91
      have k101 : KM M96.1 b11 6 := by rw [hM96]; exact k92
      have k102 : KM M96.1 b56 2 := by rw [hM96]; exact k93
      have k103 : KM M96.1 b65 5 := by rw [hM96]; exact k94
      have k104 : KM M96.1 b84 5 := by rw [hM96]; exact k95
      refine fr_aload_n (i := 1) (q := 0) rfl dX11_text_55 rfl ?_
      refine fr_nnR (tgt := 61) dX11_text_56 (by decide) ?_
      refine fr_aload_n (i := 0) (q := 1) rfl dX11_text_61 rfl ?_
      obtain ⟨b105, r_b105, k_b105, h⟩ := h
      refine fr_getR dX11_text_62 rfl fl_X11_51 k97 r_b105 ?_
      refine fr_aload_n (i := 1) (q := 0) rfl dX11_text_65 rfl ?_
      obtain ⟨v106, M107, hc108, h⟩ := h
      refine fr_callV2 (ν := mu_X8_addText) (st2 := [.int v106]) (As := [rf g b11]) (st := []) (v := (some (.int v106))) (M1 := M107) dX11_text_66 rfl ml_X11_140 mo_X8_addText mi_X8_addText (ci := 8) rfl rfl k_b105 (Nat.le_of_ble_eq_true rfl) rfl rfl (Nat.le_of_ble_eq_true rfl) hc108 rfl ?_
      have k109 : KM M107.1 o 11 := KM.ext k97 hc108.1
      have k110 : KM M107.1 b1 8 := KM.ext k98 hc108.1
      have k111 : KM M107.1 b2 5 := KM.ext k99 hc108.1
      have k112 : KM M107.1 b3 2 := KM.ext k100 hc108.1
      have k113 : KM M107.1 b11 6 := KM.ext k101 hc108.1
      have k114 : KM M107.1 b56 2 := KM.ext k102 hc108.1
      have k115 : KM M107.1 b65 5 := KM.ext k103 hc108.1
      have k116 : KM M107.1 b84 5 := KM.ext k104 hc108.1
      have k117 : KM M107.1 b105 8 := KM.ext k_b105 hc108.1
      exact fr_iret rfl dX11_text_69 h.1 h.2
  · have h := h.2 hc
    refine fr_iconst (v := (-1)) (by decide) dX11_text_11 rfl ?_
    exact fr_iret rfl dX11_text_12 h.1 h.2
abbrev Lp_X5_read_55 (g : GE) (d : Nat) (o : Nat) (u2 : Int32) (M : Mem) (r : Option Value) (M' : Mem) : Prop := Fr g d mu_X5_read 55 [(0, rf g o), (2, .int u2)] [] M r M'
theorem cp_X5_read {g : GE} {M : Mem} {r : Option Value} {M' : Mem} {o : Nat} {a1 : Nat} (k_o : KM M.1 o 5) (k_a1 : KM M.1 a1 2) (h : (∃ b1 : Nat, mR M o 0 = some b1 ∧ KM M.1 b1 9 ∧ (∃ (M2 : Mem), Cl g 10 mu_X9_scan [rf g b1, rf g a1] M none M2 ∧ (∃ b7 : Nat, mR M2 o 2 = some b7 ∧ KM M2.1 b7 13 ∧ (∃ (M8 : Mem), Cl g 1 mu_J7_fill_53178 [rf g b7, .int ((-1))] M2 none M8 ∧ (∀ M14 : Mem, M14 = sI M8 o (upd (mI M8 o) 3 0) → (∀ M19 : Mem, M19 = sI M14 o (upd (mI M14 o) 4 0) → (∃ b24 : Nat, mR M19 o 0 = some b24 ∧ KM M19.1 b24 9 ∧ (∃ (v25 : Int32) (M26 : Mem), Cl g 2 mu_X9_kindAt [rf g b24, .int 0] M19 (some (.int v25)) M26 ∧ (∀ M33 : Mem, M33 = sI M26 o (upd (mI M26 o) 5 v25) → (∀ M39 : Mem, M39 = sI M33 o (upd (mI M33 o) 7 0) → (∀ M45 : Mem, M45 = sI M39 o (upd (mI M39 o) 8 0) → (∀ M51 : Mem, M51 = sI M45 o (upd (mI M45 o) 9 ((-1))) → Lp_X5_read_55 g 82 o 0 M51 r M'))))))))))))) : Cl g 82 mu_X5_read [rf g o, rf g a1] M r M' := by
  refine cl_of (lv := [(0, rf g o), (1, rf g a1)]) (by decide) (Nat.le_of_ble_eq_true rfl) rfl ?_
  refine fr_aload_n (i := 0) (q := 0) rfl dX5_read_0 rfl ?_
  obtain ⟨b1, r_b1, k_b1, h⟩ := h
  refine fr_getR dX5_read_1 rfl fl_X5_12 k_o r_b1 ?_
  refine fr_aload_n (i := 1) (q := 1) rfl dX5_read_4 rfl ?_
  obtain ⟨M2, hc3, h⟩ := h
  refine fr_callV2 (ν := mu_X9_scan) (st2 := []) (As := [rf g a1]) (st := []) (v := none) (M1 := M2) dX5_read_5 rfl ml_X5_32 mo_X9_scan mi_X9_scan (ci := 9) rfl rfl k_b1 (Nat.le_of_ble_eq_true rfl) rfl rfl (Nat.le_of_ble_eq_true rfl) hc3 rfl ?_
  have k4 : KM M2.1 o 5 := KM.ext k_o hc3.1
  have k5 : KM M2.1 a1 2 := KM.ext k_a1 hc3.1
  have k6 : KM M2.1 b1 9 := KM.ext k_b1 hc3.1
  refine fr_aload_n (i := 0) (q := 0) rfl dX5_read_8 rfl ?_
  obtain ⟨b7, r_b7, k_b7, h⟩ := h
  refine fr_getR dX5_read_9 rfl fl_X5_22 k4 r_b7 ?_
  refine fr_iconst (v := (-1)) (by decide) dX5_read_12 rfl ?_
  obtain ⟨M8, hc9, h⟩ := h
  refine fr_callS2 (ν := mu_J7_fill_53178) (st2 := []) (As := [rf g b7, .int ((-1))]) (st := []) (v := none) (M1 := M8) dX5_read_13 rfl ml_X5_36 mo_J7_fill_53178 ms_J7_fill_53178 (Nat.le_of_ble_eq_true rfl) rfl rfl (Nat.le_of_ble_eq_true rfl) hc9 rfl ?_
  have k10 : KM M8.1 o 5 := KM.ext k4 hc9.1
  have k11 : KM M8.1 a1 2 := KM.ext k5 hc9.1
  have k12 : KM M8.1 b1 9 := KM.ext k6 hc9.1
  have k13 : KM M8.1 b7 13 := KM.ext k_b7 hc9.1
  refine fr_aload_n (i := 0) (q := 0) rfl dX5_read_16 rfl ?_
  refine fr_iconst (v := 0) (by decide) dX5_read_17 rfl ?_
  refine fr_putI dX5_read_18 rfl fp_X5_42 k10 ?_
  refine fr_mem (fun M14 hM14 => ?_)
  have h := h M14 hM14
  have k15 : KM M14.1 o 5 := by rw [hM14]; exact k10
  have k16 : KM M14.1 a1 2 := by rw [hM14]; exact k11
  have k17 : KM M14.1 b1 9 := by rw [hM14]; exact k12
  have k18 : KM M14.1 b7 13 := by rw [hM14]; exact k13
  refine fr_aload_n (i := 0) (q := 0) rfl dX5_read_21 rfl ?_
  refine fr_iconst (v := 0) (by decide) dX5_read_22 rfl ?_
  refine fr_putI dX5_read_23 rfl fp_X5_45 k15 ?_
  refine fr_mem (fun M19 hM19 => ?_)
  have h := h M19 hM19
  have k20 : KM M19.1 o 5 := by rw [hM19]; exact k15
  have k21 : KM M19.1 a1 2 := by rw [hM19]; exact k16
  have k22 : KM M19.1 b1 9 := by rw [hM19]; exact k17
  have k23 : KM M19.1 b7 13 := by rw [hM19]; exact k18
  refine fr_aload_n (i := 0) (q := 0) rfl dX5_read_26 rfl ?_
  refine fr_aload_n (i := 0) (q := 0) rfl dX5_read_27 rfl ?_
  obtain ⟨b24, r_b24, k_b24, h⟩ := h
  refine fr_getR dX5_read_28 rfl fl_X5_12 k20 r_b24 ?_
  refine fr_iconst (v := 0) (by decide) dX5_read_31 rfl ?_
  obtain ⟨v25, M26, hc27, h⟩ := h
  refine fr_callV2 (ν := mu_X9_kindAt) (st2 := [.int v25, rf g o]) (As := [.int 0]) (st := [rf g o]) (v := (some (.int v25))) (M1 := M26) dX5_read_32 rfl ml_X5_48 mo_X9_kindAt mi_X9_kindAt (ci := 9) rfl rfl k_b24 (Nat.le_of_ble_eq_true rfl) rfl rfl (Nat.le_of_ble_eq_true rfl) hc27 rfl ?_
  have k28 : KM M26.1 o 5 := KM.ext k20 hc27.1
  have k29 : KM M26.1 a1 2 := KM.ext k21 hc27.1
  have k30 : KM M26.1 b1 9 := KM.ext k22 hc27.1
  have k31 : KM M26.1 b7 13 := KM.ext k23 hc27.1
  have k32 : KM M26.1 b24 9 := KM.ext k_b24 hc27.1
  refine fr_putI dX5_read_35 rfl fp_X5_52 k28 ?_
  refine fr_mem (fun M33 hM33 => ?_)
  have h := h M33 hM33
  have k34 : KM M33.1 o 5 := by rw [hM33]; exact k28
  have k35 : KM M33.1 a1 2 := by rw [hM33]; exact k29
  have k36 : KM M33.1 b1 9 := by rw [hM33]; exact k30
  have k37 : KM M33.1 b7 13 := by rw [hM33]; exact k31
  have k38 : KM M33.1 b24 9 := by rw [hM33]; exact k32
  refine fr_aload_n (i := 0) (q := 0) rfl dX5_read_38 rfl ?_
  refine fr_iconst (v := 0) (by decide) dX5_read_39 rfl ?_
  refine fr_putI dX5_read_40 rfl fp_X5_55 k34 ?_
  refine fr_mem (fun M39 hM39 => ?_)
  have h := h M39 hM39
  have k40 : KM M39.1 o 5 := by rw [hM39]; exact k34
  have k41 : KM M39.1 a1 2 := by rw [hM39]; exact k35
  have k42 : KM M39.1 b1 9 := by rw [hM39]; exact k36
  have k43 : KM M39.1 b7 13 := by rw [hM39]; exact k37
  have k44 : KM M39.1 b24 9 := by rw [hM39]; exact k38
  refine fr_aload_n (i := 0) (q := 0) rfl dX5_read_43 rfl ?_
  refine fr_iconst (v := 0) (by decide) dX5_read_44 rfl ?_
  refine fr_putI dX5_read_45 rfl fp_X5_25 k40 ?_
  refine fr_mem (fun M45 hM45 => ?_)
  have h := h M45 hM45
  have k46 : KM M45.1 o 5 := by rw [hM45]; exact k40
  have k47 : KM M45.1 a1 2 := by rw [hM45]; exact k41
  have k48 : KM M45.1 b1 9 := by rw [hM45]; exact k42
  have k49 : KM M45.1 b7 13 := by rw [hM45]; exact k43
  have k50 : KM M45.1 b24 9 := by rw [hM45]; exact k44
  refine fr_aload_n (i := 0) (q := 0) rfl dX5_read_48 rfl ?_
  refine fr_iconst (v := (-1)) (by decide) dX5_read_49 rfl ?_
  refine fr_putI dX5_read_50 rfl fp_X5_29 k46 ?_
  refine fr_mem (fun M51 hM51 => ?_)
  have h := h M51 hM51
  have k52 : KM M51.1 o 5 := by rw [hM51]; exact k46
  have k53 : KM M51.1 a1 2 := by rw [hM51]; exact k47
  have k54 : KM M51.1 b1 9 := by rw [hM51]; exact k48
  have k55 : KM M51.1 b7 13 := by rw [hM51]; exact k49
  have k56 : KM M51.1 b24 9 := by rw [hM51]; exact k50
  refine fr_iconst (v := 0) (by decide) dX5_read_53 rfl ?_
  refine fr_istore_n (i := 2) (lv' := [(2, .int 0), (0, rf g o), (1, rf g a1)]) dX5_read_54 rfl (by decide) rfl ?_
  exact fr_sub [1, 0] rfl h
theorem wp_X5_read_55 {g : GE} {M : Mem} {r : Option Value} {M' : Mem} {o : Nat} {u2 : Int32} (k_o : KM M.1 o 5) (h : ((4 ≤ u2 → (((mI M o 8) = 0 → (∀ M1 : Mem, M1 = nw M 6 4 → (∃ b4 : Nat, mR M1 o 1 = some b4 ∧ KM M1.1 b4 13 ∧ (∃ (b5 : Nat) (M6 : Mem), Cl g 2 mu_J7_copyOf_59c91 [rf g b4, .int (mI M1 o 3)] M1 (some (rf g b5)) M6 ∧ KM M6.1 b5 13 ∧ (∃ b11 : Nat, mR M6 o 2 = some b11 ∧ KM M6.1 b11 13 ∧ (vp_in 0 (mN M6 b11) ∧ (∃ b13 : Nat, mR M6 o 2 = some b13 ∧ KM M6.1 b13 13 ∧ (vp_in 1 (mN M6 b13) ∧ (∃ b15 : Nat, mR M6 o 2 = some b15 ∧ KM M6.1 b15 13 ∧ (vp_in 2 (mN M6 b15) ∧ (∃ (M17 : Mem), Cl g 2 mu_X6_init [rf g (mx M), rf g b5, .int (mI M6 b11 (0 : Int32).toNatClampNeg), .int (mI M6 b13 (1 : Int32).toNatClampNeg), .int (mI M6 b15 (2 : Int32).toNatClampNeg)] M6 none M17 ∧ (r = some (rf g (mx M)) ∧ M' = M17)))))))))))) ∧ (¬ (mI M o 8) = 0 → (r = some (.null) ∧ M' = M)))) ∧ (¬ 4 ≤ u2 → ((¬ (mI M o 8) = 0 → (((mI M o 8) = 0 → (∀ M26 : Mem, M26 = nw M 6 4 → (∃ b29 : Nat, mR M26 o 1 = some b29 ∧ KM M26.1 b29 13 ∧ (∃ (b30 : Nat) (M31 : Mem), Cl g 2 mu_J7_copyOf_59c91 [rf g b29, .int (mI M26 o 3)] M26 (some (rf g b30)) M31 ∧ KM M31.1 b30 13 ∧ (∃ b36 : Nat, mR M31 o 2 = some b36 ∧ KM M31.1 b36 13 ∧ (vp_in 0 (mN M31 b36) ∧ (∃ b38 : Nat, mR M31 o 2 = some b38 ∧ KM M31.1 b38 13 ∧ (vp_in 1 (mN M31 b38) ∧ (∃ b40 : Nat, mR M31 o 2 = some b40 ∧ KM M31.1 b40 13 ∧ (vp_in 2 (mN M31 b40) ∧ (∃ (M42 : Mem), Cl g 2 mu_X6_init [rf g (mx M), rf g b30, .int (mI M31 b36 (0 : Int32).toNatClampNeg), .int (mI M31 b38 (1 : Int32).toNatClampNeg), .int (mI M31 b40 (2 : Int32).toNatClampNeg)] M31 none M42 ∧ (r = some (rf g (mx M)) ∧ M' = M42)))))))))))) ∧ (¬ (mI M o 8) = 0 → (r = some (.null) ∧ M' = M)))) ∧ ((mI M o 8) = 0 → (((mI M o 5) = 37 → (((mI M o 8) = 0 → (∀ M51 : Mem, M51 = nw M 6 4 → (∃ b54 : Nat, mR M51 o 1 = some b54 ∧ KM M51.1 b54 13 ∧ (∃ (b55 : Nat) (M56 : Mem), Cl g 2 mu_J7_copyOf_59c91 [rf g b54, .int (mI M51 o 3)] M51 (some (rf g b55)) M56 ∧ KM M56.1 b55 13 ∧ (∃ b61 : Nat, mR M56 o 2 = some b61 ∧ KM M56.1 b61 13 ∧ (vp_in 0 (mN M56 b61) ∧ (∃ b63 : Nat, mR M56 o 2 = some b63 ∧ KM M56.1 b63 13 ∧ (vp_in 1 (mN M56 b63) ∧ (∃ b65 : Nat, mR M56 o 2 = some b65 ∧ KM M56.1 b65 13 ∧ (vp_in 2 (mN M56 b65) ∧ (∃ (M67 : Mem), Cl g 2 mu_X6_init [rf g (mx M), rf g b55, .int (mI M56 b61 (0 : Int32).toNatClampNeg), .int (mI M56 b63 (1 : Int32).toNatClampNeg), .int (mI M56 b65 (2 : Int32).toNatClampNeg)] M56 none M67 ∧ (r = some (rf g (mx M)) ∧ M' = M67)))))))))))) ∧ (¬ (mI M o 8) = 0 → (r = some (.null) ∧ M' = M)))) ∧ (¬ (mI M o 5) = 37 → (∃ (M76 : Mem), Cl g 81 mu_X5_readClause [rf g o] M none M76 ∧ (∀ y79 : Int32, y79 = (u2 + 1) → Lp_X5_read_55 g 82 o y79 M76 r M'))))))))) : Lp_X5_read_55 g 82 o u2 M r M' := by
  refine fr_iload_n (i := 2) (q := 1) rfl dX5_read_55 rfl ?_
  refine fr_iconst (v := 4) (by decide) dX5_read_56 rfl ?_
  refine fr_icmp_ge (tgt := 86) dX5_read_57 (by decide) rfl (fun hc => ?_) (fun hc => ?_)
  · have h := h.1 hc
    refine fr_aload_n (i := 0) (q := 0) rfl dX5_read_86 rfl ?_
    refine fr_getI dX5_read_87 rfl fl_X5_25 k_o ?_
    refine fr_if_eq (tgt := 95) dX5_read_90 (by decide) rfl (fun hc => ?_) (fun hc => ?_)
    · have h := h.1 hc
      refine fr_new dX5_read_95 rfl nl_X5_61 ?_
      refine fr_mem (fun M1 hM1 => ?_)
      have h := h M1 hM1
      have k2 : KM M1.1 o 5 := by rw [hM1]; exact KM.ext k_o (Ext.nw _ _ _)
      have k3 : KM M1.1 (mx M) 6 := by rw [hM1]; exact KM.nw _ _ _
      refine fr_dup rfl dX5_read_98 rfl ?_
      refine fr_aload_n (i := 0) (q := 0) rfl dX5_read_99 rfl ?_
      obtain ⟨b4, r_b4, k_b4, h⟩ := h
      refine fr_getR dX5_read_100 rfl fl_X5_18 k2 r_b4 ?_
      refine fr_aload_n (i := 0) (q := 0) rfl dX5_read_103 rfl ?_
      refine fr_getI dX5_read_104 rfl fl_X5_42 k2 ?_
      obtain ⟨b5, M6, hc7, k_b5, h⟩ := h
      refine fr_callS2 (ν := mu_J7_copyOf_59c91) (st2 := [rf g b5, rf g (mx M), rf g (mx M)]) (As := [rf g b4, .int (mI M1 o 3)]) (st := [rf g (mx M), rf g (mx M)]) (v := (some (rf g b5))) (M1 := M6) dX5_read_107 rfl ml_X5_63 mo_J7_copyOf_59c91 ms_J7_copyOf_59c91 (Nat.le_of_ble_eq_true rfl) rfl rfl (Nat.le_of_ble_eq_true rfl) hc7 rfl ?_
      have k8 : KM M6.1 o 5 := KM.ext k2 hc7.1
      have k9 : KM M6.1 (mx M) 6 := KM.ext k3 hc7.1
      have k10 : KM M6.1 b4 13 := KM.ext k_b4 hc7.1
      refine fr_aload_n (i := 0) (q := 0) rfl dX5_read_110 rfl ?_
      obtain ⟨b11, r_b11, k_b11, h⟩ := h
      refine fr_getR dX5_read_111 rfl fl_X5_22 k8 r_b11 ?_
      refine fr_iconst (v := 0) (by decide) dX5_read_114 rfl ?_
      obtain ⟨hz12, h⟩ := h
      refine fr_iald dX5_read_115 rfl k_b11 hz12 ?_
      refine fr_aload_n (i := 0) (q := 0) rfl dX5_read_116 rfl ?_
      obtain ⟨b13, r_b13, k_b13, h⟩ := h
      refine fr_getR dX5_read_117 rfl fl_X5_22 k8 r_b13 ?_
      refine fr_iconst (v := 1) (by decide) dX5_read_120 rfl ?_
      obtain ⟨hz14, h⟩ := h
      refine fr_iald dX5_read_121 rfl k_b13 hz14 ?_
      refine fr_aload_n (i := 0) (q := 0) rfl dX5_read_122 rfl ?_
      obtain ⟨b15, r_b15, k_b15, h⟩ := h
      refine fr_getR dX5_read_123 rfl fl_X5_22 k8 r_b15 ?_
      refine fr_iconst (v := 2) (by decide) dX5_read_126 rfl ?_
      obtain ⟨hz16, h⟩ := h
      refine fr_iald dX5_read_127 rfl k_b15 hz16 ?_
      obtain ⟨M17, hc18, h⟩ := h
      refine fr_callI (ν := mu_X6_init) (As := [rf g b5, .int (mI M6 b11 (0 : Int32).toNatClampNeg), .int (mI M6 b13 (1 : Int32).toNatClampNeg), .int (mI M6 b15 (2 : Int32).toNatClampNeg)]) (st := [rf g (mx M)]) (M1 := M17) rfl rfl dX5_read_128 rfl ml_X5_67 mo_X6_init mn_X6_init (Nat.le_of_ble_eq_true rfl) rfl rfl (Nat.le_of_ble_eq_true rfl) hc18 ?_
      have k19 : KM M17.1 o 5 := KM.ext k8 hc18.1
      have k20 : KM M17.1 (mx M) 6 := KM.ext k9 hc18.1
      have k21 : KM M17.1 b4 13 := KM.ext k10 hc18.1
      have k22 : KM M17.1 b5 13 := KM.ext k_b5 hc18.1
      have k23 : KM M17.1 b11 13 := KM.ext k_b11 hc18.1
      have k24 : KM M17.1 b13 13 := KM.ext k_b13 hc18.1
      have k25 : KM M17.1 b15 13 := KM.ext k_b15 hc18.1
      exact fr_aret rfl dX5_read_131 h.1 h.2
    · have h := h.2 hc
      refine fr_null dX5_read_93 rfl ?_
      exact fr_aretN rfl dX5_read_94 h.1 h.2
  · have h := h.2 hc
    refine fr_aload_n (i := 0) (q := 0) rfl dX5_read_60 rfl ?_
    refine fr_getI dX5_read_61 rfl fl_X5_25 k_o ?_
    refine fr_if_ne (tgt := 86) dX5_read_64 (by decide) rfl (fun hc => ?_) (fun hc => ?_)
    · have h := h.1 hc
      refine fr_aload_n (i := 0) (q := 0) rfl dX5_read_86 rfl ?_
      refine fr_getI dX5_read_87 rfl fl_X5_25 k_o ?_
      refine fr_if_eq (tgt := 95) dX5_read_90 (by decide) rfl (fun hc => ?_) (fun hc => ?_)
      · have h := h.1 hc
        refine fr_new dX5_read_95 rfl nl_X5_61 ?_
        refine fr_mem (fun M26 hM26 => ?_)
        have h := h M26 hM26
        have k27 : KM M26.1 o 5 := by rw [hM26]; exact KM.ext k_o (Ext.nw _ _ _)
        have k28 : KM M26.1 (mx M) 6 := by rw [hM26]; exact KM.nw _ _ _
        refine fr_dup rfl dX5_read_98 rfl ?_
        refine fr_aload_n (i := 0) (q := 0) rfl dX5_read_99 rfl ?_
        obtain ⟨b29, r_b29, k_b29, h⟩ := h
        refine fr_getR dX5_read_100 rfl fl_X5_18 k27 r_b29 ?_
        refine fr_aload_n (i := 0) (q := 0) rfl dX5_read_103 rfl ?_
        refine fr_getI dX5_read_104 rfl fl_X5_42 k27 ?_
        obtain ⟨b30, M31, hc32, k_b30, h⟩ := h
        refine fr_callS2 (ν := mu_J7_copyOf_59c91) (st2 := [rf g b30, rf g (mx M), rf g (mx M)]) (As := [rf g b29, .int (mI M26 o 3)]) (st := [rf g (mx M), rf g (mx M)]) (v := (some (rf g b30))) (M1 := M31) dX5_read_107 rfl ml_X5_63 mo_J7_copyOf_59c91 ms_J7_copyOf_59c91 (Nat.le_of_ble_eq_true rfl) rfl rfl (Nat.le_of_ble_eq_true rfl) hc32 rfl ?_
        have k33 : KM M31.1 o 5 := KM.ext k27 hc32.1
        have k34 : KM M31.1 (mx M) 6 := KM.ext k28 hc32.1
        have k35 : KM M31.1 b29 13 := KM.ext k_b29 hc32.1
        refine fr_aload_n (i := 0) (q := 0) rfl dX5_read_110 rfl ?_
        obtain ⟨b36, r_b36, k_b36, h⟩ := h
        refine fr_getR dX5_read_111 rfl fl_X5_22 k33 r_b36 ?_
        refine fr_iconst (v := 0) (by decide) dX5_read_114 rfl ?_
        obtain ⟨hz37, h⟩ := h
        refine fr_iald dX5_read_115 rfl k_b36 hz37 ?_
        refine fr_aload_n (i := 0) (q := 0) rfl dX5_read_116 rfl ?_
        obtain ⟨b38, r_b38, k_b38, h⟩ := h
        refine fr_getR dX5_read_117 rfl fl_X5_22 k33 r_b38 ?_
        refine fr_iconst (v := 1) (by decide) dX5_read_120 rfl ?_
        obtain ⟨hz39, h⟩ := h
        refine fr_iald dX5_read_121 rfl k_b38 hz39 ?_
        refine fr_aload_n (i := 0) (q := 0) rfl dX5_read_122 rfl ?_
        obtain ⟨b40, r_b40, k_b40, h⟩ := h
        refine fr_getR dX5_read_123 rfl fl_X5_22 k33 r_b40 ?_
        refine fr_iconst (v := 2) (by decide) dX5_read_126 rfl ?_
        obtain ⟨hz41, h⟩ := h
        refine fr_iald dX5_read_127 rfl k_b40 hz41 ?_
        obtain ⟨M42, hc43, h⟩ := h
        refine fr_callI (ν := mu_X6_init) (As := [rf g b30, .int (mI M31 b36 (0 : Int32).toNatClampNeg), .int (mI M31 b38 (1 : Int32).toNatClampNeg), .int (mI M31 b40 (2 : Int32).toNatClampNeg)]) (st := [rf g (mx M)]) (M1 := M42) rfl rfl dX5_read_128 rfl ml_X5_67 mo_X6_init mn_X6_init (Nat.le_of_ble_eq_true rfl) rfl rfl (Nat.le_of_ble_eq_true rfl) hc43 ?_
        have k44 : KM M42.1 o 5 := KM.ext k33 hc43.1
        have k45 : KM M42.1 (mx M) 6 := KM.ext k34 hc43.1
        have k46 : KM M42.1 b29 13 := KM.ext k35 hc43.1
        have k47 : KM M42.1 b30 13 := KM.ext k_b30 hc43.1
        have k48 : KM M42.1 b36 13 := KM.ext k_b36 hc43.1
        have k49 : KM M42.1 b38 13 := KM.ext k_b38 hc43.1
        have k50 : KM M42.1 b40 13 := KM.ext k_b40 hc43.1
        exact fr_aret rfl dX5_read_131 h.1 h.2
      · have h := h.2 hc
        refine fr_null dX5_read_93 rfl ?_
        exact fr_aretN rfl dX5_read_94 h.1 h.2
    · have h := h.2 hc
      refine fr_aload_n (i := 0) (q := 0) rfl dX5_read_67 rfl ?_
      refine fr_getI dX5_read_68 rfl fl_X5_52 k_o ?_
      refine fr_bipush (v := 37) (by decide) dX5_read_71 rfl ?_
      refine fr_icmp_eq (tgt := 86) dX5_read_73 (by decide) rfl (fun hc => ?_) (fun hc => ?_)
      · have h := h.1 hc
        refine fr_aload_n (i := 0) (q := 0) rfl dX5_read_86 rfl ?_
        refine fr_getI dX5_read_87 rfl fl_X5_25 k_o ?_
        refine fr_if_eq (tgt := 95) dX5_read_90 (by decide) rfl (fun hc => ?_) (fun hc => ?_)
        · have h := h.1 hc
          refine fr_new dX5_read_95 rfl nl_X5_61 ?_
          refine fr_mem (fun M51 hM51 => ?_)
          have h := h M51 hM51
          have k52 : KM M51.1 o 5 := by rw [hM51]; exact KM.ext k_o (Ext.nw _ _ _)
          have k53 : KM M51.1 (mx M) 6 := by rw [hM51]; exact KM.nw _ _ _
          refine fr_dup rfl dX5_read_98 rfl ?_
          refine fr_aload_n (i := 0) (q := 0) rfl dX5_read_99 rfl ?_
          obtain ⟨b54, r_b54, k_b54, h⟩ := h
          refine fr_getR dX5_read_100 rfl fl_X5_18 k52 r_b54 ?_
          refine fr_aload_n (i := 0) (q := 0) rfl dX5_read_103 rfl ?_
          refine fr_getI dX5_read_104 rfl fl_X5_42 k52 ?_
          obtain ⟨b55, M56, hc57, k_b55, h⟩ := h
          refine fr_callS2 (ν := mu_J7_copyOf_59c91) (st2 := [rf g b55, rf g (mx M), rf g (mx M)]) (As := [rf g b54, .int (mI M51 o 3)]) (st := [rf g (mx M), rf g (mx M)]) (v := (some (rf g b55))) (M1 := M56) dX5_read_107 rfl ml_X5_63 mo_J7_copyOf_59c91 ms_J7_copyOf_59c91 (Nat.le_of_ble_eq_true rfl) rfl rfl (Nat.le_of_ble_eq_true rfl) hc57 rfl ?_
          have k58 : KM M56.1 o 5 := KM.ext k52 hc57.1
          have k59 : KM M56.1 (mx M) 6 := KM.ext k53 hc57.1
          have k60 : KM M56.1 b54 13 := KM.ext k_b54 hc57.1
          refine fr_aload_n (i := 0) (q := 0) rfl dX5_read_110 rfl ?_
          obtain ⟨b61, r_b61, k_b61, h⟩ := h
          refine fr_getR dX5_read_111 rfl fl_X5_22 k58 r_b61 ?_
          refine fr_iconst (v := 0) (by decide) dX5_read_114 rfl ?_
          obtain ⟨hz62, h⟩ := h
          refine fr_iald dX5_read_115 rfl k_b61 hz62 ?_
          refine fr_aload_n (i := 0) (q := 0) rfl dX5_read_116 rfl ?_
          obtain ⟨b63, r_b63, k_b63, h⟩ := h
          refine fr_getR dX5_read_117 rfl fl_X5_22 k58 r_b63 ?_
          refine fr_iconst (v := 1) (by decide) dX5_read_120 rfl ?_
          obtain ⟨hz64, h⟩ := h
          refine fr_iald dX5_read_121 rfl k_b63 hz64 ?_
          refine fr_aload_n (i := 0) (q := 0) rfl dX5_read_122 rfl ?_
          obtain ⟨b65, r_b65, k_b65, h⟩ := h
          refine fr_getR dX5_read_123 rfl fl_X5_22 k58 r_b65 ?_
          refine fr_iconst (v := 2) (by decide) dX5_read_126 rfl ?_
          obtain ⟨hz66, h⟩ := h
          refine fr_iald dX5_read_127 rfl k_b65 hz66 ?_
          obtain ⟨M67, hc68, h⟩ := h
          refine fr_callI (ν := mu_X6_init) (As := [rf g b55, .int (mI M56 b61 (0 : Int32).toNatClampNeg), .int (mI M56 b63 (1 : Int32).toNatClampNeg), .int (mI M56 b65 (2 : Int32).toNatClampNeg)]) (st := [rf g (mx M)]) (M1 := M67) rfl rfl dX5_read_128 rfl ml_X5_67 mo_X6_init mn_X6_init (Nat.le_of_ble_eq_true rfl) rfl rfl (Nat.le_of_ble_eq_true rfl) hc68 ?_
          have k69 : KM M67.1 o 5 := KM.ext k58 hc68.1
          have k70 : KM M67.1 (mx M) 6 := KM.ext k59 hc68.1
          have k71 : KM M67.1 b54 13 := KM.ext k60 hc68.1
          have k72 : KM M67.1 b55 13 := KM.ext k_b55 hc68.1
          have k73 : KM M67.1 b61 13 := KM.ext k_b61 hc68.1
          have k74 : KM M67.1 b63 13 := KM.ext k_b63 hc68.1
          have k75 : KM M67.1 b65 13 := KM.ext k_b65 hc68.1
          exact fr_aret rfl dX5_read_131 h.1 h.2
        · have h := h.2 hc
          refine fr_null dX5_read_93 rfl ?_
          exact fr_aretN rfl dX5_read_94 h.1 h.2
      · have h := h.2 hc
        refine fr_aload_n (i := 0) (q := 0) rfl dX5_read_76 rfl ?_
        obtain ⟨M76, hc77, h⟩ := h
        refine fr_callV2 (ν := mu_X5_readClause) (st2 := []) (As := []) (st := []) (v := none) (M1 := M76) dX5_read_77 rfl ml_X5_58 mo_X5_readClause mi_X5_readClause (ci := 5) rfl rfl k_o (Nat.le_of_ble_eq_true rfl) rfl rfl (Nat.le_of_ble_eq_true rfl) hc77 rfl ?_
        have k78 : KM M76.1 o 5 := KM.ext k_o hc77.1
        obtain ⟨y79, hy79⟩ : ∃ y : Int32, y = u2 + 1 := ⟨_, rfl⟩
        have h := h y79 hy79
        refine fr_iinc (q := 1) (v := y79) (lv' := [(2, .int y79), (0, rf g o)]) rfl (by rw [hy79]; rfl) dX5_read_80 rfl (by decide) rfl ?_
        refine fr_goto (n := 55) dX5_read_83 (by decide) ?_
        exact fr_sub [1, 0] rfl h
