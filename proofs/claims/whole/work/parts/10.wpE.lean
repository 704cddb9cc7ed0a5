theorem cp_X11_cell {g : GE} {Z : Zs} {I : Nat → Nat → Int32} {L : Nat → Nat → Int64} {r : Option Value} {M' : Mem} {o : Nat} {x1 : Int32} {x2 : Int32} {o_now : Nat} {o_now_kinds : Nat} {o_legs : Nat} (k_o : KM Z o 11) (r_o_now : Z.2.1 o 0 = some o_now) (k_o_now : KM Z o_now 8) (r_o_now_kinds : Z.2.1 o_now 2 = some o_now_kinds) (k_o_now_kinds : KM Z o_now_kinds 2) (r_o_legs : Z.2.1 o 5 = some o_legs) (k_o_legs : KM Z o_legs 3) (h : (∃ (v1 : Int32), Cl g 1 mu_X8_isCell [rf g o_now, .int x1] (Z, I, L) (some (.int v1)) (Z, I, L) ∧ ((v1 = 0 → (r = some (.int 0) ∧ M' = (Z, I, L))) ∧ (¬ v1 = 0 → ((x2 < 0 → (r = some (.int 0) ∧ M' = (Z, I, L))) ∧ (¬ x2 < 0 → ((x2 ≤ 3 → ((¬ x2 = 1 → (∃ (I3 : Nat → Nat → Int32) (L4 : Nat → Nat → Int64), Cl g 1 mu_X2_put [rf g o_now_kinds, .int x1, .int x2] (Z, I, L) none (Z, I3, L4) ∧ (∃ (I6 : Nat → Nat → Int32) (L7 : Nat → Nat → Int64), Cl g 3 mu_X8_forgetSteps [rf g o_now] (Z, I3, L4) none (Z, I6, L7) ∧ (∃ (I9 : Nat → Nat → Int32) (L10 : Nat → Nat → Int64), Cl g 2 mu_X3_forget [rf g o_legs] (Z, I6, L7) none (Z, I9, L10) ∧ (r = some (.int 1) ∧ M' = (Z, I9, L10)))))) ∧ (x2 = 1 → (∃ (v12 : Int32), Cl g 2 mu_X8_hasPairIn [rf g o_now, .int x1] (Z, I, L) (some (.int v12)) (Z, I, L) ∧ ((v12 = 0 → (∃ (I14 : Nat → Nat → Int32) (L15 : Nat → Nat → Int64), Cl g 1 mu_X2_put [rf g o_now_kinds, .int x1, .int x2] (Z, I, L) none (Z, I14, L15) ∧ (∃ (I17 : Nat → Nat → Int32) (L18 : Nat → Nat → Int64), Cl g 3 mu_X8_forgetSteps [rf g o_now] (Z, I14, L15) none (Z, I17, L18) ∧ (∃ (I20 : Nat → Nat → Int32) (L21 : Nat → Nat → Int64), Cl g 2 mu_X3_forget [rf g o_legs] (Z, I17, L18) none (Z, I20, L21) ∧ (r = some (.int 1) ∧ M' = (Z, I20, L21)))))) ∧ (¬ v12 = 0 → (r = some (.int 0) ∧ M' = (Z, I, L)))))))) ∧ (¬ x2 ≤ 3 → (r = some (.int 0) ∧ M' = (Z, I, L)))))))))) : Cl g 4 mu_X11_cell [rf g o, .int x1, .int x2] (Z, I, L) r M' := by
  refine cl_of (lv := [(0, rf g o), (1, .int x1), (2, .int x2)]) (by decide) (Nat.le_of_ble_eq_true rfl) rfl ?_
  refine fr_aload_n (i := 0) (q := 0) rfl dX11_cell_0 rfl ?_
  refine fr_getR dX11_cell_1 rfl fl_X11_51 k_o r_o_now ?_
  refine fr_iload_n (i := 1) (q := 1) rfl dX11_cell_4 rfl ?_
  obtain ⟨v1, hc2, h⟩ := h
  refine fr_callV2 (ν := mu_X8_isCell) (st2 := [.int v1]) (As := [.int x1]) (st := []) (v := (some (.int v1))) (M1 := (Z, I, L)) dX11_cell_5 rfl ml_X11_83 mo_X8_isCell mi_X8_isCell (ci := 8) rfl rfl k_o_now (Nat.le_of_ble_eq_true rfl) rfl rfl (Nat.le_of_ble_eq_true rfl) hc2 rfl ?_
  refine fr_if_eq (tgt := 20) dX11_cell_8 (by decide) rfl (fun hc => ?_) (fun hc => ?_)
  · have h := h.1 hc
    refine fr_iconst (v := 0) (by decide) dX11_cell_20 rfl ?_
    exact fr_zret (by decide) rfl dX11_cell_21 h.1 h.2
  · have h := h.2 hc
    refine fr_iload_n (i := 2) (q := 2) rfl dX11_cell_11 rfl ?_
    refine fr_if_lt (tgt := 20) dX11_cell_12 (by decide) rfl (fun hc => ?_) (fun hc => ?_)
    · have h := h.1 hc
      refine fr_iconst (v := 0) (by decide) dX11_cell_20 rfl ?_
      exact fr_zret (by decide) rfl dX11_cell_21 h.1 h.2
    · have h := h.2 hc
      refine fr_iload_n (i := 2) (q := 2) rfl dX11_cell_15 rfl ?_
      refine fr_iconst (v := 3) (by decide) dX11_cell_16 rfl ?_
      refine fr_icmp_le (tgt := 22) dX11_cell_17 (by decide) rfl (fun hc => ?_) (fun hc => ?_)
      · have h := h.1 hc
        refine fr_iload_n (i := 2) (q := 2) rfl dX11_cell_22 rfl ?_
        refine fr_iconst (v := 1) (by decide) dX11_cell_23 rfl ?_
        refine fr_icmp_ne (tgt := 40) dX11_cell_24 (by decide) rfl (fun hc => ?_) (fun hc => ?_)
        · have h := h.1 hc
          refine fr_aload_n (i := 0) (q := 0) rfl dX11_cell_40 rfl ?_
          refine fr_getR dX11_cell_41 rfl fl_X11_51 k_o r_o_now ?_
          refine fr_getR dX11_cell_44 rfl fl_X11_90 k_o_now r_o_now_kinds ?_
          refine fr_iload_n (i := 1) (q := 1) rfl dX11_cell_47 rfl ?_
          refine fr_iload_n (i := 2) (q := 2) rfl dX11_cell_48 rfl ?_
          obtain ⟨I3, L4, hc5, h⟩ := h
          refine fr_callV2 (ν := mu_X2_put) (st2 := []) (As := [.int x1, .int x2]) (st := []) (v := none) (M1 := (Z, I3, L4)) dX11_cell_49 rfl ml_X11_93 mo_X2_put mi_X2_put (ci := 2) rfl rfl k_o_now_kinds (Nat.le_of_ble_eq_true rfl) rfl rfl (Nat.le_of_ble_eq_true rfl) hc5 rfl ?_
          refine fr_aload_n (i := 0) (q := 0) rfl dX11_cell_52 rfl ?_
          refine fr_getR dX11_cell_53 rfl fl_X11_51 k_o r_o_now ?_
          obtain ⟨I6, L7, hc8, h⟩ := h
          refine fr_callV2 (ν := mu_X8_forgetSteps) (st2 := []) (As := []) (st := []) (v := none) (M1 := (Z, I6, L7)) dX11_cell_56 rfl ml_X11_96 mo_X8_forgetSteps mi_X8_forgetSteps (ci := 8) rfl rfl k_o_now (Nat.le_of_ble_eq_true rfl) rfl rfl (Nat.le_of_ble_eq_true rfl) hc8 rfl ?_
          refine fr_aload_n (i := 0) (q := 0) rfl dX11_cell_59 rfl ?_
          refine fr_getR dX11_cell_60 rfl fl_X11_63 k_o r_o_legs ?_
          obtain ⟨I9, L10, hc11, h⟩ := h
          refine fr_callV2 (ν := mu_X3_forget) (st2 := []) (As := []) (st := []) (v := none) (M1 := (Z, I9, L10)) dX11_cell_63 rfl ml_X11_99 mo_X3_forget mi_X3_forget (ci := 3) rfl rfl k_o_legs (Nat.le_of_ble_eq_true rfl) rfl rfl (Nat.le_of_ble_eq_true rfl) hc11 rfl ?_
          refine fr_iconst (v := 1) (by decide) dX11_cell_66 rfl ?_
          exact fr_zret (by decide) rfl dX11_cell_67 h.1 h.2
        · have h := h.2 hc
          refine fr_aload_n (i := 0) (q := 0) rfl dX11_cell_27 rfl ?_
          refine fr_getR dX11_cell_28 rfl fl_X11_51 k_o r_o_now ?_
          refine fr_iload_n (i := 1) (q := 1) rfl dX11_cell_31 rfl ?_
          obtain ⟨v12, hc13, h⟩ := h
          refine fr_callV2 (ν := mu_X8_hasPairIn) (st2 := [.int v12]) (As := [.int x1]) (st := []) (v := (some (.int v12))) (M1 := (Z, I, L)) dX11_cell_32 rfl ml_X11_87 mo_X8_hasPairIn mi_X8_hasPairIn (ci := 8) rfl rfl k_o_now (Nat.le_of_ble_eq_true rfl) rfl rfl (Nat.le_of_ble_eq_true rfl) hc13 rfl ?_
          refine fr_if_eq (tgt := 40) dX11_cell_35 (by decide) rfl (fun hc => ?_) (fun hc => ?_)
          · have h := h.1 hc
            refine fr_aload_n (i := 0) (q := 0) rfl dX11_cell_40 rfl ?_
            refine fr_getR dX11_cell_41 rfl fl_X11_51 k_o r_o_now ?_
            refine fr_getR dX11_cell_44 rfl fl_X11_90 k_o_now r_o_now_kinds ?_
            refine fr_iload_n (i := 1) (q := 1) rfl dX11_cell_47 rfl ?_
            refine fr_iload_n (i := 2) (q := 2) rfl dX11_cell_48 rfl ?_
            obtain ⟨I14, L15, hc16, h⟩ := h
            refine fr_callV2 (ν := mu_X2_put) (st2 := []) (As := [.int x1, .int x2]) (st := []) (v := none) (M1 := (Z, I14, L15)) dX11_cell_49 rfl ml_X11_93 mo_X2_put mi_X2_put (ci := 2) rfl rfl k_o_now_kinds (Nat.le_of_ble_eq_true rfl) rfl rfl (Nat.le_of_ble_eq_true rfl) hc16 rfl ?_
            refine fr_aload_n (i := 0) (q := 0) rfl dX11_cell_52 rfl ?_
            refine fr_getR dX11_cell_53 rfl fl_X11_51 k_o r_o_now ?_
            obtain ⟨I17, L18, hc19, h⟩ := h
            refine fr_callV2 (ν := mu_X8_forgetSteps) (st2 := []) (As := []) (st := []) (v := none) (M1 := (Z, I17, L18)) dX11_cell_56 rfl ml_X11_96 mo_X8_forgetSteps mi_X8_forgetSteps (ci := 8) rfl rfl k_o_now (Nat.le_of_ble_eq_true rfl) rfl rfl (Nat.le_of_ble_eq_true rfl) hc19 rfl ?_
            refine fr_aload_n (i := 0) (q := 0) rfl dX11_cell_59 rfl ?_
            refine fr_getR dX11_cell_60 rfl fl_X11_63 k_o r_o_legs ?_
            obtain ⟨I20, L21, hc22, h⟩ := h
            refine fr_callV2 (ν := mu_X3_forget) (st2 := []) (As := []) (st := []) (v := none) (M1 := (Z, I20, L21)) dX11_cell_63 rfl ml_X11_99 mo_X3_forget mi_X3_forget (ci := 3) rfl rfl k_o_legs (Nat.le_of_ble_eq_true rfl) rfl rfl (Nat.le_of_ble_eq_true rfl) hc22 rfl ?_
            refine fr_iconst (v := 1) (by decide) dX11_cell_66 rfl ?_
            exact fr_zret (by decide) rfl dX11_cell_67 h.1 h.2
          · have h := h.2 hc
            refine fr_iconst (v := 0) (by decide) dX11_cell_38 rfl ?_
            exact fr_zret (by decide) rfl dX11_cell_39 h.1 h.2
      · have h := h.2 hc
        refine fr_iconst (v := 0) (by decide) dX11_cell_20 rfl ?_
        exact fr_zret (by decide) rfl dX11_cell_21 h.1 h.2
theorem cp_X11_pair {g : GE} {Z : Zs} {I : Nat → Nat → Int32} {L : Nat → Nat → Int64} {r : Option Value} {M' : Mem} {o : Nat} {x1 : Int32} {x2 : Int32} {o_now : Nat} {o_now_poses : Nat} {o_now_habits : Nat} (k_o : KM Z o 11) (r_o_now : Z.2.1 o 0 = some o_now) (k_o_now : KM Z o_now 8) (r_o_now_poses : Z.2.1 o_now 3 = some o_now_poses) (k_o_now_poses : KM Z o_now_poses 2) (r_o_now_habits : Z.2.1 o_now 4 = some o_now_habits) (k_o_now_habits : KM Z o_now_habits 2) (h : (∃ (v1 : Int32), Cl g 2 mu_X8_isPose [rf g o_now, .int x1] (Z, I, L) (some (.int v1)) (Z, I, L) ∧ ((v1 = 0 → (r = some (.int ((-1))) ∧ M' = (Z, I, L))) ∧ (¬ v1 = 0 → (∃ (v3 : Int32), Cl g 1 mu_X8_isText [rf g o_now, .int x2] (Z, I, L) (some (.int v3)) (Z, I, L) ∧ ((v3 = 0 → (r = some (.int ((-1))) ∧ M' = (Z, I, L))) ∧ (¬ v3 = 0 → (∃ (v5 : Int32), Cl g 1 mu_X2_size [rf g o_now_poses] (Z, I, L) (some (.int v5)) (Z, I, L) ∧ ((v5 < 6 → (∃ (I7 : Nat → Nat → Int32) (L8 : Nat → Nat → Int64), Cl g 1 mu_X2_add [rf g o_now_poses, .int x1] (Z, I, L) none (Z, I7, L8) ∧ (∃ (I10 : Nat → Nat → Int32) (L11 : Nat → Nat → Int64), Cl g 1 mu_X2_add [rf g o_now_habits, .int x2] (Z, I7, L8) none (Z, I10, L11) ∧ (∃ (v13 : Int32), Cl g 1 mu_X2_size [rf g o_now_poses] (Z, I10, L11) (some (.int v13)) (Z, I10, L11) ∧ (r = some (.int (v13 - 1)) ∧ M' = (Z, I10, L11)))))) ∧ (¬ v5 < 6 → (r = some (.int ((-1))) ∧ M' = (Z, I, L)))))))))))) : Cl g 3 mu_X11_pair [rf g o, .int x1, .int x2] (Z, I, L) r M' := by
  refine cl_of (lv := [(0, rf g o), (1, .int x1), (2, .int x2)]) (by decide) (Nat.le_of_ble_eq_true rfl) rfl ?_
  refine fr_aload_n (i := 0) (q := 0) rfl dX11_pair_0 rfl ?_
  refine fr_getR dX11_pair_1 rfl fl_X11_51 k_o r_o_now ?_
  refine fr_iload_n (i := 1) (q := 1) rfl dX11_pair_4 rfl ?_
  obtain ⟨v1, hc2, h⟩ := h
  refine fr_callV2 (ν := mu_X8_isPose) (st2 := [.int v1]) (As := [.int x1]) (st := []) (v := (some (.int v1))) (M1 := (Z, I, L)) dX11_pair_5 rfl ml_X11_102 mo_X8_isPose mi_X8_isPose (ci := 8) rfl rfl k_o_now (Nat.le_of_ble_eq_true rfl) rfl rfl (Nat.le_of_ble_eq_true rfl) hc2 rfl ?_
  refine fr_if_eq (tgt := 37) dX11_pair_8 (by decide) rfl (fun hc => ?_) (fun hc => ?_)
  · have h := h.1 hc
    refine fr_iconst (v := (-1)) (by decide) dX11_pair_37 rfl ?_
    exact fr_iret rfl dX11_pair_38 h.1 h.2
  · have h := h.2 hc
    refine fr_aload_n (i := 0) (q := 0) rfl dX11_pair_11 rfl ?_
    refine fr_getR dX11_pair_12 rfl fl_X11_51 k_o r_o_now ?_
    refine fr_iload_n (i := 2) (q := 2) rfl dX11_pair_15 rfl ?_
    obtain ⟨v3, hc4, h⟩ := h
    refine fr_callV2 (ν := mu_X8_isText) (st2 := [.int v3]) (As := [.int x2]) (st := []) (v := (some (.int v3))) (M1 := (Z, I, L)) dX11_pair_16 rfl ml_X11_105 mo_X8_isText mi_X8_isText (ci := 8) rfl rfl k_o_now (Nat.le_of_ble_eq_true rfl) rfl rfl (Nat.le_of_ble_eq_true rfl) hc4 rfl ?_
    refine fr_if_eq (tgt := 37) dX11_pair_19 (by decide) rfl (fun hc => ?_) (fun hc => ?_)
    · have h := h.1 hc
      refine fr_iconst (v := (-1)) (by decide) dX11_pair_37 rfl ?_
      exact fr_iret rfl dX11_pair_38 h.1 h.2
    · have h := h.2 hc
      refine fr_aload_n (i := 0) (q := 0) rfl dX11_pair_22 rfl ?_
      refine fr_getR dX11_pair_23 rfl fl_X11_51 k_o r_o_now ?_
      refine fr_getR dX11_pair_26 rfl fl_X11_108 k_o_now r_o_now_poses ?_
      obtain ⟨v5, hc6, h⟩ := h
      refine fr_callV2 (ν := mu_X2_size) (st2 := [.int v5]) (As := []) (st := []) (v := (some (.int v5))) (M1 := (Z, I, L)) dX11_pair_29 rfl ml_X11_111 mo_X2_size mi_X2_size (ci := 2) rfl rfl k_o_now_poses (Nat.le_of_ble_eq_true rfl) rfl rfl (Nat.le_of_ble_eq_true rfl) hc6 rfl ?_
      refine fr_bipush (v := 6) (by decide) dX11_pair_32 rfl ?_
      refine fr_icmp_lt (tgt := 39) dX11_pair_34 (by decide) rfl (fun hc => ?_) (fun hc => ?_)
      · have h := h.1 hc
        refine fr_aload_n (i := 0) (q := 0) rfl dX11_pair_39 rfl ?_
        refine fr_getR dX11_pair_40 rfl fl_X11_51 k_o r_o_now ?_
        refine fr_getR dX11_pair_43 rfl fl_X11_108 k_o_now r_o_now_poses ?_
        refine fr_iload_n (i := 1) (q := 1) rfl dX11_pair_46 rfl ?_
        obtain ⟨I7, L8, hc9, h⟩ := h
        refine fr_callV2 (ν := mu_X2_add) (st2 := []) (As := [.int x1]) (st := []) (v := none) (M1 := (Z, I7, L8)) dX11_pair_47 rfl ml_X11_115 mo_X2_add mi_X2_add (ci := 2) rfl rfl k_o_now_poses (Nat.le_of_ble_eq_true rfl) rfl rfl (Nat.le_of_ble_eq_true rfl) hc9 rfl ?_
        refine fr_aload_n (i := 0) (q := 0) rfl dX11_pair_50 rfl ?_
        refine fr_getR dX11_pair_51 rfl fl_X11_51 k_o r_o_now ?_
        refine fr_getR dX11_pair_54 rfl fl_X11_118 k_o_now r_o_now_habits ?_
        refine fr_iload_n (i := 2) (q := 2) rfl dX11_pair_57 rfl ?_
        obtain ⟨I10, L11, hc12, h⟩ := h
        refine fr_callV2 (ν := mu_X2_add) (st2 := []) (As := [.int x2]) (st := []) (v := none) (M1 := (Z, I10, L11)) dX11_pair_58 rfl ml_X11_115 mo_X2_add mi_X2_add (ci := 2) rfl rfl k_o_now_habits (Nat.le_of_ble_eq_true rfl) rfl rfl (Nat.le_of_ble_eq_true rfl) hc12 rfl ?_
        refine fr_aload_n (i := 0) (q := 0) rfl dX11_pair_61 rfl ?_
        refine fr_getR dX11_pair_62 rfl fl_X11_51 k_o r_o_now ?_
        refine fr_getR dX11_pair_65 rfl fl_X11_108 k_o_now r_o_now_poses ?_
        obtain ⟨v13, hc14, h⟩ := h
        refine fr_callV2 (ν := mu_X2_size) (st2 := [.int v13]) (As := []) (st := []) (v := (some (.int v13))) (M1 := (Z, I10, L11)) dX11_pair_68 rfl ml_X11_111 mo_X2_size mi_X2_size (ci := 2) rfl rfl k_o_now_poses (Nat.le_of_ble_eq_true rfl) rfl rfl (Nat.le_of_ble_eq_true rfl) hc14 rfl ?_
        refine fr_iconst (v := 1) (by decide) dX11_pair_71 rfl ?_
        refine fr_isub dX11_pair_72 rfl ?_
        exact fr_iret rfl dX11_pair_73 h.1 h.2
      · have h := h.2 hc
        refine fr_iconst (v := (-1)) (by decide) dX11_pair_37 rfl ?_
        exact fr_iret rfl dX11_pair_38 h.1 h.2
theorem cp_X11_feed {g : GE} {Z : Zs} {I : Nat → Nat → Int32} {L : Nat → Nat → Int64} {r : Option Value} {M' : Mem} {o : Nat} {x1 : Int32} {x2 : Int32} {x3 : Int32} {x4 : Int32} {x5 : Int32} {o_tape : Nat} (k_o : KM Z o 11) (r_o_tape : Z.2.1 o 2 = some o_tape) (k_o_tape : KM Z o_tape 2) (h : (∃ (v1 : Int32), Cl g 1 mu_X2_size [rf g o_tape] (Z, I, L) (some (.int v1)) (Z, I, L) ∧ (((v1 + 20) ≤ 300 → (∃ (I3 : Nat → Nat → Int32) (L4 : Nat → Nat → Int64), Cl g 2 mu_X11_addBytes [rf g o, .int x1] (Z, I, L) none (Z, I3, L4) ∧ (∃ (I6 : Nat → Nat → Int32) (L7 : Nat → Nat → Int64), Cl g 2 mu_X11_addBytes [rf g o, .int x2] (Z, I3, L4) none (Z, I6, L7) ∧ (∃ (I9 : Nat → Nat → Int32) (L10 : Nat → Nat → Int64), Cl g 2 mu_X11_addBytes [rf g o, .int x3] (Z, I6, L7) none (Z, I9, L10) ∧ (∃ (I12 : Nat → Nat → Int32) (L13 : Nat → Nat → Int64), Cl g 2 mu_X11_addBytes [rf g o, .int x4] (Z, I9, L10) none (Z, I12, L13) ∧ (∃ (I15 : Nat → Nat → Int32) (L16 : Nat → Nat → Int64), Cl g 2 mu_X11_addBytes [rf g o, .int x5] (Z, I12, L13) none (Z, I15, L16) ∧ (∃ (v18 : Int32), Cl g 1 mu_X2_size [rf g o_tape] (Z, I15, L16) (some (.int v18)) (Z, I15, L16) ∧ (r = some (.int v18) ∧ M' = (Z, I15, L16))))))))) ∧ (¬ (v1 + 20) ≤ 300 → (r = some (.int ((-1))) ∧ M' = (Z, I, L)))))) : Cl g 3 mu_X11_feed [rf g o, .int x1, .int x2, .int x3, .int x4, .int x5] (Z, I, L) r M' := by
  refine cl_of (lv := [(0, rf g o), (1, .int x1), (2, .int x2), (3, .int x3), (4, .int x4), (5, .int x5)]) (by decide) (Nat.le_of_ble_eq_true rfl) rfl ?_
  refine fr_aload_n (i := 0) (q := 0) rfl dX11_feed_0 rfl ?_
  refine fr_getR dX11_feed_1 rfl fl_X11_14 k_o r_o_tape ?_
  obtain ⟨v1, hc2, h⟩ := h
  refine fr_callV2 (ν := mu_X2_size) (st2 := [.int v1]) (As := []) (st := []) (v := (some (.int v1))) (M1 := (Z, I, L)) dX11_feed_4 rfl ml_X11_111 mo_X2_size mi_X2_size (ci := 2) rfl rfl k_o_tape (Nat.le_of_ble_eq_true rfl) rfl rfl (Nat.le_of_ble_eq_true rfl) hc2 rfl ?_
  refine fr_bipush (v := 20) (by decide) dX11_feed_7 rfl ?_
  refine fr_iadd dX11_feed_9 rfl ?_
  refine fr_sipush (v := 300) (by decide) dX11_feed_10 rfl ?_
  refine fr_icmp_le (tgt := 18) dX11_feed_13 (by decide) rfl (fun hc => ?_) (fun hc => ?_)
  · have h := h.1 hc
    refine fr_aload_n (i := 0) (q := 0) rfl dX11_feed_18 rfl ?_
    refine fr_iload_n (i := 1) (q := 1) rfl dX11_feed_19 rfl ?_
    obtain ⟨I3, L4, hc5, h⟩ := h
    refine fr_callV2 (ν := mu_X11_addBytes) (st2 := []) (As := [.int x1]) (st := []) (v := none) (M1 := (Z, I3, L4)) dX11_feed_20 rfl ml_X11_121 mo_X11_addBytes mi_X11_addBytes (ci := 11) rfl rfl k_o (Nat.le_of_ble_eq_true rfl) rfl rfl (Nat.le_of_ble_eq_true rfl) hc5 rfl ?_
    refine fr_aload_n (i := 0) (q := 0) rfl dX11_feed_23 rfl ?_
    refine fr_iload_n (i := 2) (q := 2) rfl dX11_feed_24 rfl ?_
    obtain ⟨I6, L7, hc8, h⟩ := h
    refine fr_callV2 (ν := mu_X11_addBytes) (st2 := []) (As := [.int x2]) (st := []) (v := none) (M1 := (Z, I6, L7)) dX11_feed_25 rfl ml_X11_121 mo_X11_addBytes mi_X11_addBytes (ci := 11) rfl rfl k_o (Nat.le_of_ble_eq_true rfl) rfl rfl (Nat.le_of_ble_eq_true rfl) hc8 rfl ?_
    refine fr_aload_n (i := 0) (q := 0) rfl dX11_feed_28 rfl ?_
    refine fr_iload_n (i := 3) (q := 3) rfl dX11_feed_29 rfl ?_
    obtain ⟨I9, L10, hc11, h⟩ := h
    refine fr_callV2 (ν := mu_X11_addBytes) (st2 := []) (As := [.int x3]) (st := []) (v := none) (M1 := (Z, I9, L10)) dX11_feed_30 rfl ml_X11_121 mo_X11_addBytes mi_X11_addBytes (ci := 11) rfl rfl k_o (Nat.le_of_ble_eq_true rfl) rfl rfl (Nat.le_of_ble_eq_true rfl) hc11 rfl ?_
    refine fr_aload_n (i := 0) (q := 0) rfl dX11_feed_33 rfl ?_
    refine fr_iload (q := 4) rfl dX11_feed_34 rfl ?_
    obtain ⟨I12, L13, hc14, h⟩ := h
    refine fr_callV2 (ν := mu_X11_addBytes) (st2 := []) (As := [.int x4]) (st := []) (v := none) (M1 := (Z, I12, L13)) dX11_feed_36 rfl ml_X11_121 mo_X11_addBytes mi_X11_addBytes (ci := 11) rfl rfl k_o (Nat.le_of_ble_eq_true rfl) rfl rfl (Nat.le_of_ble_eq_true rfl) hc14 rfl ?_
    refine fr_aload_n (i := 0) (q := 0) rfl dX11_feed_39 rfl ?_
    refine fr_iload (q := 5) rfl dX11_feed_40 rfl ?_
    obtain ⟨I15, L16, hc17, h⟩ := h
    refine fr_callV2 (ν := mu_X11_addBytes) (st2 := []) (As := [.int x5]) (st := []) (v := none) (M1 := (Z, I15, L16)) dX11_feed_42 rfl ml_X11_121 mo_X11_addBytes mi_X11_addBytes (ci := 11) rfl rfl k_o (Nat.le_of_ble_eq_true rfl) rfl rfl (Nat.le_of_ble_eq_true rfl) hc17 rfl ?_
    refine fr_aload_n (i := 0) (q := 0) rfl dX11_feed_45 rfl ?_
    refine fr_getR dX11_feed_46 rfl fl_X11_14 k_o r_o_tape ?_
    obtain ⟨v18, hc19, h⟩ := h
    refine fr_callV2 (ν := mu_X2_size) (st2 := [.int v18]) (As := []) (st := []) (v := (some (.int v18))) (M1 := (Z, I15, L16)) dX11_feed_49 rfl ml_X11_111 mo_X2_size mi_X2_size (ci := 2) rfl rfl k_o_tape (Nat.le_of_ble_eq_true rfl) rfl rfl (Nat.le_of_ble_eq_true rfl) hc19 rfl ?_
    exact fr_iret rfl dX11_feed_52 h.1 h.2
  · have h := h.2 hc
    refine fr_iconst (v := (-1)) (by decide) dX11_feed_16 rfl ?_
    exact fr_iret rfl dX11_feed_17 h.1 h.2
abbrev Lp_X11_addBytes_3 (g : GE) (d : Nat) (o : Nat) (u1 : Int32) (u2 : Int32) (M : Mem) (r : Option Value) (M' : Mem) : Prop := Fr g d mu_X11_addBytes 3 [(0, rf g o), (1, .int u1), (2, .int u2)] [] M r M'
theorem cp_X11_addBytes {g : GE} {Z : Zs} {I : Nat → Nat → Int32} {L : Nat → Nat → Int64} {r : Option Value} {M' : Mem} {o : Nat} {x1 : Int32} (k_o : KM Z o 11) (h : Lp_X11_addBytes_3 g 2 o x1 24 (Z, I, L) r M') : Cl g 2 mu_X11_addBytes [rf g o, .int x1] (Z, I, L) r M' := by
  refine cl_of (lv := [(0, rf g o), (1, .int x1)]) (by decide) (Nat.le_of_ble_eq_true rfl) rfl ?_
  refine fr_bipush (v := 24) (by decide) dX11_addBytes_0 rfl ?_
  refine fr_istore_n (i := 2) (lv' := [(2, .int 24), (0, rf g o), (1, .int x1)]) dX11_addBytes_2 rfl (by decide) rfl ?_
  exact fr_sub [1, 2, 0] rfl h
theorem wp_X11_addBytes_3 {g : GE} {Z : Zs} {I : Nat → Nat → Int32} {L : Nat → Nat → Int64} {r : Option Value} {M' : Mem} {o : Nat} {u1 : Int32} {u2 : Int32} {o_tape : Nat} (k_o : KM Z o 11) (r_o_tape : Z.2.1 o 2 = some o_tape) (k_o_tape : KM Z o_tape 2) (h : ((u2 < 0 → (r = none ∧ M' = (Z, I, L))) ∧ (¬ u2 < 0 → (∃ (I1 : Nat → Nat → Int32) (L2 : Nat → Nat → Int64), Cl g 1 mu_X2_add [rf g o_tape, .int (((u1.toUInt32 >>> (u2.toUInt32 &&& Int32.toUInt32 31)).toInt32) &&& 255)] (Z, I, L) none (Z, I1, L2) ∧ (∀ y4 : Int32, y4 = (u2 + (-8)) → Lp_X11_addBytes_3 g 2 o u1 y4 (Z, I1, L2) r M'))))) : Lp_X11_addBytes_3 g 2 o u1 u2 (Z, I, L) r M' := by
  refine fr_iload_n (i := 2) (q := 2) rfl dX11_addBytes_3 rfl ?_
  refine fr_if_lt (tgt := 27) dX11_addBytes_4 (by decide) rfl (fun hc => ?_) (fun hc => ?_)
  · have h := h.1 hc
    exact fr_vret rfl dX11_addBytes_27 h.1 h.2
  · have h := h.2 hc
    refine fr_aload_n (i := 0) (q := 0) rfl dX11_addBytes_7 rfl ?_
    refine fr_getR dX11_addBytes_8 rfl fl_X11_14 k_o r_o_tape ?_
    refine fr_iload_n (i := 1) (q := 1) rfl dX11_addBytes_11 rfl ?_
    refine fr_iload_n (i := 2) (q := 2) rfl dX11_addBytes_12 rfl ?_
    refine fr_iushr dX11_addBytes_13 rfl ?_
    refine fr_sipush (v := 255) (by decide) dX11_addBytes_14 rfl ?_
    refine fr_iand dX11_addBytes_17 rfl ?_
    obtain ⟨I1, L2, hc3, h⟩ := h
    refine fr_callV2 (ν := mu_X2_add) (st2 := []) (As := [.int (((u1.toUInt32 >>> (u2.toUInt32 &&& Int32.toUInt32 31)).toInt32) &&& 255)]) (st := []) (v := none) (M1 := (Z, I1, L2)) dX11_addBytes_18 rfl ml_X11_115 mo_X2_add mi_X2_add (ci := 2) rfl rfl k_o_tape (Nat.le_of_ble_eq_true rfl) rfl rfl (Nat.le_of_ble_eq_true rfl) hc3 rfl ?_
    obtain ⟨y4, hy4⟩ : ∃ y : Int32, y = u2 + (-8) := ⟨_, rfl⟩
    have h := h y4 hy4
    refine fr_iinc (q := 2) (v := y4) (lv' := [(2, .int y4), (0, rf g o), (1, .int u1)]) rfl (by rw [hy4]; rfl) dX11_addBytes_21 rfl (by decide) rfl ?_
    refine fr_goto (n := 3) dX11_addBytes_24 (by decide) ?_
    exact fr_sub [1, 2, 0] rfl h
theorem cp_X11_end {g : GE} {Z : Zs} {I : Nat → Nat → Int32} {L : Nat → Nat → Int64} {r : Option Value} {M' : Mem} {o : Nat} {x1 : Int32} {o_tape : Nat} (k_o : KM Z o 11) (r_o_tape : Z.2.1 o 2 = some o_tape) (k_o_tape : KM Z o_tape 2) (h : ((x1 < 0 → (r = some (.int ((-1))) ∧ M' = (Z, I, L))) ∧ (¬ x1 < 0 → (∃ (v1 : Int32), Cl g 1 mu_X2_size [rf g o_tape] (Z, I, L) (some (.int v1)) (Z, I, L) ∧ ((x1 ≤ v1 → (∃ (I3 : Nat → Nat → Int32) (L4 : Nat → Nat → Int64), Cl g 2 mu_X2_cutTo [rf g o_tape, .int x1] (Z, I, L) none (Z, I3, L4) ∧ (r = some (.int x1) ∧ M' = (Z, I3, L4)))) ∧ (¬ x1 ≤ v1 → (r = some (.int ((-1))) ∧ M' = (Z, I, L)))))))) : Cl g 3 mu_X11_end [rf g o, .int x1] (Z, I, L) r M' := by
  refine cl_of (lv := [(0, rf g o), (1, .int x1)]) (by decide) (Nat.le_of_ble_eq_true rfl) rfl ?_
  refine fr_iload_n (i := 1) (q := 1) rfl dX11_end_0 rfl ?_
  refine fr_if_lt (tgt := 15) dX11_end_1 (by decide) rfl (fun hc => ?_) (fun hc => ?_)
  · have h := h.1 hc
    refine fr_iconst (v := (-1)) (by decide) dX11_end_15 rfl ?_
    exact fr_iret rfl dX11_end_16 h.1 h.2
  · have h := h.2 hc
    refine fr_iload_n (i := 1) (q := 1) rfl dX11_end_4 rfl ?_
    refine fr_aload_n (i := 0) (q := 0) rfl dX11_end_5 rfl ?_
    refine fr_getR dX11_end_6 rfl fl_X11_14 k_o r_o_tape ?_
    obtain ⟨v1, hc2, h⟩ := h
    refine fr_callV2 (ν := mu_X2_size) (st2 := [.int v1, .int x1]) (As := []) (st := [.int x1]) (v := (some (.int v1))) (M1 := (Z, I, L)) dX11_end_9 rfl ml_X11_111 mo_X2_size mi_X2_size (ci := 2) rfl rfl k_o_tape (Nat.le_of_ble_eq_true rfl) rfl rfl (Nat.le_of_ble_eq_true rfl) hc2 rfl ?_
    refine fr_icmp_le (tgt := 17) dX11_end_12 (by decide) rfl (fun hc => ?_) (fun hc => ?_)
    · have h := h.1 hc
      refine fr_aload_n (i := 0) (q := 0) rfl dX11_end_17 rfl ?_
      refine fr_getR dX11_end_18 rfl fl_X11_14 k_o r_o_tape ?_
      refine fr_iload_n (i := 1) (q := 1) rfl dX11_end_21 rfl ?_
      obtain ⟨I3, L4, hc5, h⟩ := h
      refine fr_callV2 (ν := mu_X2_cutTo) (st2 := []) (As := [.int x1]) (st := []) (v := none) (M1 := (Z, I3, L4)) dX11_end_22 rfl ml_X11_124 mo_X2_cutTo mi_X2_cutTo (ci := 2) rfl rfl k_o_tape (Nat.le_of_ble_eq_true rfl) rfl rfl (Nat.le_of_ble_eq_true rfl) hc5 rfl ?_
      refine fr_iload_n (i := 1) (q := 1) rfl dX11_end_25 rfl ?_
      exact fr_iret rfl dX11_end_26 h.1 h.2
    · have h := h.2 hc
      refine fr_iconst (v := (-1)) (by decide) dX11_end_15 rfl ?_
      exact fr_iret rfl dX11_end_16 h.1 h.2
theorem cp_X11_fault {g : GE} {Z : Zs} {I : Nat → Nat → Int32} {L : Nat → Nat → Int64} {r : Option Value} {M' : Mem} {o : Nat} {x1 : Int32} (k_o : KM Z o 11) (h : ((¬ x1 = 0 → ((¬ x1 = 1 → (r = some (.int ((-1))) ∧ M' = (Z, I, L))) ∧ (x1 = 1 → (r = some (.int (I o 11)) ∧ M' = (Z, I, L))))) ∧ (x1 = 0 → (r = some (.int (I o 10)) ∧ M' = (Z, I, L))))) : Cl g 1 mu_X11_fault [rf g o, .int x1] (Z, I, L) r M' := by
  refine cl_of (lv := [(0, rf g o), (1, .int x1)]) (by decide) (Nat.le_of_ble_eq_true rfl) rfl ?_
  refine fr_iload_n (i := 1) (q := 1) rfl dX11_fault_0 rfl ?_
  refine fr_if_ne (tgt := 9) dX11_fault_1 (by decide) rfl (fun hc => ?_) (fun hc => ?_)
  · have h := h.1 hc
    refine fr_iload_n (i := 1) (q := 1) rfl dX11_fault_9 rfl ?_
    refine fr_iconst (v := 1) (by decide) dX11_fault_10 rfl ?_
    refine fr_icmp_ne (tgt := 21) dX11_fault_11 (by decide) rfl (fun hc => ?_) (fun hc => ?_)
    · have h := h.1 hc
      refine fr_iconst (v := (-1)) (by decide) dX11_fault_21 rfl ?_
      exact fr_iret rfl dX11_fault_22 h.1 h.2
    · have h := h.2 hc
      refine fr_aload_n (i := 0) (q := 0) rfl dX11_fault_14 rfl ?_
      refine fr_getI dX11_fault_15 rfl fl_X11_43 k_o ?_
      refine fr_goto (n := 22) dX11_fault_18 (by decide) ?_
      exact fr_iret rfl dX11_fault_22 h.1 h.2
  · have h := h.2 hc
    refine fr_aload_n (i := 0) (q := 0) rfl dX11_fault_4 rfl ?_
    refine fr_getI dX11_fault_5 rfl fl_X11_39 k_o ?_
    exact fr_iret rfl dX11_fault_8 h.1 h.2
theorem cp_X11_goes {g : GE} {Z : Zs} {I : Nat → Nat → Int32} {L : Nat → Nat → Int64} {r : Option Value} {M' : Mem} {o : Nat} {x1 : Int32} {x2 : Int32} {x3 : Int32} {o_now : Nat} {o_legs : Nat} (k_o : KM Z o 11) (r_o_now : Z.2.1 o 0 = some o_now) (k_o_now : KM Z o_now 8) (r_o_legs : Z.2.1 o 5 = some o_legs) (k_o_legs : KM Z o_legs 3) (h : (∃ (v1 : Int32), Cl g 1 mu_X8_isText [rf g o_now, .int x1] (Z, I, L) (some (.int v1)) (Z, I, L) ∧ ((v1 = 0 → (r = some (.int ((-1))) ∧ M' = (Z, I, L))) ∧ (¬ v1 = 0 → (∃ (v3 : Int32), Cl g 2 mu_X8_isPose [rf g o_now, .int x2] (Z, I, L) (some (.int v3)) (Z, I, L) ∧ ((v3 = 0 → (r = some (.int ((-1))) ∧ M' = (Z, I, L))) ∧ (¬ v3 = 0 → (∃ (v5 : Int32), Cl g 1 mu_X11_isTap [.int x3] (Z, I, L) (some (.int v5)) (Z, I, L) ∧ ((¬ v5 = 0 → (∃ (v7 : Int32) (I8 : Nat → Nat → Int32) (L9 : Nat → Nat → Int64), Cl g 5 mu_X3_step [rf g o_legs, .int x1, .int x2, .int x3] (Z, I, L) (some (.int v7)) (Z, I8, L9) ∧ (r = some (.int v7) ∧ M' = (Z, I8, L9)))) ∧ (v5 = 0 → (r = some (.int ((-1))) ∧ M' = (Z, I, L)))))))))))) : Cl g 6 mu_X11_goes [rf g o, .int x1, .int x2, .int x3] (Z, I, L) r M' := by
  refine cl_of (lv := [(0, rf g o), (1, .int x1), (2, .int x2), (3, .int x3)]) (by decide) (Nat.le_of_ble_eq_true rfl) rfl ?_
  refine fr_aload_n (i := 0) (q := 0) rfl dX11_goes_0 rfl ?_
  refine fr_getR dX11_goes_1 rfl fl_X11_51 k_o r_o_now ?_
  refine fr_iload_n (i := 1) (q := 1) rfl dX11_goes_4 rfl ?_
  obtain ⟨v1, hc2, h⟩ := h
  refine fr_callV2 (ν := mu_X8_isText) (st2 := [.int v1]) (As := [.int x1]) (st := []) (v := (some (.int v1))) (M1 := (Z, I, L)) dX11_goes_5 rfl ml_X11_105 mo_X8_isText mi_X8_isText (ci := 8) rfl rfl k_o_now (Nat.le_of_ble_eq_true rfl) rfl rfl (Nat.le_of_ble_eq_true rfl) hc2 rfl ?_
  refine fr_if_eq (tgt := 29) dX11_goes_8 (by decide) rfl (fun hc => ?_) (fun hc => ?_)
  · have h := h.1 hc
    refine fr_iconst (v := (-1)) (by decide) dX11_goes_29 rfl ?_
    exact fr_iret rfl dX11_goes_30 h.1 h.2
  · have h := h.2 hc
    refine fr_aload_n (i := 0) (q := 0) rfl dX11_goes_11 rfl ?_
    refine fr_getR dX11_goes_12 rfl fl_X11_51 k_o r_o_now ?_
    refine fr_iload_n (i := 2) (q := 2) rfl dX11_goes_15 rfl ?_
    obtain ⟨v3, hc4, h⟩ := h
    refine fr_callV2 (ν := mu_X8_isPose) (st2 := [.int v3]) (As := [.int x2]) (st := []) (v := (some (.int v3))) (M1 := (Z, I, L)) dX11_goes_16 rfl ml_X11_102 mo_X8_isPose mi_X8_isPose (ci := 8) rfl rfl k_o_now (Nat.le_of_ble_eq_true rfl) rfl rfl (Nat.le_of_ble_eq_true rfl) hc4 rfl ?_
    refine fr_if_eq (tgt := 29) dX11_goes_19 (by decide) rfl (fun hc => ?_) (fun hc => ?_)
    · have h := h.1 hc
      refine fr_iconst (v := (-1)) (by decide) dX11_goes_29 rfl ?_
      exact fr_iret rfl dX11_goes_30 h.1 h.2
    · have h := h.2 hc
      refine fr_iload_n (i := 3) (q := 3) rfl dX11_goes_22 rfl ?_
      obtain ⟨v5, hc6, h⟩ := h
      refine fr_callS2 (ν := mu_X11_isTap) (st2 := [.int v5]) (As := [.int x3]) (st := []) (v := (some (.int v5))) (M1 := (Z, I, L)) dX11_goes_23 rfl ml_X11_144 mo_X11_isTap ms_X11_isTap (Nat.le_of_ble_eq_true rfl) rfl rfl (Nat.le_of_ble_eq_true rfl) hc6 rfl ?_
      refine fr_if_ne (tgt := 31) dX11_goes_26 (by decide) rfl (fun hc => ?_) (fun hc => ?_)
      · have h := h.1 hc
        refine fr_aload_n (i := 0) (q := 0) rfl dX11_goes_31 rfl ?_
        refine fr_getR dX11_goes_32 rfl fl_X11_63 k_o r_o_legs ?_
        refine fr_iload_n (i := 1) (q := 1) rfl dX11_goes_35 rfl ?_
        refine fr_iload_n (i := 2) (q := 2) rfl dX11_goes_36 rfl ?_
        refine fr_iload_n (i := 3) (q := 3) rfl dX11_goes_37 rfl ?_
        obtain ⟨v7, I8, L9, hc10, h⟩ := h
        refine fr_callV2 (ν := mu_X3_step) (st2 := [.int v7]) (As := [.int x1, .int x2, .int x3]) (st := []) (v := (some (.int v7))) (M1 := (Z, I8, L9)) dX11_goes_38 rfl ml_X11_147 mo_X3_step mi_X3_step (ci := 3) rfl rfl k_o_legs (Nat.le_of_ble_eq_true rfl) rfl rfl (Nat.le_of_ble_eq_true rfl) hc10 rfl ?_
        exact fr_iret rfl dX11_goes_41 h.1 h.2
      · have h := h.2 hc
        refine fr_iconst (v := (-1)) (by decide) dX11_goes_29 rfl ?_
        exact fr_iret rfl dX11_goes_30 h.1 h.2
theorem cp_X11_tap {g : GE} {Z : Zs} {I : Nat → Nat → Int32} {L : Nat → Nat → Int64} {r : Option Value} {M' : Mem} {o : Nat} {x1 : Int32} {x2 : Int32} {o_now : Nat} {o_legs : Nat} {o_now_habits : Nat} {o_now_poses : Nat} (k_o : KM Z o 11) (r_o_now : Z.2.1 o 0 = some o_now) (k_o_now : KM Z o_now 8) (r_o_legs : Z.2.1 o 5 = some o_legs) (k_o_legs : KM Z o_legs 3) (r_o_now_habits : Z.2.1 o_now 4 = some o_now_habits) (k_o_now_habits : KM Z o_now_habits 2) (r_o_now_poses : Z.2.1 o_now 3 = some o_now_poses) (k_o_now_poses : KM Z o_now_poses 2) (h : (∃ (v1 : Int32), Cl g 2 mu_X8_isPair [rf g o_now, .int x1] (Z, I, L) (some (.int v1)) (Z, I, L) ∧ ((v1 = 0 → (r = some (.int ((-1))) ∧ M' = (Z, I, L))) ∧ (¬ v1 = 0 → (∃ (v3 : Int32), Cl g 1 mu_X11_isTap [.int x2] (Z, I, L) (some (.int v3)) (Z, I, L) ∧ ((¬ v3 = 0 → (∃ (I5 : Nat → Nat → Int32) (L6 : Nat → Nat → Int64), Cl g 3 mu_X8_keepStep [rf g o_now, .int x1] (Z, I, L) none (Z, I5, L6) ∧ (∃ (v8 : Int32), Cl g 1 mu_X2_at [rf g o_now_habits, .int x1] (Z, I5, L6) (some (.int v8)) (Z, I5, L6) ∧ (∃ (v10 : Int32), Cl g 1 mu_X2_at [rf g o_now_poses, .int x1] (Z, I5, L6) (some (.int v10)) (Z, I5, L6) ∧ (∃ (v12 : Int32) (I13 : Nat → Nat → Int32) (L14 : Nat → Nat → Int64), Cl g 5 mu_X3_step [rf g o_legs, .int v8, .int v10, .int x2] (Z, I5, L6) (some (.int v12)) (Z, I13, L14) ∧ (∃ (v16 : Int32), Cl g 1 mu_X11_poseOf [.int v12] (Z, I13, L14) (some (.int v16)) (Z, I13, L14) ∧ (∃ (I18 : Nat → Nat → Int32) (L19 : Nat → Nat → Int64), Cl g 1 mu_X2_put [rf g o_now_poses, .int x1, .int v16] (Z, I13, L14) none (Z, I18, L19) ∧ (r = some (.int v12) ∧ M' = (Z, I18, L19))))))))) ∧ (v3 = 0 → (r = some (.int ((-1))) ∧ M' = (Z, I, L))))))))) : Cl g 6 mu_X11_tap [rf g o, .int x1, .int x2] (Z, I, L) r M' := by
  refine cl_of (lv := [(0, rf g o), (1, .int x1), (2, .int x2)]) (by decide) (Nat.le_of_ble_eq_true rfl) rfl ?_
  refine fr_aload_n (i := 0) (q := 0) rfl dX11_tap_0 rfl ?_
  refine fr_getR dX11_tap_1 rfl fl_X11_51 k_o r_o_now ?_
  refine fr_iload_n (i := 1) (q := 1) rfl dX11_tap_4 rfl ?_
  obtain ⟨v1, hc2, h⟩ := h
  refine fr_callV2 (ν := mu_X8_isPair) (st2 := [.int v1]) (As := [.int x1]) (st := []) (v := (some (.int v1))) (M1 := (Z, I, L)) dX11_tap_5 rfl ml_X11_151 mo_X8_isPair mi_X8_isPair (ci := 8) rfl rfl k_o_now (Nat.le_of_ble_eq_true rfl) rfl rfl (Nat.le_of_ble_eq_true rfl) hc2 rfl ?_
  refine fr_if_eq (tgt := 18) dX11_tap_8 (by decide) rfl (fun hc => ?_) (fun hc => ?_)
  · have h := h.1 hc
    refine fr_iconst (v := (-1)) (by decide) dX11_tap_18 rfl ?_
    exact fr_iret rfl dX11_tap_19 h.1 h.2
  · have h := h.2 hc
    refine fr_iload_n (i := 2) (q := 2) rfl dX11_tap_11 rfl ?_
    obtain ⟨v3, hc4, h⟩ := h
    refine fr_callS2 (ν := mu_X11_isTap) (st2 := [.int v3]) (As := [.int x2]) (st := []) (v := (some (.int v3))) (M1 := (Z, I, L)) dX11_tap_12 rfl ml_X11_144 mo_X11_isTap ms_X11_isTap (Nat.le_of_ble_eq_true rfl) rfl rfl (Nat.le_of_ble_eq_true rfl) hc4 rfl ?_
    refine fr_if_ne (tgt := 20) dX11_tap_15 (by decide) rfl (fun hc => ?_) (fun hc => ?_)
    · have h := h.1 hc
      refine fr_aload_n (i := 0) (q := 0) rfl dX11_tap_20 rfl ?_
      refine fr_getR dX11_tap_21 rfl fl_X11_51 k_o r_o_now ?_
      refine fr_iload_n (i := 1) (q := 1) rfl dX11_tap_24 rfl ?_
      obtain ⟨I5, L6, hc7, h⟩ := h
      refine fr_callV2 (ν := mu_X8_keepStep) (st2 := []) (As := [.int x1]) (st := []) (v := none) (M1 := (Z, I5, L6)) dX11_tap_25 rfl ml_X11_154 mo_X8_keepStep mi_X8_keepStep (ci := 8) rfl rfl k_o_now (Nat.le_of_ble_eq_true rfl) rfl rfl (Nat.le_of_ble_eq_true rfl) hc7 rfl ?_
      refine fr_aload_n (i := 0) (q := 0) rfl dX11_tap_28 rfl ?_
      refine fr_getR dX11_tap_29 rfl fl_X11_63 k_o r_o_legs ?_
      refine fr_aload_n (i := 0) (q := 0) rfl dX11_tap_32 rfl ?_
      refine fr_getR dX11_tap_33 rfl fl_X11_51 k_o r_o_now ?_
      refine fr_getR dX11_tap_36 rfl fl_X11_118 k_o_now r_o_now_habits ?_
      refine fr_iload_n (i := 1) (q := 1) rfl dX11_tap_39 rfl ?_
      obtain ⟨v8, hc9, h⟩ := h
      refine fr_callV2 (ν := mu_X2_at) (st2 := [.int v8, rf g o_legs]) (As := [.int x1]) (st := [rf g o_legs]) (v := (some (.int v8))) (M1 := (Z, I5, L6)) dX11_tap_40 rfl ml_X11_157 mo_X2_at mi_X2_at (ci := 2) rfl rfl k_o_now_habits (Nat.le_of_ble_eq_true rfl) rfl rfl (Nat.le_of_ble_eq_true rfl) hc9 rfl ?_
      refine fr_aload_n (i := 0) (q := 0) rfl dX11_tap_43 rfl ?_
      refine fr_getR dX11_tap_44 rfl fl_X11_51 k_o r_o_now ?_
      refine fr_getR dX11_tap_47 rfl fl_X11_108 k_o_now r_o_now_poses ?_
      refine fr_iload_n (i := 1) (q := 1) rfl dX11_tap_50 rfl ?_
      obtain ⟨v10, hc11, h⟩ := h
      refine fr_callV2 (ν := mu_X2_at) (st2 := [.int v10, .int v8, rf g o_legs]) (As := [.int x1]) (st := [.int v8, rf g o_legs]) (v := (some (.int v10))) (M1 := (Z, I5, L6)) dX11_tap_51 rfl ml_X11_157 mo_X2_at mi_X2_at (ci := 2) rfl rfl k_o_now_poses (Nat.le_of_ble_eq_true rfl) rfl rfl (Nat.le_of_ble_eq_true rfl) hc11 rfl ?_
      refine fr_iload_n (i := 2) (q := 2) rfl dX11_tap_54 rfl ?_
      obtain ⟨v12, I13, L14, hc15, h⟩ := h
      refine fr_callV2 (ν := mu_X3_step) (st2 := [.int v12]) (As := [.int v8, .int v10, .int x2]) (st := []) (v := (some (.int v12))) (M1 := (Z, I13, L14)) dX11_tap_55 rfl ml_X11_147 mo_X3_step mi_X3_step (ci := 3) rfl rfl k_o_legs (Nat.le_of_ble_eq_true rfl) rfl rfl (Nat.le_of_ble_eq_true rfl) hc15 rfl ?_
      refine fr_istore_n (i := 3) (lv' := [(3, .int v12), (0, rf g o), (1, .int x1), (2, .int x2)]) dX11_tap_58 rfl (by decide) rfl ?_
      refine fr_aload_n (i := 0) (q := 1) rfl dX11_tap_59 rfl ?_
      refine fr_getR dX11_tap_60 rfl fl_X11_51 k_o r_o_now ?_
      refine fr_getR dX11_tap_63 rfl fl_X11_108 k_o_now r_o_now_poses ?_
      refine fr_iload_n (i := 1) (q := 2) rfl dX11_tap_66 rfl ?_
      refine fr_iload_n (i := 3) (q := 0) rfl dX11_tap_67 rfl ?_
      obtain ⟨v16, hc17, h⟩ := h
      refine fr_callS2 (ν := mu_X11_poseOf) (st2 := [.int v16, .int x1, rf g o_now_poses]) (As := [.int v12]) (st := [.int x1, rf g o_now_poses]) (v := (some (.int v16))) (M1 := (Z, I13, L14)) dX11_tap_68 rfl ml_X11_161 mo_X11_poseOf ms_X11_poseOf (Nat.le_of_ble_eq_true rfl) rfl rfl (Nat.le_of_ble_eq_true rfl) hc17 rfl ?_
      obtain ⟨I18, L19, hc20, h⟩ := h
      refine fr_callV2 (ν := mu_X2_put) (st2 := []) (As := [.int x1, .int v16]) (st := []) (v := none) (M1 := (Z, I18, L19)) dX11_tap_71 rfl ml_X11_93 mo_X2_put mi_X2_put (ci := 2) rfl rfl k_o_now_poses (Nat.le_of_ble_eq_true rfl) rfl rfl (Nat.le_of_ble_eq_true rfl) hc20 rfl ?_
      refine fr_iload_n (i := 3) (q := 0) rfl dX11_tap_74 rfl ?_
      exact fr_iret rfl dX11_tap_75 h.1 h.2
    · have h := h.2 hc
      refine fr_iconst (v := (-1)) (by decide) dX11_tap_18 rfl ?_
      exact fr_iret rfl dX11_tap_19 h.1 h.2
theorem cp_X11_row {g : GE} {Z : Zs} {I : Nat → Nat → Int32} {L : Nat → Nat → Int64} {r : Option Value} {M' : Mem} {o : Nat} {x1 : Int32} {o_now : Nat} {o_now_taps : Nat} (k_o : KM Z o 11) (r_o_now : Z.2.1 o 0 = some o_now) (k_o_now : KM Z o_now 8) (r_o_now_taps : Z.2.1 o_now 5 = some o_now_taps) (k_o_now_taps : KM Z o_now_taps 2) (h : ((¬ x1 = ((-1)) → (∃ (v1 : Int32), Cl g 1 mu_X11_isTap [.int x1] (Z, I, L) (some (.int v1)) (Z, I, L) ∧ ((v1 = 0 → (r = some (.int ((-1))) ∧ M' = (Z, I, L))) ∧ (¬ v1 = 0 → (∃ (v3 : Int32), Cl g 1 mu_X2_size [rf g o_now_taps] (Z, I, L) (some (.int v3)) (Z, I, L) ∧ ((v3 < 16 → (∃ (I5 : Nat → Nat → Int32) (L6 : Nat → Nat → Int64), Cl g 1 mu_X2_add [rf g o_now_taps, .int x1] (Z, I, L) none (Z, I5, L6) ∧ (∃ (v8 : Int32), Cl g 1 mu_X2_size [rf g o_now_taps] (Z, I5, L6) (some (.int v8)) (Z, I5, L6) ∧ (r = some (.int v8) ∧ M' = (Z, I5, L6))))) ∧ (¬ v3 < 16 → (r = some (.int ((-1))) ∧ M' = (Z, I, L))))))))) ∧ (x1 = ((-1)) → (∃ (I10 : Nat → Nat → Int32) (L11 : Nat → Nat → Int64), Cl g 2 mu_X2_cutTo [rf g o_now_taps, .int 0] (Z, I, L) none (Z, I10, L11) ∧ (r = some (.int 0) ∧ M' = (Z, I10, L11)))))) : Cl g 3 mu_X11_row [rf g o, .int x1] (Z, I, L) r M' := by
  refine cl_of (lv := [(0, rf g o), (1, .int x1)]) (by decide) (Nat.le_of_ble_eq_true rfl) rfl ?_
  refine fr_iload_n (i := 1) (q := 1) rfl dX11_row_0 rfl ?_
  refine fr_iconst (v := (-1)) (by decide) dX11_row_1 rfl ?_
  refine fr_icmp_ne (tgt := 18) dX11_row_2 (by decide) rfl (fun hc => ?_) (fun hc => ?_)
  · have h := h.1 hc
    refine fr_iload_n (i := 1) (q := 1) rfl dX11_row_18 rfl ?_
    obtain ⟨v1, hc2, h⟩ := h
    refine fr_callS2 (ν := mu_X11_isTap) (st2 := [.int v1]) (As := [.int x1]) (st := []) (v := (some (.int v1))) (M1 := (Z, I, L)) dX11_row_19 rfl ml_X11_144 mo_X11_isTap ms_X11_isTap (Nat.le_of_ble_eq_true rfl) rfl rfl (Nat.le_of_ble_eq_true rfl) hc2 rfl ?_
    refine fr_if_eq (tgt := 40) dX11_row_22 (by decide) rfl (fun hc => ?_) (fun hc => ?_)
    · have h := h.1 hc
      refine fr_iconst (v := (-1)) (by decide) dX11_row_40 rfl ?_
      exact fr_iret rfl dX11_row_41 h.1 h.2
    · have h := h.2 hc
      refine fr_aload_n (i := 0) (q := 0) rfl dX11_row_25 rfl ?_
      refine fr_getR dX11_row_26 rfl fl_X11_51 k_o r_o_now ?_
      refine fr_getR dX11_row_29 rfl fl_X11_164 k_o_now r_o_now_taps ?_
      obtain ⟨v3, hc4, h⟩ := h
      refine fr_callV2 (ν := mu_X2_size) (st2 := [.int v3]) (As := []) (st := []) (v := (some (.int v3))) (M1 := (Z, I, L)) dX11_row_32 rfl ml_X11_111 mo_X2_size mi_X2_size (ci := 2) rfl rfl k_o_now_taps (Nat.le_of_ble_eq_true rfl) rfl rfl (Nat.le_of_ble_eq_true rfl) hc4 rfl ?_
      refine fr_bipush (v := 16) (by decide) dX11_row_35 rfl ?_
      refine fr_icmp_lt (tgt := 42) dX11_row_37 (by decide) rfl (fun hc => ?_) (fun hc => ?_)
      · have h := h.1 hc
        refine fr_aload_n (i := 0) (q := 0) rfl dX11_row_42 rfl ?_
        refine fr_getR dX11_row_43 rfl fl_X11_51 k_o r_o_now ?_
        refine fr_getR dX11_row_46 rfl fl_X11_164 k_o_now r_o_now_taps ?_
        refine fr_iload_n (i := 1) (q := 1) rfl dX11_row_49 rfl ?_
        obtain ⟨I5, L6, hc7, h⟩ := h
        refine fr_callV2 (ν := mu_X2_add) (st2 := []) (As := [.int x1]) (st := []) (v := none) (M1 := (Z, I5, L6)) dX11_row_50 rfl ml_X11_115 mo_X2_add mi_X2_add (ci := 2) rfl rfl k_o_now_taps (Nat.le_of_ble_eq_true rfl) rfl rfl (Nat.le_of_ble_eq_true rfl) hc7 rfl ?_
        refine fr_aload_n (i := 0) (q := 0) rfl dX11_row_53 rfl ?_
        refine fr_getR dX11_row_54 rfl fl_X11_51 k_o r_o_now ?_
        refine fr_getR dX11_row_57 rfl fl_X11_164 k_o_now r_o_now_taps ?_
        obtain ⟨v8, hc9, h⟩ := h
        refine fr_callV2 (ν := mu_X2_size) (st2 := [.int v8]) (As := []) (st := []) (v := (some (.int v8))) (M1 := (Z, I5, L6)) dX11_row_60 rfl ml_X11_111 mo_X2_size mi_X2_size (ci := 2) rfl rfl k_o_now_taps (Nat.le_of_ble_eq_true rfl) rfl rfl (Nat.le_of_ble_eq_true rfl) hc9 rfl ?_
        exact fr_iret rfl dX11_row_63 h.1 h.2
      · have h := h.2 hc
        refine fr_iconst (v := (-1)) (by decide) dX11_row_40 rfl ?_
        exact fr_iret rfl dX11_row_41 h.1 h.2
  · have h := h.2 hc
    refine fr_aload_n (i := 0) (q := 0) rfl dX11_row_5 rfl ?_
    refine fr_getR dX11_row_6 rfl fl_X11_51 k_o r_o_now ?_
    refine fr_getR dX11_row_9 rfl fl_X11_164 k_o_now r_o_now_taps ?_
    refine fr_iconst (v := 0) (by decide) dX11_row_12 rfl ?_
    obtain ⟨I10, L11, hc12, h⟩ := h
    refine fr_callV2 (ν := mu_X2_cutTo) (st2 := []) (As := [.int 0]) (st := []) (v := none) (M1 := (Z, I10, L11)) dX11_row_13 rfl ml_X11_124 mo_X2_cutTo mi_X2_cutTo (ci := 2) rfl rfl k_o_now_taps (Nat.le_of_ble_eq_true rfl) rfl rfl (Nat.le_of_ble_eq_true rfl) hc12 rfl ?_
    refine fr_iconst (v := 0) (by decide) dX11_row_16 rfl ?_
    exact fr_iret rfl dX11_row_17 h.1 h.2
abbrev Lp_X11_walk_38 (g : GE) (d : Nat) (o : Nat) (u1 : Int32) (u2 : Int32) (u3 : Int32) (u4 : Int32) (M : Mem) (r : Option Value) (M' : Mem) : Prop := Fr g d mu_X11_walk 38 [(0, rf g o), (1, .int u1), (2, .int u2), (3, .int u3), (4, .int u4)] [] M r M'
theorem cp_X11_walk {g : GE} {Z : Zs} {I : Nat → Nat → Int32} {L : Nat → Nat → Int64} {r : Option Value} {M' : Mem} {o : Nat} {x1 : Int32} {o_now : Nat} {o_now_poses : Nat} (k_o : KM Z o 11) (r_o_now : Z.2.1 o 0 = some o_now) (k_o_now : KM Z o_now 8) (r_o_now_poses : Z.2.1 o_now 3 = some o_now_poses) (k_o_now_poses : KM Z o_now_poses 2) (h : (∃ (v1 : Int32), Cl g 2 mu_X8_isPair [rf g o_now, .int x1] (Z, I, L) (some (.int v1)) (Z, I, L) ∧ ((¬ v1 = 0 → (∃ (I3 : Nat → Nat → Int32) (L4 : Nat → Nat → Int64), Cl g 3 mu_X8_keepStep [rf g o_now, .int x1] (Z, I, L) none (Z, I3, L4) ∧ (∃ (v6 : Int32), Cl g 1 mu_X2_at [rf g o_now_poses, .int x1] (Z, I3, L4) (some (.int v6)) (Z, I3, L4) ∧ Lp_X11_walk_38 g 6 o x1 v6 0 0 (Z, I3, L4) r M'))) ∧ (v1 = 0 → (r = some (.int ((-1))) ∧ M' = (Z, I, L)))))) : Cl g 6 mu_X11_walk [rf g o, .int x1] (Z, I, L) r M' := by
  refine cl_of (lv := [(0, rf g o), (1, .int x1)]) (by decide) (Nat.le_of_ble_eq_true rfl) rfl ?_
  refine fr_aload_n (i := 0) (q := 0) rfl dX11_walk_0 rfl ?_
  refine fr_getR dX11_walk_1 rfl fl_X11_51 k_o r_o_now ?_
  refine fr_iload_n (i := 1) (q := 1) rfl dX11_walk_4 rfl ?_
  obtain ⟨v1, hc2, h⟩ := h
  refine fr_callV2 (ν := mu_X8_isPair) (st2 := [.int v1]) (As := [.int x1]) (st := []) (v := (some (.int v1))) (M1 := (Z, I, L)) dX11_walk_5 rfl ml_X11_151 mo_X8_isPair mi_X8_isPair (ci := 8) rfl rfl k_o_now (Nat.le_of_ble_eq_true rfl) rfl rfl (Nat.le_of_ble_eq_true rfl) hc2 rfl ?_
  refine fr_if_ne (tgt := 13) dX11_walk_8 (by decide) rfl (fun hc => ?_) (fun hc => ?_)
  · have h := h.1 hc
    refine fr_aload_n (i := 0) (q := 0) rfl dX11_walk_13 rfl ?_
    refine fr_getR dX11_walk_14 rfl fl_X11_51 k_o r_o_now ?_
    refine fr_iload_n (i := 1) (q := 1) rfl dX11_walk_17 rfl ?_
    obtain ⟨I3, L4, hc5, h⟩ := h
    refine fr_callV2 (ν := mu_X8_keepStep) (st2 := []) (As := [.int x1]) (st := []) (v := none) (M1 := (Z, I3, L4)) dX11_walk_18 rfl ml_X11_154 mo_X8_keepStep mi_X8_keepStep (ci := 8) rfl rfl k_o_now (Nat.le_of_ble_eq_true rfl) rfl rfl (Nat.le_of_ble_eq_true rfl) hc5 rfl ?_
    refine fr_aload_n (i := 0) (q := 0) rfl dX11_walk_21 rfl ?_
    refine fr_getR dX11_walk_22 rfl fl_X11_51 k_o r_o_now ?_
    refine fr_getR dX11_walk_25 rfl fl_X11_108 k_o_now r_o_now_poses ?_
    refine fr_iload_n (i := 1) (q := 1) rfl dX11_walk_28 rfl ?_
    obtain ⟨v6, hc7, h⟩ := h
    refine fr_callV2 (ν := mu_X2_at) (st2 := [.int v6]) (As := [.int x1]) (st := []) (v := (some (.int v6))) (M1 := (Z, I3, L4)) dX11_walk_29 rfl ml_X11_157 mo_X2_at mi_X2_at (ci := 2) rfl rfl k_o_now_poses (Nat.le_of_ble_eq_true rfl) rfl rfl (Nat.le_of_ble_eq_true rfl) hc7 rfl ?_
    refine fr_istore_n (i := 2) (lv' := [(2, .int v6), (0, rf g o), (1, .int x1)]) dX11_walk_32 rfl (by decide) rfl ?_
    refine fr_iconst (v := 0) (by decide) dX11_walk_33 rfl ?_
    refine fr_istore_n (i := 3) (lv' := [(3, .int 0), (2, .int v6), (0, rf g o), (1, .int x1)]) dX11_walk_34 rfl (by decide) rfl ?_
    refine fr_iconst (v := 0) (by decide) dX11_walk_35 rfl ?_
    refine fr_istore (lv' := [(4, .int 0), (3, .int 0), (2, .int v6), (0, rf g o), (1, .int x1)]) dX11_walk_36 rfl (by decide) rfl ?_
    exact fr_sub [3, 4, 2, 1, 0] rfl h
  · have h := h.2 hc
    refine fr_iconst (v := (-1)) (by decide) dX11_walk_11 rfl ?_
    exact fr_iret rfl dX11_walk_12 h.1 h.2
theorem wp_X11_walk_38 {g : GE} {Z : Zs} {I : Nat → Nat → Int32} {L : Nat → Nat → Int64} {r : Option Value} {M' : Mem} {o : Nat} {u1 : Int32} {u2 : Int32} {u3 : Int32} {u4 : Int32} {o_now : Nat} {o_now_taps : Nat} {o_now_poses : Nat} {o_legs : Nat} {o_now_habits : Nat} (k_o : KM Z o 11) (r_o_now : Z.2.1 o 0 = some o_now) (k_o_now : KM Z o_now 8) (r_o_now_taps : Z.2.1 o_now 5 = some o_now_taps) (k_o_now_taps : KM Z o_now_taps 2) (r_o_now_poses : Z.2.1 o_now 3 = some o_now_poses) (k_o_now_poses : KM Z o_now_poses 2) (r_o_legs : Z.2.1 o 5 = some o_legs) (k_o_legs : KM Z o_legs 3) (r_o_now_habits : Z.2.1 o_now 4 = some o_now_habits) (k_o_now_habits : KM Z o_now_habits 2) (h : (∃ (v1 : Int32), Cl g 1 mu_X2_size [rf g o_now_taps] (Z, I, L) (some (.int v1)) (Z, I, L) ∧ ((v1 ≤ u4 → (∃ (I3 : Nat → Nat → Int32) (L4 : Nat → Nat → Int64), Cl g 1 mu_X2_put [rf g o_now_poses, .int u1, .int u2] (Z, I, L) none (Z, I3, L4) ∧ (r = some (.int u3) ∧ M' = (Z, I3, L4)))) ∧ (¬ v1 ≤ u4 → (∃ (v6 : Int32), Cl g 1 mu_X2_at [rf g o_now_habits, .int u1] (Z, I, L) (some (.int v6)) (Z, I, L) ∧ (∃ (v8 : Int32), Cl g 1 mu_X2_at [rf g o_now_taps, .int u4] (Z, I, L) (some (.int v8)) (Z, I, L) ∧ (∃ (v10 : Int32) (I11 : Nat → Nat → Int32) (L12 : Nat → Nat → Int64), Cl g 5 mu_X3_step [rf g o_legs, .int v6, .int u2, .int v8] (Z, I, L) (some (.int v10)) (Z, I11, L12) ∧ (∃ (v14 : Int32), Cl g 1 mu_X11_hasBumped [.int v10] (Z, I11, L12) (some (.int v14)) (Z, I11, L12) ∧ ((v14 = 0 → (∀ y16 : Int32, y16 = (u3 + 0) → (∃ (v17 : Int32), Cl g 1 mu_X11_poseOf [.int v10] (Z, I11, L12) (some (.int v17)) (Z, I11, L12) ∧ (∀ y19 : Int32, y19 = (u4 + 1) → Lp_X11_walk_38 g 6 o u1 v17 y16 y19 (Z, I11, L12) r M')))) ∧ (¬ v14 = 0 → (∀ y20 : Int32, y20 = (u3 + 1) → (∃ (v21 : Int32), Cl g 1 mu_X11_poseOf [.int v10] (Z, I11, L12) (some (.int v21)) (Z, I11, L12) ∧ (∀ y23 : Int32, y23 = (u4 + 1) → Lp_X11_walk_38 g 6 o u1 v21 y20 y23 (Z, I11, L12) r M'))))))))))))) : Lp_X11_walk_38 g 6 o u1 u2 u3 u4 (Z, I, L) r M' := by
  refine fr_iload (q := 4) rfl dX11_walk_38 rfl ?_
  refine fr_aload_n (i := 0) (q := 0) rfl dX11_walk_40 rfl ?_
  refine fr_getR dX11_walk_41 rfl fl_X11_51 k_o r_o_now ?_
  refine fr_getR dX11_walk_44 rfl fl_X11_164 k_o_now r_o_now_taps ?_
  obtain ⟨v1, hc2, h⟩ := h
  refine fr_callV2 (ν := mu_X2_size) (st2 := [.int v1, .int u4]) (As := []) (st := [.int u4]) (v := (some (.int v1))) (M1 := (Z, I, L)) dX11_walk_47 rfl ml_X11_111 mo_X2_size mi_X2_size (ci := 2) rfl rfl k_o_now_taps (Nat.le_of_ble_eq_true rfl) rfl rfl (Nat.le_of_ble_eq_true rfl) hc2 rfl ?_
  refine fr_icmp_ge (tgt := 114) dX11_walk_50 (by decide) rfl (fun hc => ?_) (fun hc => ?_)
  · have h := h.1 hc
    refine fr_aload_n (i := 0) (q := 0) rfl dX11_walk_114 rfl ?_
    refine fr_getR dX11_walk_115 rfl fl_X11_51 k_o r_o_now ?_
    refine fr_getR dX11_walk_118 rfl fl_X11_108 k_o_now r_o_now_poses ?_
    refine fr_iload_n (i := 1) (q := 1) rfl dX11_walk_121 rfl ?_
    refine fr_iload_n (i := 2) (q := 2) rfl dX11_walk_122 rfl ?_
    obtain ⟨I3, L4, hc5, h⟩ := h
    refine fr_callV2 (ν := mu_X2_put) (st2 := []) (As := [.int u1, .int u2]) (st := []) (v := none) (M1 := (Z, I3, L4)) dX11_walk_123 rfl ml_X11_93 mo_X2_put mi_X2_put (ci := 2) rfl rfl k_o_now_poses (Nat.le_of_ble_eq_true rfl) rfl rfl (Nat.le_of_ble_eq_true rfl) hc5 rfl ?_
    refine fr_iload_n (i := 3) (q := 3) rfl dX11_walk_126 rfl ?_
    exact fr_iret rfl dX11_walk_127 h.1 h.2
  · have h := h.2 hc
    refine fr_aload_n (i := 0) (q := 0) rfl dX11_walk_53 rfl ?_
    refine fr_getR dX11_walk_54 rfl fl_X11_63 k_o r_o_legs ?_
    refine fr_aload_n (i := 0) (q := 0) rfl dX11_walk_57 rfl ?_
    refine fr_getR dX11_walk_58 rfl fl_X11_51 k_o r_o_now ?_
    refine fr_getR dX11_walk_61 rfl fl_X11_118 k_o_now r_o_now_habits ?_
    refine fr_iload_n (i := 1) (q := 1) rfl dX11_walk_64 rfl ?_
    obtain ⟨v6, hc7, h⟩ := h
    refine fr_callV2 (ν := mu_X2_at) (st2 := [.int v6, rf g o_legs]) (As := [.int u1]) (st := [rf g o_legs]) (v := (some (.int v6))) (M1 := (Z, I, L)) dX11_walk_65 rfl ml_X11_157 mo_X2_at mi_X2_at (ci := 2) rfl rfl k_o_now_habits (Nat.le_of_ble_eq_true rfl) rfl rfl (Nat.le_of_ble_eq_true rfl) hc7 rfl ?_
    refine fr_iload_n (i := 2) (q := 2) rfl dX11_walk_68 rfl ?_
    refine fr_aload_n (i := 0) (q := 0) rfl dX11_walk_69 rfl ?_
    refine fr_getR dX11_walk_70 rfl fl_X11_51 k_o r_o_now ?_
    refine fr_getR dX11_walk_73 rfl fl_X11_164 k_o_now r_o_now_taps ?_
    refine fr_iload (q := 4) rfl dX11_walk_76 rfl ?_
    obtain ⟨v8, hc9, h⟩ := h
    refine fr_callV2 (ν := mu_X2_at) (st2 := [.int v8, .int u2, .int v6, rf g o_legs]) (As := [.int u4]) (st := [.int u2, .int v6, rf g o_legs]) (v := (some (.int v8))) (M1 := (Z, I, L)) dX11_walk_78 rfl ml_X11_157 mo_X2_at mi_X2_at (ci := 2) rfl rfl k_o_now_taps (Nat.le_of_ble_eq_true rfl) rfl rfl (Nat.le_of_ble_eq_true rfl) hc9 rfl ?_
    obtain ⟨v10, I11, L12, hc13, h⟩ := h
    refine fr_callV2 (ν := mu_X3_step) (st2 := [.int v10]) (As := [.int v6, .int u2, .int v8]) (st := []) (v := (some (.int v10))) (M1 := (Z, I11, L12)) dX11_walk_81 rfl ml_X11_147 mo_X3_step mi_X3_step (ci := 3) rfl rfl k_o_legs (Nat.le_of_ble_eq_true rfl) rfl rfl (Nat.le_of_ble_eq_true rfl) hc13 rfl ?_
    refine fr_istore (lv' := [(5, .int v10), (0, rf g o), (1, .int u1), (2, .int u2), (3, .int u3), (4, .int u4)]) dX11_walk_84 rfl (by decide) rfl ?_
    refine fr_iload_n (i := 3) (q := 4) rfl dX11_walk_86 rfl ?_
    refine fr_iload (q := 0) rfl dX11_walk_87 rfl ?_
    obtain ⟨v14, hc15, h⟩ := h
    refine fr_callS2 (ν := mu_X11_hasBumped) (st2 := [.int v14, .int u3]) (As := [.int v10]) (st := [.int u3]) (v := (some (.int v14))) (M1 := (Z, I11, L12)) dX11_walk_89 rfl ml_X11_167 mo_X11_hasBumped ms_X11_hasBumped (Nat.le_of_ble_eq_true rfl) rfl rfl (Nat.le_of_ble_eq_true rfl) hc15 rfl ?_
    refine fr_if_eq (tgt := 99) dX11_walk_92 (by decide) rfl (fun hc => ?_) (fun hc => ?_)
    · have h := h.1 hc
      refine fr_iconst (v := 0) (by decide) dX11_walk_99 rfl ?_
      refine fr_iadd dX11_walk_100 rfl ?_
      refine fr_topi (fun y16 hy16 => ?_)
      have h := h y16 hy16
      refine fr_istore_n (i := 3) (lv' := [(3, .int y16), (5, .int v10), (0, rf g o), (1, .int u1), (2, .int u2), (4, .int u4)]) dX11_walk_101 rfl (by decide) rfl ?_
      refine fr_iload (q := 1) rfl dX11_walk_102 rfl ?_
      obtain ⟨v17, hc18, h⟩ := h
      refine fr_callS2 (ν := mu_X11_poseOf) (st2 := [.int v17]) (As := [.int v10]) (st := []) (v := (some (.int v17))) (M1 := (Z, I11, L12)) dX11_walk_104 rfl ml_X11_161 mo_X11_poseOf ms_X11_poseOf (Nat.le_of_ble_eq_true rfl) rfl rfl (Nat.le_of_ble_eq_true rfl) hc18 rfl ?_
      refine fr_istore_n (i := 2) (lv' := [(2, .int v17), (3, .int y16), (5, .int v10), (0, rf g o), (1, .int u1), (4, .int u4)]) dX11_walk_107 rfl (by decide) rfl ?_
      obtain ⟨y19, hy19⟩ : ∃ y : Int32, y = u4 + 1 := ⟨_, rfl⟩
      have h := h y19 hy19
      refine fr_iinc (q := 5) (v := y19) (lv' := [(4, .int y19), (2, .int v17), (3, .int y16), (5, .int v10), (0, rf g o), (1, .int u1)]) rfl (by rw [hy19]; rfl) dX11_walk_108 rfl (by decide) rfl ?_
      refine fr_goto (n := 38) dX11_walk_111 (by decide) ?_
      exact fr_sub [4, 5, 1, 2, 0] rfl h
    · have h := h.2 hc
      refine fr_iconst (v := 1) (by decide) dX11_walk_95 rfl ?_
      refine fr_goto (n := 100) dX11_walk_96 (by decide) ?_
      refine fr_iadd dX11_walk_100 rfl ?_
      refine fr_topi (fun y20 hy20 => ?_)
      have h := h y20 hy20
      refine fr_istore_n (i := 3) (lv' := [(3, .int y20), (5, .int v10), (0, rf g o), (1, .int u1), (2, .int u2), (4, .int u4)]) dX11_walk_101 rfl (by decide) rfl ?_
      refine fr_iload (q := 1) rfl dX11_walk_102 rfl ?_
      obtain ⟨v21, hc22, h⟩ := h
      refine fr_callS2 (ν := mu_X11_poseOf) (st2 := [.int v21]) (As := [.int v10]) (st := []) (v := (some (.int v21))) (M1 := (Z, I11, L12)) dX11_walk_104 rfl ml_X11_161 mo_X11_poseOf ms_X11_poseOf (Nat.le_of_ble_eq_true rfl) rfl rfl (Nat.le_of_ble_eq_true rfl) hc22 rfl ?_
      refine fr_istore_n (i := 2) (lv' := [(2, .int v21), (3, .int y20), (5, .int v10), (0, rf g o), (1, .int u1), (4, .int u4)]) dX11_walk_107 rfl (by decide) rfl ?_
      obtain ⟨y23, hy23⟩ : ∃ y : Int32, y = u4 + 1 := ⟨_, rfl⟩
      have h := h y23 hy23
      refine fr_iinc (q := 5) (v := y23) (lv' := [(4, .int y23), (2, .int v21), (3, .int y20), (5, .int v10), (0, rf g o), (1, .int u1)]) rfl (by rw [hy23]; rfl) dX11_walk_108 rfl (by decide) rfl ?_
      refine fr_goto (n := 38) dX11_walk_111 (by decide) ?_
      exact fr_sub [4, 5, 1, 2, 0] rfl h
theorem cp_X11_undo {g : GE} {Z : Zs} {I : Nat → Nat → Int32} {L : Nat → Nat → Int64} {r : Option Value} {M' : Mem} {o : Nat} {o_now : Nat} {o_now_stepPairs : Nat} {o_now_poses : Nat} {o_now_stepPoses : Nat} (k_o : KM Z o 11) (r_o_now : Z.2.1 o 0 = some o_now) (k_o_now : KM Z o_now 8) (r_o_now_stepPairs : Z.2.1 o_now 6 = some o_now_stepPairs) (k_o_now_stepPairs : KM Z o_now_stepPairs 2) (r_o_now_poses : Z.2.1 o_now 3 = some o_now_poses) (k_o_now_poses : KM Z o_now_poses 2) (r_o_now_stepPoses : Z.2.1 o_now 7 = some o_now_stepPoses) (k_o_now_stepPoses : KM Z o_now_stepPoses 2) (h : (∃ (v1 : Int32), Cl g 1 mu_X2_size [rf g o_now_stepPairs] (Z, I, L) (some (.int v1)) (Z, I, L) ∧ (∀ y3 : Int32, y3 = (v1 - 1) → ((0 ≤ y3 → (∃ (v4 : Int32), Cl g 1 mu_X2_at [rf g o_now_stepPairs, .int y3] (Z, I, L) (some (.int v4)) (Z, I, L) ∧ (∃ (v6 : Int32), Cl g 1 mu_X2_at [rf g o_now_stepPoses, .int y3] (Z, I, L) (some (.int v6)) (Z, I, L) ∧ (∃ (I8 : Nat → Nat → Int32) (L9 : Nat → Nat → Int64), Cl g 1 mu_X2_put [rf g o_now_poses, .int v4, .int v6] (Z, I, L) none (Z, I8, L9) ∧ (∃ (I11 : Nat → Nat → Int32) (L12 : Nat → Nat → Int64), Cl g 2 mu_X2_cutTo [rf g o_now_stepPairs, .int y3] (Z, I8, L9) none (Z, I11, L12) ∧ (∃ (I14 : Nat → Nat → Int32) (L15 : Nat → Nat → Int64), Cl g 2 mu_X2_cutTo [rf g o_now_stepPoses, .int y3] (Z, I11, L12) none (Z, I14, L15) ∧ (r = some (.int v4) ∧ M' = (Z, I14, L15)))))))) ∧ (¬ 0 ≤ y3 → (r = some (.int ((-1))) ∧ M' = (Z, I, L))))))) : Cl g 3 mu_X11_undo [rf g o] (Z, I, L) r M' := by
  refine cl_of (lv := [(0, rf g o)]) (by decide) (Nat.le_of_ble_eq_true rfl) rfl ?_
  refine fr_aload_n (i := 0) (q := 0) rfl dX11_undo_0 rfl ?_
  refine fr_getR dX11_undo_1 rfl fl_X11_51 k_o r_o_now ?_
  refine fr_getR dX11_undo_4 rfl fl_X11_170 k_o_now r_o_now_stepPairs ?_
  obtain ⟨v1, hc2, h⟩ := h
  refine fr_callV2 (ν := mu_X2_size) (st2 := [.int v1]) (As := []) (st := []) (v := (some (.int v1))) (M1 := (Z, I, L)) dX11_undo_7 rfl ml_X11_111 mo_X2_size mi_X2_size (ci := 2) rfl rfl k_o_now_stepPairs (Nat.le_of_ble_eq_true rfl) rfl rfl (Nat.le_of_ble_eq_true rfl) hc2 rfl ?_
  refine fr_iconst (v := 1) (by decide) dX11_undo_10 rfl ?_
  refine fr_isub dX11_undo_11 rfl ?_
  refine fr_topi (fun y3 hy3 => ?_)
  have h := h y3 hy3
  refine fr_istore_n (i := 1) (lv' := [(1, .int y3), (0, rf g o)]) dX11_undo_12 rfl (by decide) rfl ?_
  refine fr_iload_n (i := 1) (q := 0) rfl dX11_undo_13 rfl ?_
  refine fr_if_ge (tgt := 19) dX11_undo_14 (by decide) rfl (fun hc => ?_) (fun hc => ?_)
  · have h := h.1 hc
    refine fr_aload_n (i := 0) (q := 1) rfl dX11_undo_19 rfl ?_
    refine fr_getR dX11_undo_20 rfl fl_X11_51 k_o r_o_now ?_
    refine fr_getR dX11_undo_23 rfl fl_X11_170 k_o_now r_o_now_stepPairs ?_
    refine fr_iload_n (i := 1) (q := 0) rfl dX11_undo_26 rfl ?_
    obtain ⟨v4, hc5, h⟩ := h
    refine fr_callV2 (ν := mu_X2_at) (st2 := [.int v4]) (As := [.int y3]) (st := []) (v := (some (.int v4))) (M1 := (Z, I, L)) dX11_undo_27 rfl ml_X11_157 mo_X2_at mi_X2_at (ci := 2) rfl rfl k_o_now_stepPairs (Nat.le_of_ble_eq_true rfl) rfl rfl (Nat.le_of_ble_eq_true rfl) hc5 rfl ?_
    refine fr_istore_n (i := 2) (lv' := [(2, .int v4), (1, .int y3), (0, rf g o)]) dX11_undo_30 rfl (by decide) rfl ?_
    refine fr_aload_n (i := 0) (q := 2) rfl dX11_undo_31 rfl ?_
    refine fr_getR dX11_undo_32 rfl fl_X11_51 k_o r_o_now ?_
    refine fr_getR dX11_undo_35 rfl fl_X11_108 k_o_now r_o_now_poses ?_
    refine fr_iload_n (i := 2) (q := 0) rfl dX11_undo_38 rfl ?_
    refine fr_aload_n (i := 0) (q := 2) rfl dX11_undo_39 rfl ?_
    refine fr_getR dX11_undo_40 rfl fl_X11_51 k_o r_o_now ?_
    refine fr_getR dX11_undo_43 rfl fl_X11_173 k_o_now r_o_now_stepPoses ?_
    refine fr_iload_n (i := 1) (q := 1) rfl dX11_undo_46 rfl ?_
    obtain ⟨v6, hc7, h⟩ := h
    refine fr_callV2 (ν := mu_X2_at) (st2 := [.int v6, .int v4, rf g o_now_poses]) (As := [.int y3]) (st := [.int v4, rf g o_now_poses]) (v := (some (.int v6))) (M1 := (Z, I, L)) dX11_undo_47 rfl ml_X11_157 mo_X2_at mi_X2_at (ci := 2) rfl rfl k_o_now_stepPoses (Nat.le_of_ble_eq_true rfl) rfl rfl (Nat.le_of_ble_eq_true rfl) hc7 rfl ?_
    obtain ⟨I8, L9, hc10, h⟩ := h
    refine fr_callV2 (ν := mu_X2_put) (st2 := []) (As := [.int v4, .int v6]) (st := []) (v := none) (M1 := (Z, I8, L9)) dX11_undo_50 rfl ml_X11_93 mo_X2_put mi_X2_put (ci := 2) rfl rfl k_o_now_poses (Nat.le_of_ble_eq_true rfl) rfl rfl (Nat.le_of_ble_eq_true rfl) hc10 rfl ?_
    refine fr_aload_n (i := 0) (q := 2) rfl dX11_undo_53 rfl ?_
    refine fr_getR dX11_undo_54 rfl fl_X11_51 k_o r_o_now ?_
    refine fr_getR dX11_undo_57 rfl fl_X11_170 k_o_now r_o_now_stepPairs ?_
    refine fr_iload_n (i := 1) (q := 1) rfl dX11_undo_60 rfl ?_
    obtain ⟨I11, L12, hc13, h⟩ := h
    refine fr_callV2 (ν := mu_X2_cutTo) (st2 := []) (As := [.int y3]) (st := []) (v := none) (M1 := (Z, I11, L12)) dX11_undo_61 rfl ml_X11_124 mo_X2_cutTo mi_X2_cutTo (ci := 2) rfl rfl k_o_now_stepPairs (Nat.le_of_ble_eq_true rfl) rfl rfl (Nat.le_of_ble_eq_true rfl) hc13 rfl ?_
    refine fr_aload_n (i := 0) (q := 2) rfl dX11_undo_64 rfl ?_
    refine fr_getR dX11_undo_65 rfl fl_X11_51 k_o r_o_now ?_
    refine fr_getR dX11_undo_68 rfl fl_X11_173 k_o_now r_o_now_stepPoses ?_
    refine fr_iload_n (i := 1) (q := 1) rfl dX11_undo_71 rfl ?_
    obtain ⟨I14, L15, hc16, h⟩ := h
    refine fr_callV2 (ν := mu_X2_cutTo) (st2 := []) (As := [.int y3]) (st := []) (v := none) (M1 := (Z, I14, L15)) dX11_undo_72 rfl ml_X11_124 mo_X2_cutTo mi_X2_cutTo (ci := 2) rfl rfl k_o_now_stepPoses (Nat.le_of_ble_eq_true rfl) rfl rfl (Nat.le_of_ble_eq_true rfl) hc16 rfl ?_
    refine fr_iload_n (i := 2) (q := 0) rfl dX11_undo_75 rfl ?_
    exact fr_iret rfl dX11_undo_76 h.1 h.2
  · have h := h.2 hc
    refine fr_iconst (v := (-1)) (by decide) dX11_undo_17 rfl ?_
    exact fr_iret rfl dX11_undo_18 h.1 h.2
theorem cp_X11_of {g : GE} {Z : Zs} {I : Nat → Nat → Int32} {L : Nat → Nat → Int64} {r : Option Value} {M' : Mem} {o : Nat} {x1 : Int32} {x2 : Int32} {o_now : Nat} {o_now_habits : Nat} {o_now_poses : Nat} (k_o : KM Z o 11) (r_o_now : Z.2.1 o 0 = some o_now) (k_o_now : KM Z o_now 8) (r_o_now_habits : Z.2.1 o_now 4 = some o_now_habits) (k_o_now_habits : KM Z o_now_habits 2) (r_o_now_poses : Z.2.1 o_now 3 = some o_now_poses) (k_o_now_poses : KM Z o_now_poses 2) (h : (∃ (v1 : Int32), Cl g 2 mu_X8_isPair [rf g o_now, .int x1] (Z, I, L) (some (.int v1)) (Z, I, L) ∧ ((¬ v1 = 0 → ((¬ x2 = 0 → ((¬ x2 = 1 → (r = some (.int ((-1))) ∧ M' = (Z, I, L))) ∧ (x2 = 1 → (∃ (v3 : Int32), Cl g 1 mu_X2_at [rf g o_now_habits, .int x1] (Z, I, L) (some (.int v3)) (Z, I, L) ∧ (r = some (.int v3) ∧ M' = (Z, I, L)))))) ∧ (x2 = 0 → (∃ (v5 : Int32), Cl g 1 mu_X2_at [rf g o_now_poses, .int x1] (Z, I, L) (some (.int v5)) (Z, I, L) ∧ (r = some (.int v5) ∧ M' = (Z, I, L)))))) ∧ (v1 = 0 → (r = some (.int ((-1))) ∧ M' = (Z, I, L)))))) : Cl g 3 mu_X11_of [rf g o, .int x1, .int x2] (Z, I, L) r M' := by
  refine cl_of (lv := [(0, rf g o), (1, .int x1), (2, .int x2)]) (by decide) (Nat.le_of_ble_eq_true rfl) rfl ?_
  refine fr_aload_n (i := 0) (q := 0) rfl dX11_of_0 rfl ?_
  refine fr_getR dX11_of_1 rfl fl_X11_51 k_o r_o_now ?_
  refine fr_iload_n (i := 1) (q := 1) rfl dX11_of_4 rfl ?_
  obtain ⟨v1, hc2, h⟩ := h
  refine fr_callV2 (ν := mu_X8_isPair) (st2 := [.int v1]) (As := [.int x1]) (st := []) (v := (some (.int v1))) (M1 := (Z, I, L)) dX11_of_5 rfl ml_X11_151 mo_X8_isPair mi_X8_isPair (ci := 8) rfl rfl k_o_now (Nat.le_of_ble_eq_true rfl) rfl rfl (Nat.le_of_ble_eq_true rfl) hc2 rfl ?_
  refine fr_if_ne (tgt := 13) dX11_of_8 (by decide) rfl (fun hc => ?_) (fun hc => ?_)
  · have h := h.1 hc
    refine fr_iload_n (i := 2) (q := 2) rfl dX11_of_13 rfl ?_
    refine fr_if_ne (tgt := 29) dX11_of_14 (by decide) rfl (fun hc => ?_) (fun hc => ?_)
    · have h := h.1 hc
      refine fr_iload_n (i := 2) (q := 2) rfl dX11_of_29 rfl ?_
      refine fr_iconst (v := 1) (by decide) dX11_of_30 rfl ?_
      refine fr_icmp_ne (tgt := 48) dX11_of_31 (by decide) rfl (fun hc => ?_) (fun hc => ?_)
      · have h := h.1 hc
        refine fr_iconst (v := (-1)) (by decide) dX11_of_48 rfl ?_
        exact fr_iret rfl dX11_of_49 h.1 h.2
      · have h := h.2 hc
        refine fr_aload_n (i := 0) (q := 0) rfl dX11_of_34 rfl ?_
        refine fr_getR dX11_of_35 rfl fl_X11_51 k_o r_o_now ?_
        refine fr_getR dX11_of_38 rfl fl_X11_118 k_o_now r_o_now_habits ?_
        refine fr_iload_n (i := 1) (q := 1) rfl dX11_of_41 rfl ?_
        obtain ⟨v3, hc4, h⟩ := h
        refine fr_callV2 (ν := mu_X2_at) (st2 := [.int v3]) (As := [.int x1]) (st := []) (v := (some (.int v3))) (M1 := (Z, I, L)) dX11_of_42 rfl ml_X11_157 mo_X2_at mi_X2_at (ci := 2) rfl rfl k_o_now_habits (Nat.le_of_ble_eq_true rfl) rfl rfl (Nat.le_of_ble_eq_true rfl) hc4 rfl ?_
        refine fr_goto (n := 49) dX11_of_45 (by decide) ?_
        exact fr_iret rfl dX11_of_49 h.1 h.2
    · have h := h.2 hc
      refine fr_aload_n (i := 0) (q := 0) rfl dX11_of_17 rfl ?_
      refine fr_getR dX11_of_18 rfl fl_X11_51 k_o r_o_now ?_
      refine fr_getR dX11_of_21 rfl fl_X11_108 k_o_now r_o_now_poses ?_
      refine fr_iload_n (i := 1) (q := 1) rfl dX11_of_24 rfl ?_
      obtain ⟨v5, hc6, h⟩ := h
      refine fr_callV2 (ν := mu_X2_at) (st2 := [.int v5]) (As := [.int x1]) (st := []) (v := (some (.int v5))) (M1 := (Z, I, L)) dX11_of_25 rfl ml_X11_157 mo_X2_at mi_X2_at (ci := 2) rfl rfl k_o_now_poses (Nat.le_of_ble_eq_true rfl) rfl rfl (Nat.le_of_ble_eq_true rfl) hc6 rfl ?_
      exact fr_iret rfl dX11_of_28 h.1 h.2
  · have h := h.2 hc
    refine fr_iconst (v := (-1)) (by decide) dX11_of_11 rfl ?_
    exact fr_iret rfl dX11_of_12 h.1 h.2
theorem cp_X11_tapOrCount {g : GE} {Z : Zs} {I : Nat → Nat → Int32} {L : Nat → Nat → Int64} {r : Option Value} {M' : Mem} {a0 : Nat} {x1 : Int32} {x2 : Int32} (k_a0 : KM Z a0 7) (h : ((x1 < 0 → (r = some (.int x1) ∧ M' = (Z, I, L))) ∧ (¬ x1 < 0 → ((¬ x2 = ((-1)) → ((x1 ≤ x2 → (r = some (.int ((-1))) ∧ M' = (Z, I, L))) ∧ (¬ x1 ≤ x2 → (∃ (v1 : Int32), Cl g 1 mu_X7_tapAt [rf g a0, .int x1, .int x2] (Z, I, L) (some (.int v1)) (Z, I, L) ∧ (r = some (.int v1) ∧ M' = (Z, I, L)))))) ∧ (x2 = ((-1)) → (r = some (.int x1) ∧ M' = (Z, I, L))))))) : Cl g 2 mu_X11_tapOrCount [rf g a0, .int x1, .int x2] (Z, I, L) r M' := by
  refine cl_of (lv := [(0, rf g a0), (1, .int x1), (2, .int x2)]) (by decide) (Nat.le_of_ble_eq_true rfl) rfl ?_
  refine fr_iload_n (i := 1) (q := 1) rfl dX11_tapOrCount_0 rfl ?_
  refine fr_if_lt (tgt := 9) dX11_tapOrCount_1 (by decide) rfl (fun hc => ?_) (fun hc => ?_)
  · have h := h.1 hc
    refine fr_iload_n (i := 1) (q := 1) rfl dX11_tapOrCount_9 rfl ?_
    exact fr_iret rfl dX11_tapOrCount_10 h.1 h.2
  · have h := h.2 hc
    refine fr_iload_n (i := 2) (q := 2) rfl dX11_tapOrCount_4 rfl ?_
    refine fr_iconst (v := (-1)) (by decide) dX11_tapOrCount_5 rfl ?_
    refine fr_icmp_ne (tgt := 11) dX11_tapOrCount_6 (by decide) rfl (fun hc => ?_) (fun hc => ?_)
    · have h := h.1 hc
      refine fr_iload_n (i := 2) (q := 2) rfl dX11_tapOrCount_11 rfl ?_
      refine fr_iload_n (i := 1) (q := 1) rfl dX11_tapOrCount_12 rfl ?_
      refine fr_icmp_ge (tgt := 25) dX11_tapOrCount_13 (by decide) rfl (fun hc => ?_) (fun hc => ?_)
      · have h := h.1 hc
        refine fr_iconst (v := (-1)) (by decide) dX11_tapOrCount_25 rfl ?_
        exact fr_iret rfl dX11_tapOrCount_26 h.1 h.2
      · have h := h.2 hc
        refine fr_aload_n (i := 0) (q := 0) rfl dX11_tapOrCount_16 rfl ?_
        refine fr_iload_n (i := 1) (q := 1) rfl dX11_tapOrCount_17 rfl ?_
        refine fr_iload_n (i := 2) (q := 2) rfl dX11_tapOrCount_18 rfl ?_
        obtain ⟨v1, hc2, h⟩ := h
        refine fr_callV2 (ν := mu_X7_tapAt) (st2 := [.int v1]) (As := [.int x1, .int x2]) (st := []) (v := (some (.int v1))) (M1 := (Z, I, L)) dX11_tapOrCount_19 rfl ml_X11_208 mo_X7_tapAt mi_X7_tapAt (ci := 7) rfl rfl k_a0 (Nat.le_of_ble_eq_true rfl) rfl rfl (Nat.le_of_ble_eq_true rfl) hc2 rfl ?_
        refine fr_goto (n := 26) dX11_tapOrCount_22 (by decide) ?_
        exact fr_iret rfl dX11_tapOrCount_26 h.1 h.2
    · have h := h.2 hc
      refine fr_iload_n (i := 1) (q := 1) rfl dX11_tapOrCount_9 rfl ?_
      exact fr_iret rfl dX11_tapOrCount_10 h.1 h.2
abbrev Lp_X11_odds_100 (g : GE) (d : Nat) (o : Nat) (u1 : Int32) (u3 : Int32) (u4 : Int32) (u5 : Int32) (u6 : Int64) (u8 : Int32) (M : Mem) (r : Option Value) (M' : Mem) : Prop := Fr g d mu_X11_odds 100 [(0, rf g o), (1, .int u1), (3, .int u3), (4, .int u4), (5, .int u5), (6, .long u6), (8, .int u8)] [] M r M'
theorem cp_X11_odds {g : GE} {Z : Zs} {I : Nat → Nat → Int32} {L : Nat → Nat → Int64} {r : Option Value} {M' : Mem} {o : Nat} {x1 : Int32} {x2 : Int32} {x3 : Int32} {x4 : Int32} {x5 : Int32} {o_now : Nat} {o_now_taps : Nat} {o_weights : Nat} (k_o : KM Z o 11) (r_o_now : Z.2.1 o 0 = some o_now) (k_o_now : KM Z o_now 8) (r_o_now_taps : Z.2.1 o_now 5 = some o_now_taps) (k_o_now_taps : KM Z o_now_taps 2) (r_o_weights : Z.2.1 o 8 = some o_weights) (k_o_weights : KM Z o_weights 14) (h : (∃ (v1 : Int32), Cl g 1 mu_X8_isText [rf g o_now, .int x1] (Z, I, L) (some (.int v1)) (Z, I, L) ∧ ((v1 = 0 → (r = some (.long ((-1))) ∧ M' = (Z, I, L))) ∧ (¬ v1 = 0 → (∃ (v3 : Int32), Cl g 2 mu_X8_isPose [rf g o_now, .int x2] (Z, I, L) (some (.int v3)) (Z, I, L) ∧ ((v3 = 0 → (r = some (.long ((-1))) ∧ M' = (Z, I, L))) ∧ (¬ v3 = 0 → (∃ (v5 : Int32), Cl g 1 mu_X8_isCell [rf g o_now, .int x3] (Z, I, L) (some (.int v5)) (Z, I, L) ∧ ((¬ v5 = 0 → ((x4 < 0 → (r = some (.long ((-1))) ∧ M' = (Z, I, L))) ∧ (¬ x4 < 0 → ((10 < x4 → (r = some (.long ((-1))) ∧ M' = (Z, I, L))) ∧ (¬ 10 < x4 → ((x5 < 0 → (r = some (.long ((-1))) ∧ M' = (Z, I, L))) ∧ (¬ x5 < 0 → ((1 < x5 → (r = some (.long ((-1))) ∧ M' = (Z, I, L))) ∧ (¬ 1 < x5 → (∃ (v7 : Int32), Cl g 1 mu_X2_size [rf g o_now_taps] (Z, I, L) (some (.int v7)) (Z, I, L) ∧ ((v7 ≤ 12 → (∃ (I9 : Nat → Nat → Int32) (L10 : Nat → Nat → Int64), Cl g 1 mu_J7_fill_d0a16 [rf g o_weights, .long 0] (Z, I, L) none (Z, I9, L10) ∧ (vp_in x2 (Z.2.2.1 o_weights) ∧ (∀ L13 : Nat → Nat → Int64, L13 = rw1 L10 o_weights (vp_updL (L10 o_weights) x2.toNatClampNeg 1) → Lp_X11_odds_100 g 7 o x1 x3 x4 x5 1 0 (Z, I9, L13) r M')))) ∧ (¬ v7 ≤ 12 → (r = some (.long ((-1))) ∧ M' = (Z, I, L)))))))))))))) ∧ (v5 = 0 → (r = some (.long ((-1))) ∧ M' = (Z, I, L)))))))))))) : Cl g 7 mu_X11_odds [rf g o, .int x1, .int x2, .int x3, .int x4, .int x5] (Z, I, L) r M' := by
  refine cl_of (lv := [(0, rf g o), (1, .int x1), (2, .int x2), (3, .int x3), (4, .int x4), (5, .int x5)]) (by decide) (Nat.le_of_ble_eq_true rfl) rfl ?_
  refine fr_aload_n (i := 0) (q := 0) rfl dX11_odds_0 rfl ?_
  refine fr_getR dX11_odds_1 rfl fl_X11_51 k_o r_o_now ?_
  refine fr_iload_n (i := 1) (q := 1) rfl dX11_odds_4 rfl ?_
  obtain ⟨v1, hc2, h⟩ := h
  refine fr_callV2 (ν := mu_X8_isText) (st2 := [.int v1]) (As := [.int x1]) (st := []) (v := (some (.int v1))) (M1 := (Z, I, L)) dX11_odds_5 rfl ml_X11_105 mo_X8_isText mi_X8_isText (ci := 8) rfl rfl k_o_now (Nat.le_of_ble_eq_true rfl) rfl rfl (Nat.le_of_ble_eq_true rfl) hc2 rfl ?_
  refine fr_if_eq (tgt := 33) dX11_odds_8 (by decide) rfl (fun hc => ?_) (fun hc => ?_)
  · have h := h.1 hc
    refine fr_ldc2 (v := (-1)) kc_X11_212 dX11_odds_33 rfl ?_
    exact fr_lret rfl dX11_odds_36 h.1 h.2
  · have h := h.2 hc
    refine fr_aload_n (i := 0) (q := 0) rfl dX11_odds_11 rfl ?_
    refine fr_getR dX11_odds_12 rfl fl_X11_51 k_o r_o_now ?_
    refine fr_iload_n (i := 2) (q := 2) rfl dX11_odds_15 rfl ?_
    obtain ⟨v3, hc4, h⟩ := h
    refine fr_callV2 (ν := mu_X8_isPose) (st2 := [.int v3]) (As := [.int x2]) (st := []) (v := (some (.int v3))) (M1 := (Z, I, L)) dX11_odds_16 rfl ml_X11_102 mo_X8_isPose mi_X8_isPose (ci := 8) rfl rfl k_o_now (Nat.le_of_ble_eq_true rfl) rfl rfl (Nat.le_of_ble_eq_true rfl) hc4 rfl ?_
    refine fr_if_eq (tgt := 33) dX11_odds_19 (by decide) rfl (fun hc => ?_) (fun hc => ?_)
    · have h := h.1 hc
      refine fr_ldc2 (v := (-1)) kc_X11_212 dX11_odds_33 rfl ?_
      exact fr_lret rfl dX11_odds_36 h.1 h.2
    · have h := h.2 hc
      refine fr_aload_n (i := 0) (q := 0) rfl dX11_odds_22 rfl ?_
      refine fr_getR dX11_odds_23 rfl fl_X11_51 k_o r_o_now ?_
      refine fr_iload_n (i := 3) (q := 3) rfl dX11_odds_26 rfl ?_
      obtain ⟨v5, hc6, h⟩ := h
      refine fr_callV2 (ν := mu_X8_isCell) (st2 := [.int v5]) (As := [.int x3]) (st := []) (v := (some (.int v5))) (M1 := (Z, I, L)) dX11_odds_27 rfl ml_X11_83 mo_X8_isCell mi_X8_isCell (ci := 8) rfl rfl k_o_now (Nat.le_of_ble_eq_true rfl) rfl rfl (Nat.le_of_ble_eq_true rfl) hc6 rfl ?_
      refine fr_if_ne (tgt := 37) dX11_odds_30 (by decide) rfl (fun hc => ?_) (fun hc => ?_)
      · have h := h.1 hc
        refine fr_iload (q := 4) rfl dX11_odds_37 rfl ?_
        refine fr_if_lt (tgt := 75) dX11_odds_39 (by decide) rfl (fun hc => ?_) (fun hc => ?_)
        · have h := h.1 hc
          refine fr_ldc2 (v := (-1)) kc_X11_212 dX11_odds_75 rfl ?_
          exact fr_lret rfl dX11_odds_78 h.1 h.2
        · have h := h.2 hc
          refine fr_iload (q := 4) rfl dX11_odds_42 rfl ?_
          refine fr_bipush (v := 10) (by decide) dX11_odds_44 rfl ?_
          refine fr_icmp_gt (tgt := 75) dX11_odds_46 (by decide) rfl (fun hc => ?_) (fun hc => ?_)
          · have h := h.1 hc
            refine fr_ldc2 (v := (-1)) kc_X11_212 dX11_odds_75 rfl ?_
            exact fr_lret rfl dX11_odds_78 h.1 h.2
          · have h := h.2 hc
            refine fr_iload (q := 5) rfl dX11_odds_49 rfl ?_
            refine fr_if_lt (tgt := 75) dX11_odds_51 (by decide) rfl (fun hc => ?_) (fun hc => ?_)
            · have h := h.1 hc
              refine fr_ldc2 (v := (-1)) kc_X11_212 dX11_odds_75 rfl ?_
              exact fr_lret rfl dX11_odds_78 h.1 h.2
            · have h := h.2 hc
              refine fr_iload (q := 5) rfl dX11_odds_54 rfl ?_
              refine fr_iconst (v := 1) (by decide) dX11_odds_56 rfl ?_
              refine fr_icmp_gt (tgt := 75) dX11_odds_57 (by decide) rfl (fun hc => ?_) (fun hc => ?_)
              · have h := h.1 hc
                refine fr_ldc2 (v := (-1)) kc_X11_212 dX11_odds_75 rfl ?_
                exact fr_lret rfl dX11_odds_78 h.1 h.2
              · have h := h.2 hc
                refine fr_aload_n (i := 0) (q := 0) rfl dX11_odds_60 rfl ?_
                refine fr_getR dX11_odds_61 rfl fl_X11_51 k_o r_o_now ?_
                refine fr_getR dX11_odds_64 rfl fl_X11_164 k_o_now r_o_now_taps ?_
                obtain ⟨v7, hc8, h⟩ := h
                refine fr_callV2 (ν := mu_X2_size) (st2 := [.int v7]) (As := []) (st := []) (v := (some (.int v7))) (M1 := (Z, I, L)) dX11_odds_67 rfl ml_X11_111 mo_X2_size mi_X2_size (ci := 2) rfl rfl k_o_now_taps (Nat.le_of_ble_eq_true rfl) rfl rfl (Nat.le_of_ble_eq_true rfl) hc8 rfl ?_
                refine fr_bipush (v := 12) (by decide) dX11_odds_70 rfl ?_
                refine fr_icmp_le (tgt := 79) dX11_odds_72 (by decide) rfl (fun hc => ?_) (fun hc => ?_)
                · have h := h.1 hc
                  refine fr_aload_n (i := 0) (q := 0) rfl dX11_odds_79 rfl ?_
                  refine fr_getR dX11_odds_80 rfl fl_X11_32 k_o r_o_weights ?_
                  refine fr_lconst (v := 0) (by decide) dX11_odds_83 rfl ?_
                  obtain ⟨I9, L10, hc11, h⟩ := h
                  refine fr_callS2 (ν := mu_J7_fill_d0a16) (st2 := []) (As := [rf g o_weights, .long 0]) (st := []) (v := none) (M1 := (Z, I9, L10)) dX11_odds_84 rfl ml_X11_214 mo_J7_fill_d0a16 ms_J7_fill_d0a16 (Nat.le_of_ble_eq_true rfl) rfl rfl (Nat.le_of_ble_eq_true rfl) hc11 rfl ?_
                  refine fr_aload_n (i := 0) (q := 0) rfl dX11_odds_87 rfl ?_
                  refine fr_getR dX11_odds_88 rfl fl_X11_32 k_o r_o_weights ?_
                  refine fr_iload_n (i := 2) (q := 2) rfl dX11_odds_91 rfl ?_
                  refine fr_lconst (v := 1) (by decide) dX11_odds_92 rfl ?_
                  obtain ⟨hz12, h⟩ := h
                  refine fr_last dX11_odds_93 rfl k_o_weights hz12 ?_
                  refine fr_memL (fun L13 hL13 => ?_)
                  have h := h L13 hL13
                  refine fr_lconst (v := 1) (by decide) dX11_odds_94 rfl ?_
                  refine fr_lstore (lv' := [(6, .long 1), (0, rf g o), (1, .int x1), (2, .int x2), (3, .int x3), (4, .int x4), (5, .int x5)]) dX11_odds_95 rfl (by decide) rfl ?_
                  refine fr_iconst (v := 0) (by decide) dX11_odds_97 rfl ?_
                  refine fr_istore (lv' := [(8, .int 0), (6, .long 1), (0, rf g o), (1, .int x1), (2, .int x2), (3, .int x3), (4, .int x4), (5, .int x5)]) dX11_odds_98 rfl (by decide) rfl ?_
                  exact fr_sub [2, 3, 5, 6, 7, 1, 0] rfl h
                · have h := h.2 hc
                  refine fr_ldc2 (v := (-1)) kc_X11_212 dX11_odds_75 rfl ?_
                  exact fr_lret rfl dX11_odds_78 h.1 h.2
      · have h := h.2 hc
        refine fr_ldc2 (v := (-1)) kc_X11_212 dX11_odds_33 rfl ?_
        exact fr_lret rfl dX11_odds_36 h.1 h.2
abbrev Lp_X11_odds_154 (g : GE) (d : Nat) (o : Nat) (u3 : Int32) (u5 : Int32) (u6 : Int64) (u8 : Int64) (u10 : Int32) (M : Mem) (r : Option Value) (M' : Mem) : Prop := Fr g d mu_X11_odds 154 [(0, rf g o), (3, .int u3), (5, .int u5), (6, .long u6), (8, .long u8), (10, .int u10)] [] M r M'
theorem wp_X11_odds_100 {g : GE} {Z : Zs} {I : Nat → Nat → Int32} {L : Nat → Nat → Int64} {r : Option Value} {M' : Mem} {o : Nat} {u1 : Int32} {u3 : Int32} {u4 : Int32} {u5 : Int32} {u6 : Int64} {u8 : Int32} {o_now : Nat} {o_now_taps : Nat} (k_o : KM Z o 11) (r_o_now : Z.2.1 o 0 = some o_now) (k_o_now : KM Z o_now 8) (r_o_now_taps : Z.2.1 o_now 5 = some o_now_taps) (k_o_now_taps : KM Z o_now_taps 2) (h : (∃ (v1 : Int32), Cl g 1 mu_X2_size [rf g o_now_taps] (Z, I, L) (some (.int v1)) (Z, I, L) ∧ ((v1 ≤ u8 → Lp_X11_odds_154 g 7 o u3 u5 u6 0 0 (Z, I, L) r M') ∧ (¬ v1 ≤ u8 → (∃ (v3 : Int32), Cl g 1 mu_X2_at [rf g o_now_taps, .int u8] (Z, I, L) (some (.int v3)) (Z, I, L) ∧ (∃ (I5 : Nat → Nat → Int32) (L6 : Nat → Nat → Int64), Cl g 6 mu_X11_spreadBy [rf g o, .int u1, .int v3, .int u4] (Z, I, L) none (Z, I5, L6) ∧ (∀ y8 : Int64, y8 = (u6 * 10) → (∀ y9 : Int32, y9 = (u8 + 1) → Lp_X11_odds_100 g 7 o u1 u3 u4 u5 y8 y9 (Z, I5, L6) r M')))))))) : Lp_X11_odds_100 g 7 o u1 u3 u4 u5 u6 u8 (Z, I, L) r M' := by
  refine fr_iload (q := 6) rfl dX11_odds_100 rfl ?_
  refine fr_aload_n (i := 0) (q := 0) rfl dX11_odds_102 rfl ?_
  refine fr_getR dX11_odds_103 rfl fl_X11_51 k_o r_o_now ?_
  refine fr_getR dX11_odds_106 rfl fl_X11_164 k_o_now r_o_now_taps ?_
  obtain ⟨v1, hc2, h⟩ := h
  refine fr_callV2 (ν := mu_X2_size) (st2 := [.int v1, .int u8]) (As := []) (st := [.int u8]) (v := (some (.int v1))) (M1 := (Z, I, L)) dX11_odds_109 rfl ml_X11_111 mo_X2_size mi_X2_size (ci := 2) rfl rfl k_o_now_taps (Nat.le_of_ble_eq_true rfl) rfl rfl (Nat.le_of_ble_eq_true rfl) hc2 rfl ?_
  refine fr_icmp_ge (tgt := 148) dX11_odds_112 (by decide) rfl (fun hc => ?_) (fun hc => ?_)
  · have h := h.1 hc
    refine fr_lconst (v := 0) (by decide) dX11_odds_148 rfl ?_
    refine fr_lstore (lv' := [(8, .long 0), (0, rf g o), (1, .int u1), (3, .int u3), (4, .int u4), (5, .int u5), (6, .long u6)]) dX11_odds_149 rfl (by decide) rfl ?_
    refine fr_iconst (v := 0) (by decide) dX11_odds_151 rfl ?_
    refine fr_istore (lv' := [(10, .int 0), (8, .long 0), (0, rf g o), (1, .int u1), (3, .int u3), (4, .int u4), (5, .int u5), (6, .long u6)]) dX11_odds_152 rfl (by decide) rfl ?_
    exact fr_sub [2, 4, 6, 7, 1, 0] rfl h
  · have h := h.2 hc
    refine fr_aload_n (i := 0) (q := 0) rfl dX11_odds_115 rfl ?_
    refine fr_iload_n (i := 1) (q := 1) rfl dX11_odds_116 rfl ?_
    refine fr_aload_n (i := 0) (q := 0) rfl dX11_odds_117 rfl ?_
    refine fr_getR dX11_odds_118 rfl fl_X11_51 k_o r_o_now ?_
    refine fr_getR dX11_odds_121 rfl fl_X11_164 k_o_now r_o_now_taps ?_
    refine fr_iload (q := 6) rfl dX11_odds_124 rfl ?_
    obtain ⟨v3, hc4, h⟩ := h
    refine fr_callV2 (ν := mu_X2_at) (st2 := [.int v3, .int u1, rf g o]) (As := [.int u8]) (st := [.int u1, rf g o]) (v := (some (.int v3))) (M1 := (Z, I, L)) dX11_odds_126 rfl ml_X11_157 mo_X2_at mi_X2_at (ci := 2) rfl rfl k_o_now_taps (Nat.le_of_ble_eq_true rfl) rfl rfl (Nat.le_of_ble_eq_true rfl) hc4 rfl ?_
    refine fr_iload (q := 3) rfl dX11_odds_129 rfl ?_
    obtain ⟨I5, L6, hc7, h⟩ := h
    refine fr_callV2 (ν := mu_X11_spreadBy) (st2 := []) (As := [.int u1, .int v3, .int u4]) (st := []) (v := none) (M1 := (Z, I5, L6)) dX11_odds_131 rfl ml_X11_220 mo_X11_spreadBy mi_X11_spreadBy (ci := 11) rfl rfl k_o (Nat.le_of_ble_eq_true rfl) rfl rfl (Nat.le_of_ble_eq_true rfl) hc7 rfl ?_
    refine fr_lload (q := 5) rfl dX11_odds_134 rfl ?_
    refine fr_ldc2 (v := 10) kc_X11_224 dX11_odds_136 rfl ?_
    refine fr_lmul dX11_odds_139 rfl ?_
    refine fr_topl (fun y8 hy8 => ?_)
    have h := h y8 hy8
    refine fr_lstore (lv' := [(6, .long y8), (0, rf g o), (1, .int u1), (3, .int u3), (4, .int u4), (5, .int u5), (8, .int u8)]) dX11_odds_140 rfl (by decide) rfl ?_
    obtain ⟨y9, hy9⟩ : ∃ y : Int32, y = u8 + 1 := ⟨_, rfl⟩
    have h := h y9 hy9
    refine fr_iinc (q := 6) (v := y9) (lv' := [(8, .int y9), (6, .long y8), (0, rf g o), (1, .int u1), (3, .int u3), (4, .int u4), (5, .int u5)]) rfl (by rw [hy9]; rfl) dX11_odds_142 rfl (by decide) rfl ?_
    refine fr_goto (n := 100) dX11_odds_145 (by decide) ?_
    exact fr_sub [2, 3, 4, 5, 6, 1, 0] rfl h
theorem wp_X11_odds_154 {g : GE} {Z : Zs} {I : Nat → Nat → Int32} {L : Nat → Nat → Int64} {r : Option Value} {M' : Mem} {o : Nat} {u3 : Int32} {u5 : Int32} {u6 : Int64} {u8 : Int64} {u10 : Int32} {o_weights : Nat} (k_o : KM Z o 11) (r_o_weights : Z.2.1 o 8 = some o_weights) (k_o_weights : KM Z o_weights 14) (h : ((4 ≤ u10 → (∃ (v1 : Int64), Cl g 2 mu_X11_commonDivisor [.long u6, .long u8] (Z, I, L) (some (.long v1)) (Z, I, L) ∧ ((¬ u5 = 0 → (¬ v1 = 0 ∧ (r = some (.long (u6 / v1)) ∧ M' = (Z, I, L)))) ∧ (u5 = 0 → (¬ v1 = 0 ∧ (r = some (.long (u8 / v1)) ∧ M' = (Z, I, L))))))) ∧ (¬ 4 ≤ u10 → (vp_in ((4 * u3) + u10) (Z.2.2.1 o_weights) ∧ (∀ y6 : Int64, y6 = (u8 + (L o_weights ((4 * u3) + u10).toNatClampNeg)) → (∀ y7 : Int32, y7 = (u10 + 1) → Lp_X11_odds_154 g 7 o u3 u5 u6 y6 y7 (Z, I, L) r M')))))) : Lp_X11_odds_154 g 7 o u3 u5 u6 u8 u10 (Z, I, L) r M' := by
  refine fr_iload (q := 5) rfl dX11_odds_154 rfl ?_
  refine fr_iconst (v := 4) (by decide) dX11_odds_156 rfl ?_
  refine fr_icmp_ge (tgt := 182) dX11_odds_157 (by decide) rfl (fun hc => ?_) (fun hc => ?_)
  · have h := h.1 hc
    refine fr_lload (q := 3) rfl dX11_odds_182 rfl ?_
    refine fr_lload (q := 4) rfl dX11_odds_184 rfl ?_
    obtain ⟨v1, hc2, h⟩ := h
    refine fr_callS2 (ν := mu_X11_commonDivisor) (st2 := [.long v1]) (As := [.long u6, .long u8]) (st := []) (v := (some (.long v1))) (M1 := (Z, I, L)) dX11_odds_186 rfl ml_X11_226 mo_X11_commonDivisor ms_X11_commonDivisor (Nat.le_of_ble_eq_true rfl) rfl rfl (Nat.le_of_ble_eq_true rfl) hc2 rfl ?_
    refine fr_lstore (lv' := [(10, .long v1), (0, rf g o), (3, .int u3), (5, .int u5), (6, .long u6), (8, .long u8)]) dX11_odds_189 rfl (by decide) rfl ?_
    refine fr_iload (q := 3) rfl dX11_odds_191 rfl ?_
    refine fr_if_ne (tgt := 201) dX11_odds_193 (by decide) rfl (fun hc => ?_) (fun hc => ?_)
    · have h := h.1 hc
      refine fr_lload (q := 4) rfl dX11_odds_201 rfl ?_
      refine fr_lload (q := 0) rfl dX11_odds_203 rfl ?_
      obtain ⟨hz3, h⟩ := h
      refine fr_ldiv hz3 dX11_odds_205 rfl ?_
      exact fr_lret rfl dX11_odds_206 h.1 h.2
    · have h := h.2 hc
      refine fr_lload (q := 5) rfl dX11_odds_196 rfl ?_
      refine fr_goto (n := 203) dX11_odds_198 (by decide) ?_
      refine fr_lload (q := 0) rfl dX11_odds_203 rfl ?_
      obtain ⟨hz4, h⟩ := h
      refine fr_ldiv hz4 dX11_odds_205 rfl ?_
      exact fr_lret rfl dX11_odds_206 h.1 h.2
  · have h := h.2 hc
    refine fr_lload (q := 4) rfl dX11_odds_160 rfl ?_
    refine fr_aload_n (i := 0) (q := 0) rfl dX11_odds_162 rfl ?_
    refine fr_getR dX11_odds_163 rfl fl_X11_32 k_o r_o_weights ?_
    refine fr_iconst (v := 4) (by decide) dX11_odds_166 rfl ?_
    refine fr_iload_n (i := 3) (q := 1) rfl dX11_odds_167 rfl ?_
    refine fr_imul dX11_odds_168 rfl ?_
    refine fr_iload (q := 5) rfl dX11_odds_169 rfl ?_
    refine fr_iadd dX11_odds_171 rfl ?_
    obtain ⟨hz5, h⟩ := h
    refine fr_lald dX11_odds_172 rfl k_o_weights hz5 ?_
    refine fr_ladd dX11_odds_173 rfl ?_
    refine fr_topl (fun y6 hy6 => ?_)
    have h := h y6 hy6
    refine fr_lstore (lv' := [(8, .long y6), (0, rf g o), (3, .int u3), (5, .int u5), (6, .long u6), (10, .int u10)]) dX11_odds_174 rfl (by decide) rfl ?_
    obtain ⟨y7, hy7⟩ : ∃ y : Int32, y = u10 + 1 := ⟨_, rfl⟩
    have h := h y7 hy7
    refine fr_iinc (q := 5) (v := y7) (lv' := [(10, .int y7), (8, .long y6), (0, rf g o), (3, .int u3), (5, .int u5), (6, .long u6)]) rfl (by rw [hy7]; rfl) dX11_odds_176 rfl (by decide) rfl ?_
    refine fr_goto (n := 154) dX11_odds_179 (by decide) ?_
    exact fr_sub [2, 3, 4, 5, 1, 0] rfl h
abbrev Lp_X11_spreadBy_11 (g : GE) (d : Nat) (o : Nat) (u1 : Int32) (u2 : Int32) (u3 : Int32) (u4 : Int32) (M : Mem) (r : Option Value) (M' : Mem) : Prop := Fr g d mu_X11_spreadBy 11 [(0, rf g o), (1, .int u1), (2, .int u2), (3, .int u3), (4, .int u4)] [] M r M'
theorem cp_X11_spreadBy {g : GE} {Z : Zs} {I : Nat → Nat → Int32} {L : Nat → Nat → Int64} {r : Option Value} {M' : Mem} {o : Nat} {x1 : Int32} {x2 : Int32} {x3 : Int32} {o_spread : Nat} (k_o : KM Z o 11) (r_o_spread : Z.2.1 o 9 = some o_spread) (k_o_spread : KM Z o_spread 14) (h : (∃ (I1 : Nat → Nat → Int32) (L2 : Nat → Nat → Int64), Cl g 1 mu_J7_fill_d0a16 [rf g o_spread, .long 0] (Z, I, L) none (Z, I1, L2) ∧ Lp_X11_spreadBy_11 g 6 o x1 x2 x3 0 (Z, I1, L2) r M')) : Cl g 6 mu_X11_spreadBy [rf g o, .int x1, .int x2, .int x3] (Z, I, L) r M' := by
  refine cl_of (lv := [(0, rf g o), (1, .int x1), (2, .int x2), (3, .int x3)]) (by decide) (Nat.le_of_ble_eq_true rfl) rfl ?_
  refine fr_aload_n (i := 0) (q := 0) rfl dX11_spreadBy_0 rfl ?_
  refine fr_getR dX11_spreadBy_1 rfl fl_X11_36 k_o r_o_spread ?_
  refine fr_lconst (v := 0) (by decide) dX11_spreadBy_4 rfl ?_
  obtain ⟨I1, L2, hc3, h⟩ := h
  refine fr_callS2 (ν := mu_J7_fill_d0a16) (st2 := []) (As := [rf g o_spread, .long 0]) (st := []) (v := none) (M1 := (Z, I1, L2)) dX11_spreadBy_5 rfl ml_X11_214 mo_J7_fill_d0a16 ms_J7_fill_d0a16 (Nat.le_of_ble_eq_true rfl) rfl rfl (Nat.le_of_ble_eq_true rfl) hc3 rfl ?_
  refine fr_iconst (v := 0) (by decide) dX11_spreadBy_8 rfl ?_
  refine fr_istore (lv' := [(4, .int 0), (0, rf g o), (1, .int x1), (2, .int x2), (3, .int x3)]) dX11_spreadBy_9 rfl (by decide) rfl ?_
  exact fr_sub [1, 2, 3, 4, 0] rfl h
theorem wp_X11_spreadBy_11 {g : GE} {Z : Zs} {I : Nat → Nat → Int32} {L : Nat → Nat → Int64} {r : Option Value} {M' : Mem} {o : Nat} {u1 : Int32} {u2 : Int32} {u3 : Int32} {u4 : Int32} {o_now : Nat} {o_spread : Nat} {o_weights : Nat} {o_legs : Nat} (k_o : KM Z o 11) (r_o_now : Z.2.1 o 0 = some o_now) (k_o_now : KM Z o_now 8) (r_o_spread : Z.2.1 o 9 = some o_spread) (k_o_spread : KM Z o_spread 14) (r_o_weights : Z.2.1 o 8 = some o_weights) (k_o_weights : KM Z o_weights 14) (r_o_legs : Z.2.1 o 5 = some o_legs) (k_o_legs : KM Z o_legs 3) (h : (∃ (v1 : Int32), Cl g 1 mu_X8_posesInAll [rf g o_now] (Z, I, L) (some (.int v1)) (Z, I, L) ∧ ((v1 ≤ u4 → (¬ (0 : Int32) < 0 ∧ ¬ (0 : Int32) < 0 ∧ ¬ (nI (Z.2.2.1 o_weights)) < 0 ∧ (0 : Int32).toNatClampNeg + (nI (Z.2.2.1 o_weights)).toNatClampNeg ≤ Z.2.2.1 o_spread ∧ (0 : Int32).toNatClampNeg + (nI (Z.2.2.1 o_weights)).toNatClampNeg ≤ Z.2.2.1 o_weights ∧ (∀ L4 : Nat → Nat → Int64, L4 = rw1 L o_weights (va_cpy (L o_spread) (L o_weights) (0 : Int32).toNatClampNeg (0 : Int32).toNatClampNeg (nI (Z.2.2.1 o_weights)).toNatClampNeg) → (r = none ∧ M' = (Z, I, L4))))) ∧ (¬ v1 ≤ u4 → (vp_in u4 (Z.2.2.1 o_weights) ∧ (((lg_cmp (L o_weights u4.toNatClampNeg) 0) = 0 → (∀ y6 : Int32, y6 = (u4 + 1) → Lp_X11_spreadBy_11 g 6 o u1 u2 u3 y6 (Z, I, L) r M')) ∧ (¬ (lg_cmp (L o_weights u4.toNatClampNeg) 0) = 0 → (∃ (v7 : Int32) (I8 : Nat → Nat → Int32) (L9 : Nat → Nat → Int64), Cl g 5 mu_X3_step [rf g o_legs, .int u1, .int u4, .int u2] (Z, I, L) (some (.int v7)) (Z, I8, L9) ∧ (∃ (v11 : Int32), Cl g 1 mu_X11_poseOf [.int v7] (Z, I8, L9) (some (.int v11)) (Z, I8, L9) ∧ (vp_in v11 (Z.2.2.1 o_spread) ∧ (vp_in u4 (Z.2.2.1 o_weights) ∧ (vp_in v11 (Z.2.2.1 o_spread) ∧ (∀ L16 : Nat → Nat → Int64, L16 = rw1 L9 o_spread (vp_updL (L9 o_spread) v11.toNatClampNeg ((L9 o_spread v11.toNatClampNeg) + ((L9 o_weights u4.toNatClampNeg) * ((10 - u3).toInt64)))) → (∃ (v17 : Int32) (I18 : Nat → Nat → Int32) (L19 : Nat → Nat → Int64), Cl g 5 mu_X3_step [rf g o_legs, .int u1, .int u4, .int ((u2 + 1) - (u2 + 1) / 4 * 4)] (Z, I8, L16) (some (.int v17)) (Z, I18, L19) ∧ (∃ (v21 : Int32), Cl g 1 mu_X11_poseOf [.int v17] (Z, I18, L19) (some (.int v21)) (Z, I18, L19) ∧ (vp_in v21 (Z.2.2.1 o_spread) ∧ (vp_in u4 (Z.2.2.1 o_weights) ∧ (vp_in v21 (Z.2.2.1 o_spread) ∧ (∀ L26 : Nat → Nat → Int64, L26 = rw1 L19 o_spread (vp_updL (L19 o_spread) v21.toNatClampNeg ((L19 o_spread v21.toNatClampNeg) + ((L19 o_weights u4.toNatClampNeg) * u3.toInt64))) → (∀ y27 : Int32, y27 = (u4 + 1) → Lp_X11_spreadBy_11 g 6 o u1 u2 u3 y27 (Z, I18, L26) r M')))))))))))))))))))) : Lp_X11_spreadBy_11 g 6 o u1 u2 u3 u4 (Z, I, L) r M' := by
  refine fr_iload (q := 4) rfl dX11_spreadBy_11 rfl ?_
  refine fr_aload_n (i := 0) (q := 0) rfl dX11_spreadBy_13 rfl ?_
  refine fr_getR dX11_spreadBy_14 rfl fl_X11_51 k_o r_o_now ?_
  obtain ⟨v1, hc2, h⟩ := h
  refine fr_callV2 (ν := mu_X8_posesInAll) (st2 := [.int v1, .int u4]) (As := []) (st := [.int u4]) (v := (some (.int v1))) (M1 := (Z, I, L)) dX11_spreadBy_17 rfl ml_X11_230 mo_X8_posesInAll mi_X8_posesInAll (ci := 8) rfl rfl k_o_now (Nat.le_of_ble_eq_true rfl) rfl rfl (Nat.le_of_ble_eq_true rfl) hc2 rfl ?_
  refine fr_icmp_ge (tgt := 112) dX11_spreadBy_20 (by decide) rfl (fun hc => ?_) (fun hc => ?_)
  · have h := h.1 hc
    refine fr_aload_n (i := 0) (q := 0) rfl dX11_spreadBy_112 rfl ?_
    refine fr_getR dX11_spreadBy_113 rfl fl_X11_36 k_o r_o_spread ?_
    refine fr_iconst (v := 0) (by decide) dX11_spreadBy_116 rfl ?_
    refine fr_aload_n (i := 0) (q := 0) rfl dX11_spreadBy_117 rfl ?_
    refine fr_getR dX11_spreadBy_118 rfl fl_X11_32 k_o r_o_weights ?_
    refine fr_iconst (v := 0) (by decide) dX11_spreadBy_121 rfl ?_
    refine fr_aload_n (i := 0) (q := 0) rfl dX11_spreadBy_122 rfl ?_
    refine fr_getR dX11_spreadBy_123 rfl fl_X11_32 k_o r_o_weights ?_
    refine fr_alen dX11_spreadBy_126 rfl k_o_weights (Or.inr (Or.inl rfl)) ?_
    obtain ⟨hz31, hz32, hz33, hz34, hz35, h⟩ := h
    refine fr_copyL dX11_spreadBy_127 rfl ml_X11_233 w_copy (Nat.le_of_ble_eq_true rfl) (Nat.le_of_ble_eq_true rfl) k_o_spread k_o_weights hz31 hz32 hz33 hz34 hz35 ?_
    refine fr_memL (fun L4 hL4 => ?_)
    have h := h L4 hL4
    exact fr_vret rfl dX11_spreadBy_130 h.1 h.2
  · have h := h.2 hc
    refine fr_aload_n (i := 0) (q := 0) rfl dX11_spreadBy_23 rfl ?_
    refine fr_getR dX11_spreadBy_24 rfl fl_X11_32 k_o r_o_weights ?_
    refine fr_iload (q := 4) rfl dX11_spreadBy_27 rfl ?_
    obtain ⟨hz5, h⟩ := h
    refine fr_lald dX11_spreadBy_29 rfl k_o_weights hz5 ?_
    refine fr_lconst (v := 0) (by decide) dX11_spreadBy_30 rfl ?_
    refine fr_lcmp dX11_spreadBy_31 rfl ?_
    refine fr_if_eq (tgt := 106) dX11_spreadBy_32 (by decide) rfl (fun hc => ?_) (fun hc => ?_)
    · have h := h.1 hc
      obtain ⟨y6, hy6⟩ : ∃ y : Int32, y = u4 + 1 := ⟨_, rfl⟩
      have h := h y6 hy6
      refine fr_iinc (q := 4) (v := y6) (lv' := [(4, .int y6), (0, rf g o), (1, .int u1), (2, .int u2), (3, .int u3)]) rfl (by rw [hy6]; rfl) dX11_spreadBy_106 rfl (by decide) rfl ?_
      refine fr_goto (n := 11) dX11_spreadBy_109 (by decide) ?_
      exact fr_sub [1, 2, 3, 4, 0] rfl h
    · have h := h.2 hc
      refine fr_aload_n (i := 0) (q := 0) rfl dX11_spreadBy_35 rfl ?_
      refine fr_getR dX11_spreadBy_36 rfl fl_X11_36 k_o r_o_spread ?_
      refine fr_aload_n (i := 0) (q := 0) rfl dX11_spreadBy_39 rfl ?_
      refine fr_getR dX11_spreadBy_40 rfl fl_X11_63 k_o r_o_legs ?_
      refine fr_iload_n (i := 1) (q := 1) rfl dX11_spreadBy_43 rfl ?_
      refine fr_iload (q := 4) rfl dX11_spreadBy_44 rfl ?_
      refine fr_iload_n (i := 2) (q := 2) rfl dX11_spreadBy_46 rfl ?_
      obtain ⟨v7, I8, L9, hc10, h⟩ := h
      refine fr_callV2 (ν := mu_X3_step) (st2 := [.int v7, rf g o_spread]) (As := [.int u1, .int u4, .int u2]) (st := [rf g o_spread]) (v := (some (.int v7))) (M1 := (Z, I8, L9)) dX11_spreadBy_47 rfl ml_X11_147 mo_X3_step mi_X3_step (ci := 3) rfl rfl k_o_legs (Nat.le_of_ble_eq_true rfl) rfl rfl (Nat.le_of_ble_eq_true rfl) hc10 rfl ?_
      obtain ⟨v11, hc12, h⟩ := h
      refine fr_callS2 (ν := mu_X11_poseOf) (st2 := [.int v11, rf g o_spread]) (As := [.int v7]) (st := [rf g o_spread]) (v := (some (.int v11))) (M1 := (Z, I8, L9)) dX11_spreadBy_50 rfl ml_X11_161 mo_X11_poseOf ms_X11_poseOf (Nat.le_of_ble_eq_true rfl) rfl rfl (Nat.le_of_ble_eq_true rfl) hc12 rfl ?_
      refine fr_dup2 rfl rfl dX11_spreadBy_53 rfl ?_
      obtain ⟨hz13, h⟩ := h
      refine fr_lald dX11_spreadBy_54 rfl k_o_spread hz13 ?_
      refine fr_aload_n (i := 0) (q := 0) rfl dX11_spreadBy_55 rfl ?_
      refine fr_getR dX11_spreadBy_56 rfl fl_X11_32 k_o r_o_weights ?_
      refine fr_iload (q := 4) rfl dX11_spreadBy_59 rfl ?_
      obtain ⟨hz14, h⟩ := h
      refine fr_lald dX11_spreadBy_61 rfl k_o_weights hz14 ?_
      refine fr_bipush (v := 10) (by decide) dX11_spreadBy_62 rfl ?_
      refine fr_iload_n (i := 3) (q := 3) rfl dX11_spreadBy_64 rfl ?_
      refine fr_isub dX11_spreadBy_65 rfl ?_
      refine fr_i2l dX11_spreadBy_66 rfl ?_
      refine fr_lmul dX11_spreadBy_67 rfl ?_
      refine fr_ladd dX11_spreadBy_68 rfl ?_
      obtain ⟨hz15, h⟩ := h
      refine fr_last dX11_spreadBy_69 rfl k_o_spread hz15 ?_
      refine fr_memL (fun L16 hL16 => ?_)
      have h := h L16 hL16
      refine fr_aload_n (i := 0) (q := 0) rfl dX11_spreadBy_70 rfl ?_
      refine fr_getR dX11_spreadBy_71 rfl fl_X11_36 k_o r_o_spread ?_
      refine fr_aload_n (i := 0) (q := 0) rfl dX11_spreadBy_74 rfl ?_
      refine fr_getR dX11_spreadBy_75 rfl fl_X11_63 k_o r_o_legs ?_
      refine fr_iload_n (i := 1) (q := 1) rfl dX11_spreadBy_78 rfl ?_
      refine fr_iload (q := 4) rfl dX11_spreadBy_79 rfl ?_
      refine fr_iload_n (i := 2) (q := 2) rfl dX11_spreadBy_81 rfl ?_
      refine fr_iconst (v := 1) (by decide) dX11_spreadBy_82 rfl ?_
      refine fr_iadd dX11_spreadBy_83 rfl ?_
      refine fr_iconst (v := 4) (by decide) dX11_spreadBy_84 rfl ?_
      refine fr_irem (by decide) dX11_spreadBy_85 rfl ?_
      obtain ⟨v17, I18, L19, hc20, h⟩ := h
      refine fr_callV2 (ν := mu_X3_step) (st2 := [.int v17, rf g o_spread]) (As := [.int u1, .int u4, .int ((u2 + 1) - (u2 + 1) / 4 * 4)]) (st := [rf g o_spread]) (v := (some (.int v17))) (M1 := (Z, I18, L19)) dX11_spreadBy_86 rfl ml_X11_147 mo_X3_step mi_X3_step (ci := 3) rfl rfl k_o_legs (Nat.le_of_ble_eq_true rfl) rfl rfl (Nat.le_of_ble_eq_true rfl) hc20 rfl ?_
      obtain ⟨v21, hc22, h⟩ := h
      refine fr_callS2 (ν := mu_X11_poseOf) (st2 := [.int v21, rf g o_spread]) (As := [.int v17]) (st := [rf g o_spread]) (v := (some (.int v21))) (M1 := (Z, I18, L19)) dX11_spreadBy_89 rfl ml_X11_161 mo_X11_poseOf ms_X11_poseOf (Nat.le_of_ble_eq_true rfl) rfl rfl (Nat.le_of_ble_eq_true rfl) hc22 rfl ?_
      refine fr_dup2 rfl rfl dX11_spreadBy_92 rfl ?_
      obtain ⟨hz23, h⟩ := h
      refine fr_lald dX11_spreadBy_93 rfl k_o_spread hz23 ?_
      refine fr_aload_n (i := 0) (q := 0) rfl dX11_spreadBy_94 rfl ?_
      refine fr_getR dX11_spreadBy_95 rfl fl_X11_32 k_o r_o_weights ?_
      refine fr_iload (q := 4) rfl dX11_spreadBy_98 rfl ?_
      obtain ⟨hz24, h⟩ := h
      refine fr_lald dX11_spreadBy_100 rfl k_o_weights hz24 ?_
      refine fr_iload_n (i := 3) (q := 3) rfl dX11_spreadBy_101 rfl ?_
      refine fr_i2l dX11_spreadBy_102 rfl ?_
      refine fr_lmul dX11_spreadBy_103 rfl ?_
      refine fr_ladd dX11_spreadBy_104 rfl ?_
      obtain ⟨hz25, h⟩ := h
      refine fr_last dX11_spreadBy_105 rfl k_o_spread hz25 ?_
      refine fr_memL (fun L26 hL26 => ?_)
      have h := h L26 hL26
      obtain ⟨y27, hy27⟩ : ∃ y : Int32, y = u4 + 1 := ⟨_, rfl⟩
      have h := h y27 hy27
      refine fr_iinc (q := 4) (v := y27) (lv' := [(4, .int y27), (0, rf g o), (1, .int u1), (2, .int u2), (3, .int u3)]) rfl (by rw [hy27]; rfl) dX11_spreadBy_106 rfl (by decide) rfl ?_
      refine fr_goto (n := 11) dX11_spreadBy_109 (by decide) ?_
      exact fr_sub [1, 2, 3, 4, 0] rfl h
abbrev Lp_X11_commonDivisor_13 (g : GE) (d : Nat) (u4 : Int64) (u6 : Int64) (u8 : Int32) (M : Mem) (r : Option Value) (M' : Mem) : Prop := Fr g d mu_X11_commonDivisor 13 [(4, .long u4), (6, .long u6), (8, .int u8)] [] M r M'
theorem cp_X11_commonDivisor {g : GE} {Z : Zs} {I : Nat → Nat → Int32} {L : Nat → Nat → Int64} {r : Option Value} {M' : Mem} {x0 : Int64} {x2 : Int64}  (h : (∀ y1 : Int64, y1 = (if x0 < 1 then 1 else x0) → Lp_X11_commonDivisor_13 g 2 y1 x2 0 (Z, I, L) r M')) : Cl g 2 mu_X11_commonDivisor [.long x0, .long x2] (Z, I, L) r M' := by
  refine cl_of (lv := [(0, .long x0), (2, .long x2)]) (by decide) (Nat.le_of_ble_eq_true rfl) rfl ?_
  refine fr_lconst (v := 1) (by decide) dX11_commonDivisor_0 rfl ?_
  refine fr_lload_n (i := 0) (q := 0) rfl dX11_commonDivisor_1 rfl ?_
  refine fr_mmax_long dX11_commonDivisor_2 rfl ml_X11_239 w_mmaxL (Nat.le_of_ble_eq_true rfl) (Nat.le_of_ble_eq_true rfl) ?_
  refine fr_topl (fun y1 hy1 => ?_)
  have h := h y1 hy1
  refine fr_lstore (lv' := [(4, .long y1), (0, .long x0), (2, .long x2)]) dX11_commonDivisor_5 rfl (by decide) rfl ?_
  refine fr_lload_n (i := 2) (q := 2) rfl dX11_commonDivisor_7 rfl ?_
  refine fr_lstore (lv' := [(6, .long x2), (4, .long y1), (0, .long x0), (2, .long x2)]) dX11_commonDivisor_8 rfl (by decide) rfl ?_
  refine fr_iconst (v := 0) (by decide) dX11_commonDivisor_10 rfl ?_
  refine fr_istore (lv' := [(8, .int 0), (6, .long x2), (4, .long y1), (0, .long x0), (2, .long x2)]) dX11_commonDivisor_11 rfl (by decide) rfl ?_
  exact fr_sub [2, 1, 0] rfl h
theorem wp_X11_commonDivisor_13 {g : GE} {Z : Zs} {I : Nat → Nat → Int32} {L : Nat → Nat → Int64} {r : Option Value} {M' : Mem} {u4 : Int64} {u6 : Int64} {u8 : Int32}  (h : ((100 ≤ u8 → (r = some (.long u4) ∧ M' = (Z, I, L))) ∧ (¬ 100 ≤ u8 → (((lg_cmp u6 0) = 0 → (r = some (.long u4) ∧ M' = (Z, I, L))) ∧ (¬ (lg_cmp u6 0) = 0 → (¬ u6 = 0 ∧ (∀ y2 : Int64, y2 = (u4 - u4 / u6 * u6) → (∀ y3 : Int32, y3 = (u8 + 1) → Lp_X11_commonDivisor_13 g 2 u6 y2 y3 (Z, I, L) r M')))))))) : Lp_X11_commonDivisor_13 g 2 u4 u6 u8 (Z, I, L) r M' := by
  refine fr_iload (q := 2) rfl dX11_commonDivisor_13 rfl ?_
  refine fr_bipush (v := 100) (by decide) dX11_commonDivisor_15 rfl ?_
  refine fr_icmp_ge (tgt := 48) dX11_commonDivisor_17 (by decide) rfl (fun hc => ?_) (fun hc => ?_)
  · have h := h.1 hc
    refine fr_lload (q := 0) rfl dX11_commonDivisor_48 rfl ?_
    exact fr_lret rfl dX11_commonDivisor_50 h.1 h.2
  · have h := h.2 hc
    refine fr_lload (q := 1) rfl dX11_commonDivisor_20 rfl ?_
    refine fr_lconst (v := 0) (by decide) dX11_commonDivisor_22 rfl ?_
    refine fr_lcmp dX11_commonDivisor_23 rfl ?_
    refine fr_if_eq (tgt := 48) dX11_commonDivisor_24 (by decide) rfl (fun hc => ?_) (fun hc => ?_)
    · have h := h.1 hc
      refine fr_lload (q := 0) rfl dX11_commonDivisor_48 rfl ?_
      exact fr_lret rfl dX11_commonDivisor_50 h.1 h.2
    · have h := h.2 hc
      refine fr_lload (q := 0) rfl dX11_commonDivisor_27 rfl ?_
      refine fr_lload (q := 1) rfl dX11_commonDivisor_29 rfl ?_
      obtain ⟨hz1, h⟩ := h
      refine fr_lrem hz1 dX11_commonDivisor_31 rfl ?_
      refine fr_topl (fun y2 hy2 => ?_)
      have h := h y2 hy2
      refine fr_lstore (lv' := [(9, .long y2), (4, .long u4), (6, .long u6), (8, .int u8)]) dX11_commonDivisor_32 rfl (by decide) rfl ?_
      refine fr_lload (q := 2) rfl dX11_commonDivisor_34 rfl ?_
      refine fr_lstore (lv' := [(4, .long u6), (9, .long y2), (6, .long u6), (8, .int u8)]) dX11_commonDivisor_36 rfl (by decide) rfl ?_
      refine fr_lload (q := 1) rfl dX11_commonDivisor_38 rfl ?_
      refine fr_lstore (lv' := [(6, .long y2), (4, .long u6), (9, .long y2), (8, .int u8)]) dX11_commonDivisor_40 rfl (by decide) rfl ?_
      obtain ⟨y3, hy3⟩ : ∃ y : Int32, y = u8 + 1 := ⟨_, rfl⟩
      have h := h y3 hy3
      refine fr_iinc (q := 3) (v := y3) (lv' := [(8, .int y3), (6, .long y2), (4, .long u6), (9, .long y2)]) rfl (by rw [hy3]; rfl) dX11_commonDivisor_42 rfl (by decide) rfl ?_
      refine fr_goto (n := 13) dX11_commonDivisor_45 (by decide) ?_
      exact fr_sub [2, 1, 0] rfl h
theorem cp_X11_seen {g : GE} {Z : Zs} {I : Nat → Nat → Int32} {L : Nat → Nat → Int64} {r : Option Value} {M' : Mem} {o : Nat} {x1 : Int32} {x2 : Int32} {x3 : Int32} {o_now : Nat} {o_now_seenPoses : Nat} {o_now_seenTaps : Nat} {o_now_seenThens : Nat} (k_o : KM Z o 11) (r_o_now : Z.2.1 o 0 = some o_now) (k_o_now : KM Z o_now 8) (r_o_now_seenPoses : Z.2.1 o_now 8 = some o_now_seenPoses) (k_o_now_seenPoses : KM Z o_now_seenPoses 2) (r_o_now_seenTaps : Z.2.1 o_now 9 = some o_now_seenTaps) (k_o_now_seenTaps : KM Z o_now_seenTaps 2) (r_o_now_seenThens : Z.2.1 o_now 10 = some o_now_seenThens) (k_o_now_seenThens : KM Z o_now_seenThens 2) (h : (∃ (v1 : Int32), Cl g 2 mu_X8_isPose [rf g o_now, .int x1] (Z, I, L) (some (.int v1)) (Z, I, L) ∧ ((v1 = 0 → (r = some (.int ((-1))) ∧ M' = (Z, I, L))) ∧ (¬ v1 = 0 → (∃ (v3 : Int32), Cl g 1 mu_X11_isTap [.int x2] (Z, I, L) (some (.int v3)) (Z, I, L) ∧ ((v3 = 0 → (r = some (.int ((-1))) ∧ M' = (Z, I, L))) ∧ (¬ v3 = 0 → (∃ (v5 : Int32), Cl g 2 mu_X8_isPose [rf g o_now, .int x3] (Z, I, L) (some (.int v5)) (Z, I, L) ∧ ((v5 = 0 → (r = some (.int ((-1))) ∧ M' = (Z, I, L))) ∧ (¬ v5 = 0 → (∃ (v7 : Int32), Cl g 1 mu_X2_size [rf g o_now_seenPoses] (Z, I, L) (some (.int v7)) (Z, I, L) ∧ ((v7 < 20 → (∃ (I9 : Nat → Nat → Int32) (L10 : Nat → Nat → Int64), Cl g 1 mu_X2_add [rf g o_now_seenPoses, .int x1] (Z, I, L) none (Z, I9, L10) ∧ (∃ (I12 : Nat → Nat → Int32) (L13 : Nat → Nat → Int64), Cl g 1 mu_X2_add [rf g o_now_seenTaps, .int x2] (Z, I9, L10) none (Z, I12, L13) ∧ (∃ (I15 : Nat → Nat → Int32) (L16 : Nat → Nat → Int64), Cl g 1 mu_X2_add [rf g o_now_seenThens, .int x3] (Z, I12, L13) none (Z, I15, L16) ∧ (∃ (v18 : Int32), Cl g 1 mu_X2_size [rf g o_now_seenPoses] (Z, I15, L16) (some (.int v18)) (Z, I15, L16) ∧ (r = some (.int v18) ∧ M' = (Z, I15, L16))))))) ∧ (¬ v7 < 20 → (r = some (.int ((-1))) ∧ M' = (Z, I, L))))))))))))))) : Cl g 3 mu_X11_seen [rf g o, .int x1, .int x2, .int x3] (Z, I, L) r M' := by
  refine cl_of (lv := [(0, rf g o), (1, .int x1), (2, .int x2), (3, .int x3)]) (by decide) (Nat.le_of_ble_eq_true rfl) rfl ?_
  refine fr_aload_n (i := 0) (q := 0) rfl dX11_seen_0 rfl ?_
  refine fr_getR dX11_seen_1 rfl fl_X11_51 k_o r_o_now ?_
  refine fr_iload_n (i := 1) (q := 1) rfl dX11_seen_4 rfl ?_
  obtain ⟨v1, hc2, h⟩ := h
  refine fr_callV2 (ν := mu_X8_isPose) (st2 := [.int v1]) (As := [.int x1]) (st := []) (v := (some (.int v1))) (M1 := (Z, I, L)) dX11_seen_5 rfl ml_X11_102 mo_X8_isPose mi_X8_isPose (ci := 8) rfl rfl k_o_now (Nat.le_of_ble_eq_true rfl) rfl rfl (Nat.le_of_ble_eq_true rfl) hc2 rfl ?_
  refine fr_if_eq (tgt := 44) dX11_seen_8 (by decide) rfl (fun hc => ?_) (fun hc => ?_)
  · have h := h.1 hc
    refine fr_iconst (v := (-1)) (by decide) dX11_seen_44 rfl ?_
    exact fr_iret rfl dX11_seen_45 h.1 h.2
  · have h := h.2 hc
    refine fr_iload_n (i := 2) (q := 2) rfl dX11_seen_11 rfl ?_
    obtain ⟨v3, hc4, h⟩ := h
    refine fr_callS2 (ν := mu_X11_isTap) (st2 := [.int v3]) (As := [.int x2]) (st := []) (v := (some (.int v3))) (M1 := (Z, I, L)) dX11_seen_12 rfl ml_X11_144 mo_X11_isTap ms_X11_isTap (Nat.le_of_ble_eq_true rfl) rfl rfl (Nat.le_of_ble_eq_true rfl) hc4 rfl ?_
    refine fr_if_eq (tgt := 44) dX11_seen_15 (by decide) rfl (fun hc => ?_) (fun hc => ?_)
    · have h := h.1 hc
      refine fr_iconst (v := (-1)) (by decide) dX11_seen_44 rfl ?_
      exact fr_iret rfl dX11_seen_45 h.1 h.2
    · have h := h.2 hc
      refine fr_aload_n (i := 0) (q := 0) rfl dX11_seen_18 rfl ?_
      refine fr_getR dX11_seen_19 rfl fl_X11_51 k_o r_o_now ?_
      refine fr_iload_n (i := 3) (q := 3) rfl dX11_seen_22 rfl ?_
      obtain ⟨v5, hc6, h⟩ := h
      refine fr_callV2 (ν := mu_X8_isPose) (st2 := [.int v5]) (As := [.int x3]) (st := []) (v := (some (.int v5))) (M1 := (Z, I, L)) dX11_seen_23 rfl ml_X11_102 mo_X8_isPose mi_X8_isPose (ci := 8) rfl rfl k_o_now (Nat.le_of_ble_eq_true rfl) rfl rfl (Nat.le_of_ble_eq_true rfl) hc6 rfl ?_
      refine fr_if_eq (tgt := 44) dX11_seen_26 (by decide) rfl (fun hc => ?_) (fun hc => ?_)
      · have h := h.1 hc
        refine fr_iconst (v := (-1)) (by decide) dX11_seen_44 rfl ?_
        exact fr_iret rfl dX11_seen_45 h.1 h.2
      · have h := h.2 hc
        refine fr_aload_n (i := 0) (q := 0) rfl dX11_seen_29 rfl ?_
        refine fr_getR dX11_seen_30 rfl fl_X11_51 k_o r_o_now ?_
        refine fr_getR dX11_seen_33 rfl fl_X11_244 k_o_now r_o_now_seenPoses ?_
        obtain ⟨v7, hc8, h⟩ := h
        refine fr_callV2 (ν := mu_X2_size) (st2 := [.int v7]) (As := []) (st := []) (v := (some (.int v7))) (M1 := (Z, I, L)) dX11_seen_36 rfl ml_X11_111 mo_X2_size mi_X2_size (ci := 2) rfl rfl k_o_now_seenPoses (Nat.le_of_ble_eq_true rfl) rfl rfl (Nat.le_of_ble_eq_true rfl) hc8 rfl ?_
        refine fr_bipush (v := 20) (by decide) dX11_seen_39 rfl ?_
        refine fr_icmp_lt (tgt := 46) dX11_seen_41 (by decide) rfl (fun hc => ?_) (fun hc => ?_)
        · have h := h.1 hc
          refine fr_aload_n (i := 0) (q := 0) rfl dX11_seen_46 rfl ?_
          refine fr_getR dX11_seen_47 rfl fl_X11_51 k_o r_o_now ?_
          refine fr_getR dX11_seen_50 rfl fl_X11_244 k_o_now r_o_now_seenPoses ?_
          refine fr_iload_n (i := 1) (q := 1) rfl dX11_seen_53 rfl ?_
          obtain ⟨I9, L10, hc11, h⟩ := h
          refine fr_callV2 (ν := mu_X2_add) (st2 := []) (As := [.int x1]) (st := []) (v := none) (M1 := (Z, I9, L10)) dX11_seen_54 rfl ml_X11_115 mo_X2_add mi_X2_add (ci := 2) rfl rfl k_o_now_seenPoses (Nat.le_of_ble_eq_true rfl) rfl rfl (Nat.le_of_ble_eq_true rfl) hc11 rfl ?_
          refine fr_aload_n (i := 0) (q := 0) rfl dX11_seen_57 rfl ?_
          refine fr_getR dX11_seen_58 rfl fl_X11_51 k_o r_o_now ?_
          refine fr_getR dX11_seen_61 rfl fl_X11_247 k_o_now r_o_now_seenTaps ?_
          refine fr_iload_n (i := 2) (q := 2) rfl dX11_seen_64 rfl ?_
          obtain ⟨I12, L13, hc14, h⟩ := h
          refine fr_callV2 (ν := mu_X2_add) (st2 := []) (As := [.int x2]) (st := []) (v := none) (M1 := (Z, I12, L13)) dX11_seen_65 rfl ml_X11_115 mo_X2_add mi_X2_add (ci := 2) rfl rfl k_o_now_seenTaps (Nat.le_of_ble_eq_true rfl) rfl rfl (Nat.le_of_ble_eq_true rfl) hc14 rfl ?_
          refine fr_aload_n (i := 0) (q := 0) rfl dX11_seen_68 rfl ?_
          refine fr_getR dX11_seen_69 rfl fl_X11_51 k_o r_o_now ?_
          refine fr_getR dX11_seen_72 rfl fl_X11_250 k_o_now r_o_now_seenThens ?_
          refine fr_iload_n (i := 3) (q := 3) rfl dX11_seen_75 rfl ?_
          obtain ⟨I15, L16, hc17, h⟩ := h
          refine fr_callV2 (ν := mu_X2_add) (st2 := []) (As := [.int x3]) (st := []) (v := none) (M1 := (Z, I15, L16)) dX11_seen_76 rfl ml_X11_115 mo_X2_add mi_X2_add (ci := 2) rfl rfl k_o_now_seenThens (Nat.le_of_ble_eq_true rfl) rfl rfl (Nat.le_of_ble_eq_true rfl) hc17 rfl ?_
          refine fr_aload_n (i := 0) (q := 0) rfl dX11_seen_79 rfl ?_
          refine fr_getR dX11_seen_80 rfl fl_X11_51 k_o r_o_now ?_
          refine fr_getR dX11_seen_83 rfl fl_X11_244 k_o_now r_o_now_seenPoses ?_
          obtain ⟨v18, hc19, h⟩ := h
          refine fr_callV2 (ν := mu_X2_size) (st2 := [.int v18]) (As := []) (st := []) (v := (some (.int v18))) (M1 := (Z, I15, L16)) dX11_seen_86 rfl ml_X11_111 mo_X2_size mi_X2_size (ci := 2) rfl rfl k_o_now_seenPoses (Nat.le_of_ble_eq_true rfl) rfl rfl (Nat.le_of_ble_eq_true rfl) hc19 rfl ?_
          exact fr_iret rfl dX11_seen_89 h.1 h.2
        · have h := h.2 hc
          refine fr_iconst (v := (-1)) (by decide) dX11_seen_44 rfl ?_
          exact fr_iret rfl dX11_seen_45 h.1 h.2
abbrev Lp_X11_holds_4 (g : GE) (d : Nat) (o : Nat) (u1 : Int32) (u2 : Int32) (M : Mem) (r : Option Value) (M' : Mem) : Prop := Fr g d mu_X11_holds 4 [(0, rf g o), (1, .int u1), (2, .int u2)] [] M r M'
theorem cp_X11_holds {g : GE} {Z : Zs} {I : Nat → Nat → Int32} {L : Nat → Nat → Int64} {r : Option Value} {M' : Mem} {o : Nat} (k_o : KM Z o 11) (h : Lp_X11_holds_4 g 7 o 0 0 (Z, I, L) r M') : Cl g 7 mu_X11_holds [rf g o] (Z, I, L) r M' := by
  refine cl_of (lv := [(0, rf g o)]) (by decide) (Nat.le_of_ble_eq_true rfl) rfl ?_
  refine fr_iconst (v := 0) (by decide) dX11_holds_0 rfl ?_
  refine fr_istore_n (i := 1) (lv' := [(1, .int 0), (0, rf g o)]) dX11_holds_1 rfl (by decide) rfl ?_
  refine fr_iconst (v := 0) (by decide) dX11_holds_2 rfl ?_
  refine fr_istore_n (i := 2) (lv' := [(2, .int 0), (1, .int 0), (0, rf g o)]) dX11_holds_3 rfl (by decide) rfl ?_
  exact fr_sub [2, 1, 0] rfl h
theorem wp_X11_holds_4 {g : GE} {Z : Zs} {I : Nat → Nat → Int32} {L : Nat → Nat → Int64} {r : Option Value} {M' : Mem} {o : Nat} {u1 : Int32} {u2 : Int32} {o_now : Nat} (k_o : KM Z o 11) (r_o_now : Z.2.1 o 0 = some o_now) (k_o_now : KM Z o_now 8) (h : (((I o_now 14) ≤ u2 → (r = some (.int u1) ∧ M' = (Z, I, L))) ∧ (¬ (I o_now 14) ≤ u2 → (∃ (v1 : Int32) (I2 : Nat → Nat → Int32) (L3 : Nat → Nat → Int64), Cl g 6 mu_X11_isAllSeenBy [rf g o, .int u2] (Z, I, L) (some (.int v1)) (Z, I2, L3) ∧ ((v1 = 0 → (∀ y5 : Int32, y5 = (u1 ||| 0) → (∀ y6 : Int32, y6 = (u2 + 1) → Lp_X11_holds_4 g 7 o y5 y6 (Z, I2, L3) r M'))) ∧ (¬ v1 = 0 → (∀ y7 : Int32, y7 = (u1 ||| (1 <<< (u2 &&& 31))) → (∀ y8 : Int32, y8 = (u2 + 1) → Lp_X11_holds_4 g 7 o y7 y8 (Z, I2, L3) r M')))))))) : Lp_X11_holds_4 g 7 o u1 u2 (Z, I, L) r M' := by
  refine fr_iload_n (i := 2) (q := 2) rfl dX11_holds_4 rfl ?_
  refine fr_aload_n (i := 0) (q := 0) rfl dX11_holds_5 rfl ?_
  refine fr_getR dX11_holds_6 rfl fl_X11_51 k_o r_o_now ?_
  refine fr_getI dX11_holds_9 rfl fl_X11_127 k_o_now ?_
  refine fr_icmp_ge (tgt := 39) dX11_holds_12 (by decide) rfl (fun hc => ?_) (fun hc => ?_)
  · have h := h.1 hc
    refine fr_iload_n (i := 1) (q := 1) rfl dX11_holds_39 rfl ?_
    exact fr_iret rfl dX11_holds_40 h.1 h.2
  · have h := h.2 hc
    refine fr_iload_n (i := 1) (q := 1) rfl dX11_holds_15 rfl ?_
    refine fr_aload_n (i := 0) (q := 0) rfl dX11_holds_16 rfl ?_
    refine fr_iload_n (i := 2) (q := 2) rfl dX11_holds_17 rfl ?_
    obtain ⟨v1, I2, L3, hc4, h⟩ := h
    refine fr_callV2 (ν := mu_X11_isAllSeenBy) (st2 := [.int v1, .int u1]) (As := [.int u2]) (st := [.int u1]) (v := (some (.int v1))) (M1 := (Z, I2, L3)) dX11_holds_18 rfl ml_X11_253 mo_X11_isAllSeenBy mi_X11_isAllSeenBy (ci := 11) rfl rfl k_o (Nat.le_of_ble_eq_true rfl) rfl rfl (Nat.le_of_ble_eq_true rfl) hc4 rfl ?_
    refine fr_if_eq (tgt := 30) dX11_holds_21 (by decide) rfl (fun hc => ?_) (fun hc => ?_)
    · have h := h.1 hc
      refine fr_iconst (v := 0) (by decide) dX11_holds_30 rfl ?_
      refine fr_ior dX11_holds_31 rfl ?_
      refine fr_topi (fun y5 hy5 => ?_)
      have h := h y5 hy5
      refine fr_istore_n (i := 1) (lv' := [(1, .int y5), (0, rf g o), (2, .int u2)]) dX11_holds_32 rfl (by decide) rfl ?_
      obtain ⟨y6, hy6⟩ : ∃ y : Int32, y = u2 + 1 := ⟨_, rfl⟩
      have h := h y6 hy6
      refine fr_iinc (q := 2) (v := y6) (lv' := [(2, .int y6), (1, .int y5), (0, rf g o)]) rfl (by rw [hy6]; rfl) dX11_holds_33 rfl (by decide) rfl ?_
      refine fr_goto (n := 4) dX11_holds_36 (by decide) ?_
      exact fr_sub [2, 1, 0] rfl h
    · have h := h.2 hc
      refine fr_iconst (v := 1) (by decide) dX11_holds_24 rfl ?_
      refine fr_iload_n (i := 2) (q := 2) rfl dX11_holds_25 rfl ?_
      refine fr_ishl dX11_holds_26 rfl ?_
      refine fr_goto (n := 31) dX11_holds_27 (by decide) ?_
      refine fr_ior dX11_holds_31 rfl ?_
      refine fr_topi (fun y7 hy7 => ?_)
      have h := h y7 hy7
      refine fr_istore_n (i := 1) (lv' := [(1, .int y7), (0, rf g o), (2, .int u2)]) dX11_holds_32 rfl (by decide) rfl ?_
      obtain ⟨y8, hy8⟩ : ∃ y : Int32, y = u2 + 1 := ⟨_, rfl⟩
      have h := h y8 hy8
      refine fr_iinc (q := 2) (v := y8) (lv' := [(2, .int y8), (1, .int y7), (0, rf g o)]) rfl (by rw [hy8]; rfl) dX11_holds_33 rfl (by decide) rfl ?_
      refine fr_goto (n := 4) dX11_holds_36 (by decide) ?_
      exact fr_sub [2, 1, 0] rfl h
abbrev Lp_X11_isAllSeenBy_2 (g : GE) (d : Nat) (o : Nat) (u1 : Int32) (u2 : Int32) (M : Mem) (r : Option Value) (M' : Mem) : Prop := Fr g d mu_X11_isAllSeenBy 2 [(0, rf g o), (1, .int u1), (2, .int u2)] [] M r M'
theorem cp_X11_isAllSeenBy {g : GE} {Z : Zs} {I : Nat → Nat → Int32} {L : Nat → Nat → Int64} {r : Option Value} {M' : Mem} {o : Nat} {x1 : Int32} (k_o : KM Z o 11) (h : Lp_X11_isAllSeenBy_2 g 6 o x1 0 (Z, I, L) r M') : Cl g 6 mu_X11_isAllSeenBy [rf g o, .int x1] (Z, I, L) r M' := by
  refine cl_of (lv := [(0, rf g o), (1, .int x1)]) (by decide) (Nat.le_of_ble_eq_true rfl) rfl ?_
  refine fr_iconst (v := 0) (by decide) dX11_isAllSeenBy_0 rfl ?_
  refine fr_istore_n (i := 2) (lv' := [(2, .int 0), (0, rf g o), (1, .int x1)]) dX11_isAllSeenBy_1 rfl (by decide) rfl ?_
  exact fr_sub [1, 2, 0] rfl h
theorem wp_X11_isAllSeenBy_2 {g : GE} {Z : Zs} {I : Nat → Nat → Int32} {L : Nat → Nat → Int64} {r : Option Value} {M' : Mem} {o : Nat} {u1 : Int32} {u2 : Int32} {o_now : Nat} {o_now_seenPoses : Nat} {o_now_seenThens : Nat} {o_legs : Nat} {o_now_seenTaps : Nat} (k_o : KM Z o 11) (r_o_now : Z.2.1 o 0 = some o_now) (k_o_now : KM Z o_now 8) (r_o_now_seenPoses : Z.2.1 o_now 8 = some o_now_seenPoses) (k_o_now_seenPoses : KM Z o_now_seenPoses 2) (r_o_now_seenThens : Z.2.1 o_now 10 = some o_now_seenThens) (k_o_now_seenThens : KM Z o_now_seenThens 2) (r_o_legs : Z.2.1 o 5 = some o_legs) (k_o_legs : KM Z o_legs 3) (r_o_now_seenTaps : Z.2.1 o_now 9 = some o_now_seenTaps) (k_o_now_seenTaps : KM Z o_now_seenTaps 2) (h : (∃ (v1 : Int32), Cl g 1 mu_X2_size [rf g o_now_seenPoses] (Z, I, L) (some (.int v1)) (Z, I, L) ∧ ((v1 ≤ u2 → (r = some (.int 1) ∧ M' = (Z, I, L))) ∧ (¬ v1 ≤ u2 → (∃ (v3 : Int32), Cl g 1 mu_X2_at [rf g o_now_seenPoses, .int u2] (Z, I, L) (some (.int v3)) (Z, I, L) ∧ (∃ (v5 : Int32), Cl g 1 mu_X2_at [rf g o_now_seenThens, .int u2] (Z, I, L) (some (.int v5)) (Z, I, L) ∧ (∃ (v7 : Int32), Cl g 2 mu_X8_isPose [rf g o_now, .int v3] (Z, I, L) (some (.int v7)) (Z, I, L) ∧ ((v7 = 0 → (r = some (.int 0) ∧ M' = (Z, I, L))) ∧ (¬ v7 = 0 → (∃ (v9 : Int32), Cl g 2 mu_X8_isPose [rf g o_now, .int v5] (Z, I, L) (some (.int v9)) (Z, I, L) ∧ ((¬ v9 = 0 → (∃ (v11 : Int32), Cl g 1 mu_X2_at [rf g o_now_seenTaps, .int u2] (Z, I, L) (some (.int v11)) (Z, I, L) ∧ (∃ (v13 : Int32) (I14 : Nat → Nat → Int32) (L15 : Nat → Nat → Int64), Cl g 5 mu_X3_step [rf g o_legs, .int u1, .int v3, .int v11] (Z, I, L) (some (.int v13)) (Z, I14, L15) ∧ (∃ (v17 : Int32), Cl g 1 mu_X11_poseOf [.int v13] (Z, I14, L15) (some (.int v17)) (Z, I14, L15) ∧ ((v17 = v5 → (∀ y19 : Int32, y19 = (u2 + 1) → Lp_X11_isAllSeenBy_2 g 6 o u1 y19 (Z, I14, L15) r M')) ∧ (¬ v17 = v5 → (r = some (.int 0) ∧ M' = (Z, I14, L15)))))))) ∧ (v9 = 0 → (r = some (.int 0) ∧ M' = (Z, I, L)))))))))))))) : Lp_X11_isAllSeenBy_2 g 6 o u1 u2 (Z, I, L) r M' := by
  refine fr_iload_n (i := 2) (q := 2) rfl dX11_isAllSeenBy_2 rfl ?_
  refine fr_aload_n (i := 0) (q := 0) rfl dX11_isAllSeenBy_3 rfl ?_
  refine fr_getR dX11_isAllSeenBy_4 rfl fl_X11_51 k_o r_o_now ?_
  refine fr_getR dX11_isAllSeenBy_7 rfl fl_X11_244 k_o_now r_o_now_seenPoses ?_
  obtain ⟨v1, hc2, h⟩ := h
  refine fr_callV2 (ν := mu_X2_size) (st2 := [.int v1, .int u2]) (As := []) (st := [.int u2]) (v := (some (.int v1))) (M1 := (Z, I, L)) dX11_isAllSeenBy_10 rfl ml_X11_111 mo_X2_size mi_X2_size (ci := 2) rfl rfl k_o_now_seenPoses (Nat.le_of_ble_eq_true rfl) rfl rfl (Nat.le_of_ble_eq_true rfl) hc2 rfl ?_
  refine fr_icmp_ge (tgt := 102) dX11_isAllSeenBy_13 (by decide) rfl (fun hc => ?_) (fun hc => ?_)
  · have h := h.1 hc
    refine fr_iconst (v := 1) (by decide) dX11_isAllSeenBy_102 rfl ?_
    exact fr_zret (by decide) rfl dX11_isAllSeenBy_103 h.1 h.2
  · have h := h.2 hc
    refine fr_aload_n (i := 0) (q := 0) rfl dX11_isAllSeenBy_16 rfl ?_
    refine fr_getR dX11_isAllSeenBy_17 rfl fl_X11_51 k_o r_o_now ?_
    refine fr_getR dX11_isAllSeenBy_20 rfl fl_X11_244 k_o_now r_o_now_seenPoses ?_
    refine fr_iload_n (i := 2) (q := 2) rfl dX11_isAllSeenBy_23 rfl ?_
    obtain ⟨v3, hc4, h⟩ := h
    refine fr_callV2 (ν := mu_X2_at) (st2 := [.int v3]) (As := [.int u2]) (st := []) (v := (some (.int v3))) (M1 := (Z, I, L)) dX11_isAllSeenBy_24 rfl ml_X11_157 mo_X2_at mi_X2_at (ci := 2) rfl rfl k_o_now_seenPoses (Nat.le_of_ble_eq_true rfl) rfl rfl (Nat.le_of_ble_eq_true rfl) hc4 rfl ?_
    refine fr_istore_n (i := 3) (lv' := [(3, .int v3), (0, rf g o), (1, .int u1), (2, .int u2)]) dX11_isAllSeenBy_27 rfl (by decide) rfl ?_
    refine fr_aload_n (i := 0) (q := 1) rfl dX11_isAllSeenBy_28 rfl ?_
    refine fr_getR dX11_isAllSeenBy_29 rfl fl_X11_51 k_o r_o_now ?_
    refine fr_getR dX11_isAllSeenBy_32 rfl fl_X11_250 k_o_now r_o_now_seenThens ?_
    refine fr_iload_n (i := 2) (q := 3) rfl dX11_isAllSeenBy_35 rfl ?_
    obtain ⟨v5, hc6, h⟩ := h
    refine fr_callV2 (ν := mu_X2_at) (st2 := [.int v5]) (As := [.int u2]) (st := []) (v := (some (.int v5))) (M1 := (Z, I, L)) dX11_isAllSeenBy_36 rfl ml_X11_157 mo_X2_at mi_X2_at (ci := 2) rfl rfl k_o_now_seenThens (Nat.le_of_ble_eq_true rfl) rfl rfl (Nat.le_of_ble_eq_true rfl) hc6 rfl ?_
    refine fr_istore (lv' := [(4, .int v5), (3, .int v3), (0, rf g o), (1, .int u1), (2, .int u2)]) dX11_isAllSeenBy_39 rfl (by decide) rfl ?_
    refine fr_aload_n (i := 0) (q := 2) rfl dX11_isAllSeenBy_41 rfl ?_
    refine fr_getR dX11_isAllSeenBy_42 rfl fl_X11_51 k_o r_o_now ?_
    refine fr_iload_n (i := 3) (q := 1) rfl dX11_isAllSeenBy_45 rfl ?_
    obtain ⟨v7, hc8, h⟩ := h
    refine fr_callV2 (ν := mu_X8_isPose) (st2 := [.int v7]) (As := [.int v3]) (st := []) (v := (some (.int v7))) (M1 := (Z, I, L)) dX11_isAllSeenBy_46 rfl ml_X11_102 mo_X8_isPose mi_X8_isPose (ci := 8) rfl rfl k_o_now (Nat.le_of_ble_eq_true rfl) rfl rfl (Nat.le_of_ble_eq_true rfl) hc8 rfl ?_
    refine fr_if_eq (tgt := 64) dX11_isAllSeenBy_49 (by decide) rfl (fun hc => ?_) (fun hc => ?_)
    · have h := h.1 hc
      refine fr_iconst (v := 0) (by decide) dX11_isAllSeenBy_64 rfl ?_
      exact fr_zret (by decide) rfl dX11_isAllSeenBy_65 h.1 h.2
    · have h := h.2 hc
      refine fr_aload_n (i := 0) (q := 2) rfl dX11_isAllSeenBy_52 rfl ?_
      refine fr_getR dX11_isAllSeenBy_53 rfl fl_X11_51 k_o r_o_now ?_
      refine fr_iload (q := 0) rfl dX11_isAllSeenBy_56 rfl ?_
      obtain ⟨v9, hc10, h⟩ := h
      refine fr_callV2 (ν := mu_X8_isPose) (st2 := [.int v9]) (As := [.int v5]) (st := []) (v := (some (.int v9))) (M1 := (Z, I, L)) dX11_isAllSeenBy_58 rfl ml_X11_102 mo_X8_isPose mi_X8_isPose (ci := 8) rfl rfl k_o_now (Nat.le_of_ble_eq_true rfl) rfl rfl (Nat.le_of_ble_eq_true rfl) hc10 rfl ?_
      refine fr_if_ne (tgt := 66) dX11_isAllSeenBy_61 (by decide) rfl (fun hc => ?_) (fun hc => ?_)
      · have h := h.1 hc
        refine fr_aload_n (i := 0) (q := 2) rfl dX11_isAllSeenBy_66 rfl ?_
        refine fr_getR dX11_isAllSeenBy_67 rfl fl_X11_63 k_o r_o_legs ?_
        refine fr_iload_n (i := 1) (q := 3) rfl dX11_isAllSeenBy_70 rfl ?_
        refine fr_iload_n (i := 3) (q := 1) rfl dX11_isAllSeenBy_71 rfl ?_
        refine fr_aload_n (i := 0) (q := 2) rfl dX11_isAllSeenBy_72 rfl ?_
        refine fr_getR dX11_isAllSeenBy_73 rfl fl_X11_51 k_o r_o_now ?_
        refine fr_getR dX11_isAllSeenBy_76 rfl fl_X11_247 k_o_now r_o_now_seenTaps ?_
        refine fr_iload_n (i := 2) (q := 4) rfl dX11_isAllSeenBy_79 rfl ?_
        obtain ⟨v11, hc12, h⟩ := h
        refine fr_callV2 (ν := mu_X2_at) (st2 := [.int v11, .int v3, .int u1, rf g o_legs]) (As := [.int u2]) (st := [.int v3, .int u1, rf g o_legs]) (v := (some (.int v11))) (M1 := (Z, I, L)) dX11_isAllSeenBy_80 rfl ml_X11_157 mo_X2_at mi_X2_at (ci := 2) rfl rfl k_o_now_seenTaps (Nat.le_of_ble_eq_true rfl) rfl rfl (Nat.le_of_ble_eq_true rfl) hc12 rfl ?_
        obtain ⟨v13, I14, L15, hc16, h⟩ := h
        refine fr_callV2 (ν := mu_X3_step) (st2 := [.int v13]) (As := [.int u1, .int v3, .int v11]) (st := []) (v := (some (.int v13))) (M1 := (Z, I14, L15)) dX11_isAllSeenBy_83 rfl ml_X11_147 mo_X3_step mi_X3_step (ci := 3) rfl rfl k_o_legs (Nat.le_of_ble_eq_true rfl) rfl rfl (Nat.le_of_ble_eq_true rfl) hc16 rfl ?_
        obtain ⟨v17, hc18, h⟩ := h
        refine fr_callS2 (ν := mu_X11_poseOf) (st2 := [.int v17]) (As := [.int v13]) (st := []) (v := (some (.int v17))) (M1 := (Z, I14, L15)) dX11_isAllSeenBy_86 rfl ml_X11_161 mo_X11_poseOf ms_X11_poseOf (Nat.le_of_ble_eq_true rfl) rfl rfl (Nat.le_of_ble_eq_true rfl) hc18 rfl ?_
        refine fr_iload (q := 0) rfl dX11_isAllSeenBy_89 rfl ?_
        refine fr_icmp_eq (tgt := 96) dX11_isAllSeenBy_91 (by decide) rfl (fun hc => ?_) (fun hc => ?_)
        · have h := h.1 hc
          obtain ⟨y19, hy19⟩ : ∃ y : Int32, y = u2 + 1 := ⟨_, rfl⟩
          have h := h y19 hy19
          refine fr_iinc (q := 4) (v := y19) (lv' := [(2, .int y19), (4, .int v5), (3, .int v3), (0, rf g o), (1, .int u1)]) rfl (by rw [hy19]; rfl) dX11_isAllSeenBy_96 rfl (by decide) rfl ?_
          refine fr_goto (n := 2) dX11_isAllSeenBy_99 (by decide) ?_
          exact fr_sub [3, 4, 0] rfl h
        · have h := h.2 hc
          refine fr_iconst (v := 0) (by decide) dX11_isAllSeenBy_94 rfl ?_
          exact fr_zret (by decide) rfl dX11_isAllSeenBy_95 h.1 h.2
      · have h := h.2 hc
        refine fr_iconst (v := 0) (by decide) dX11_isAllSeenBy_64 rfl ?_
        exact fr_zret (by decide) rfl dX11_isAllSeenBy_65 h.1 h.2
abbrev Lp_X11_dark_44 (g : GE) (d : Nat) (o : Nat) (u1 : Int32) (u2 : Int32) (u3 : Int32) (u4 : Int32) (u5 : Int32) (M : Mem) (r : Option Value) (M' : Mem) : Prop := Fr g d mu_X11_dark 44 [(0, rf g o), (1, .int u1), (2, .int u2), (3, .int u3), (4, .int u4), (5, .int u5)] [] M r M'
theorem cp_X11_dark {g : GE} {Z : Zs} {I : Nat → Nat → Int32} {L : Nat → Nat → Int64} {r : Option Value} {M' : Mem} {o : Nat} {x1 : Int32} {x2 : Int32} {x3 : Int32} {o_now : Nat} {o_now_taps : Nat} (k_o : KM Z o 11) (r_o_now : Z.2.1 o 0 = some o_now) (k_o_now : KM Z o_now 8) (r_o_now_taps : Z.2.1 o_now 5 = some o_now_taps) (k_o_now_taps : KM Z o_now_taps 2) (h : (∃ (v1 : Int32), Cl g 1 mu_X8_isText [rf g o_now, .int x1] (Z, I, L) (some (.int v1)) (Z, I, L) ∧ ((v1 = 0 → (r = some (.int ((-1))) ∧ M' = (Z, I, L))) ∧ (¬ v1 = 0 → ((x2 < 0 → (r = some (.int ((-1))) ∧ M' = (Z, I, L))) ∧ (¬ x2 < 0 → (∃ (v3 : Int32), Cl g 1 mu_X2_size [rf g o_now_taps] (Z, I, L) (some (.int v3)) (Z, I, L) ∧ (((1 <<< (v3 &&& 31)) ≤ x2 → (r = some (.int ((-1))) ∧ M' = (Z, I, L))) ∧ (¬ (1 <<< (v3 &&& 31)) ≤ x2 → ((((-1)) ≤ x3 → Lp_X11_dark_44 g 7 o x1 x2 x3 0 0 (Z, I, L) r M') ∧ (¬ ((-1)) ≤ x3 → (r = some (.int ((-1))) ∧ M' = (Z, I, L))))))))))))) : Cl g 7 mu_X11_dark [rf g o, .int x1, .int x2, .int x3] (Z, I, L) r M' := by
  refine cl_of (lv := [(0, rf g o), (1, .int x1), (2, .int x2), (3, .int x3)]) (by decide) (Nat.le_of_ble_eq_true rfl) rfl ?_
  refine fr_aload_n (i := 0) (q := 0) rfl dX11_dark_0 rfl ?_
  refine fr_getR dX11_dark_1 rfl fl_X11_51 k_o r_o_now ?_
  refine fr_iload_n (i := 1) (q := 1) rfl dX11_dark_4 rfl ?_
  obtain ⟨v1, hc2, h⟩ := h
  refine fr_callV2 (ν := mu_X8_isText) (st2 := [.int v1]) (As := [.int x1]) (st := []) (v := (some (.int v1))) (M1 := (Z, I, L)) dX11_dark_5 rfl ml_X11_105 mo_X8_isText mi_X8_isText (ci := 8) rfl rfl k_o_now (Nat.le_of_ble_eq_true rfl) rfl rfl (Nat.le_of_ble_eq_true rfl) hc2 rfl ?_
  refine fr_if_eq (tgt := 36) dX11_dark_8 (by decide) rfl (fun hc => ?_) (fun hc => ?_)
  · have h := h.1 hc
    refine fr_iconst (v := (-1)) (by decide) dX11_dark_36 rfl ?_
    exact fr_iret rfl dX11_dark_37 h.1 h.2
  · have h := h.2 hc
    refine fr_iload_n (i := 2) (q := 2) rfl dX11_dark_11 rfl ?_
    refine fr_if_lt (tgt := 36) dX11_dark_12 (by decide) rfl (fun hc => ?_) (fun hc => ?_)
    · have h := h.1 hc
      refine fr_iconst (v := (-1)) (by decide) dX11_dark_36 rfl ?_
      exact fr_iret rfl dX11_dark_37 h.1 h.2
    · have h := h.2 hc
      refine fr_iload_n (i := 2) (q := 2) rfl dX11_dark_15 rfl ?_
      refine fr_iconst (v := 1) (by decide) dX11_dark_16 rfl ?_
      refine fr_aload_n (i := 0) (q := 0) rfl dX11_dark_17 rfl ?_
      refine fr_getR dX11_dark_18 rfl fl_X11_51 k_o r_o_now ?_
      refine fr_getR dX11_dark_21 rfl fl_X11_164 k_o_now r_o_now_taps ?_
      obtain ⟨v3, hc4, h⟩ := h
      refine fr_callV2 (ν := mu_X2_size) (st2 := [.int v3, .int 1, .int x2]) (As := []) (st := [.int 1, .int x2]) (v := (some (.int v3))) (M1 := (Z, I, L)) dX11_dark_24 rfl ml_X11_111 mo_X2_size mi_X2_size (ci := 2) rfl rfl k_o_now_taps (Nat.le_of_ble_eq_true rfl) rfl rfl (Nat.le_of_ble_eq_true rfl) hc4 rfl ?_
      refine fr_ishl dX11_dark_27 rfl ?_
      refine fr_icmp_ge (tgt := 36) dX11_dark_28 (by decide) rfl (fun hc => ?_) (fun hc => ?_)
      · have h := h.1 hc
        refine fr_iconst (v := (-1)) (by decide) dX11_dark_36 rfl ?_
        exact fr_iret rfl dX11_dark_37 h.1 h.2
      · have h := h.2 hc
        refine fr_iload_n (i := 3) (q := 3) rfl dX11_dark_31 rfl ?_
        refine fr_iconst (v := (-1)) (by decide) dX11_dark_32 rfl ?_
        refine fr_icmp_ge (tgt := 38) dX11_dark_33 (by decide) rfl (fun hc => ?_) (fun hc => ?_)
        · have h := h.1 hc
          refine fr_iconst (v := 0) (by decide) dX11_dark_38 rfl ?_
          refine fr_istore (lv' := [(4, .int 0), (0, rf g o), (1, .int x1), (2, .int x2), (3, .int x3)]) dX11_dark_39 rfl (by decide) rfl ?_
          refine fr_iconst (v := 0) (by decide) dX11_dark_41 rfl ?_
          refine fr_istore (lv' := [(5, .int 0), (4, .int 0), (0, rf g o), (1, .int x1), (2, .int x2), (3, .int x3)]) dX11_dark_42 rfl (by decide) rfl ?_
          exact fr_sub [2, 3, 4, 5, 1, 0] rfl h
        · have h := h.2 hc
          refine fr_iconst (v := (-1)) (by decide) dX11_dark_36 rfl ?_
          exact fr_iret rfl dX11_dark_37 h.1 h.2
theorem wp_X11_dark_44 {g : GE} {Z : Zs} {I : Nat → Nat → Int32} {L : Nat → Nat → Int64} {r : Option Value} {M' : Mem} {o : Nat} {u1 : Int32} {u2 : Int32} {u3 : Int32} {u4 : Int32} {u5 : Int32} {o_now : Nat} (k_o : KM Z o 11) (r_o_now : Z.2.1 o 0 = some o_now) (k_o_now : KM Z o_now 8) (h : (∃ (v1 : Int32), Cl g 1 mu_X8_posesInAll [rf g o_now] (Z, I, L) (some (.int v1)) (Z, I, L) ∧ ((v1 ≤ u5 → ((¬ u3 = ((-1)) → (r = some (.int ((-1))) ∧ M' = (Z, I, L))) ∧ (u3 = ((-1)) → (r = some (.int u4) ∧ M' = (Z, I, L))))) ∧ (¬ v1 ≤ u5 → (∃ (v3 : Int32), Cl g 2 mu_X8_isPose [rf g o_now, .int u5] (Z, I, L) (some (.int v3)) (Z, I, L) ∧ ((v3 = 0 → (∀ y5 : Int32, y5 = (u5 + 1) → Lp_X11_dark_44 g 7 o u1 u2 u3 u4 y5 (Z, I, L) r M')) ∧ (¬ v3 = 0 → (∃ (v6 : Int32) (I7 : Nat → Nat → Int32) (L8 : Nat → Nat → Int64), Cl g 6 mu_X11_bumpsFrom [rf g o, .int u1, .int u5] (Z, I, L) (some (.int v6)) (Z, I7, L8) ∧ ((¬ v6 = u2 → (∀ y10 : Int32, y10 = (u5 + 1) → Lp_X11_dark_44 g 7 o u1 u2 u3 u4 y10 (Z, I7, L8) r M')) ∧ (v6 = u2 → ((¬ u4 = u3 → (∀ y11 : Int32, y11 = (u4 + 1) → (∀ y12 : Int32, y12 = (u5 + 1) → Lp_X11_dark_44 g 7 o u1 u2 u3 y11 y12 (Z, I7, L8) r M'))) ∧ (u4 = u3 → (r = some (.int u5) ∧ M' = (Z, I7, L8)))))))))))))) : Lp_X11_dark_44 g 7 o u1 u2 u3 u4 u5 (Z, I, L) r M' := by
  refine fr_iload (q := 5) rfl dX11_dark_44 rfl ?_
  refine fr_aload_n (i := 0) (q := 0) rfl dX11_dark_46 rfl ?_
  refine fr_getR dX11_dark_47 rfl fl_X11_51 k_o r_o_now ?_
  obtain ⟨v1, hc2, h⟩ := h
  refine fr_callV2 (ν := mu_X8_posesInAll) (st2 := [.int v1, .int u5]) (As := []) (st := [.int u5]) (v := (some (.int v1))) (M1 := (Z, I, L)) dX11_dark_50 rfl ml_X11_230 mo_X8_posesInAll mi_X8_posesInAll (ci := 8) rfl rfl k_o_now (Nat.le_of_ble_eq_true rfl) rfl rfl (Nat.le_of_ble_eq_true rfl) hc2 rfl ?_
  refine fr_icmp_ge (tgt := 97) dX11_dark_53 (by decide) rfl (fun hc => ?_) (fun hc => ?_)
  · have h := h.1 hc
    refine fr_iload_n (i := 3) (q := 3) rfl dX11_dark_97 rfl ?_
    refine fr_iconst (v := (-1)) (by decide) dX11_dark_98 rfl ?_
    refine fr_icmp_ne (tgt := 107) dX11_dark_99 (by decide) rfl (fun hc => ?_) (fun hc => ?_)
    · have h := h.1 hc
      refine fr_iconst (v := (-1)) (by decide) dX11_dark_107 rfl ?_
      exact fr_iret rfl dX11_dark_108 h.1 h.2
    · have h := h.2 hc
      refine fr_iload (q := 4) rfl dX11_dark_102 rfl ?_
      refine fr_goto (n := 108) dX11_dark_104 (by decide) ?_
      exact fr_iret rfl dX11_dark_108 h.1 h.2
  · have h := h.2 hc
    refine fr_aload_n (i := 0) (q := 0) rfl dX11_dark_56 rfl ?_
    refine fr_getR dX11_dark_57 rfl fl_X11_51 k_o r_o_now ?_
    refine fr_iload (q := 5) rfl dX11_dark_60 rfl ?_
    obtain ⟨v3, hc4, h⟩ := h
    refine fr_callV2 (ν := mu_X8_isPose) (st2 := [.int v3]) (As := [.int u5]) (st := []) (v := (some (.int v3))) (M1 := (Z, I, L)) dX11_dark_62 rfl ml_X11_102 mo_X8_isPose mi_X8_isPose (ci := 8) rfl rfl k_o_now (Nat.le_of_ble_eq_true rfl) rfl rfl (Nat.le_of_ble_eq_true rfl) hc4 rfl ?_
    refine fr_if_eq (tgt := 91) dX11_dark_65 (by decide) rfl (fun hc => ?_) (fun hc => ?_)
    · have h := h.1 hc
      obtain ⟨y5, hy5⟩ : ∃ y : Int32, y = u5 + 1 := ⟨_, rfl⟩
      have h := h y5 hy5
      refine fr_iinc (q := 5) (v := y5) (lv' := [(5, .int y5), (0, rf g o), (1, .int u1), (2, .int u2), (3, .int u3), (4, .int u4)]) rfl (by rw [hy5]; rfl) dX11_dark_91 rfl (by decide) rfl ?_
      refine fr_goto (n := 44) dX11_dark_94 (by decide) ?_
      exact fr_sub [1, 2, 3, 4, 5, 0] rfl h
    · have h := h.2 hc
      refine fr_aload_n (i := 0) (q := 0) rfl dX11_dark_68 rfl ?_
      refine fr_iload_n (i := 1) (q := 1) rfl dX11_dark_69 rfl ?_
      refine fr_iload (q := 5) rfl dX11_dark_70 rfl ?_
      obtain ⟨v6, I7, L8, hc9, h⟩ := h
      refine fr_callV2 (ν := mu_X11_bumpsFrom) (st2 := [.int v6]) (As := [.int u1, .int u5]) (st := []) (v := (some (.int v6))) (M1 := (Z, I7, L8)) dX11_dark_72 rfl ml_X11_256 mo_X11_bumpsFrom mi_X11_bumpsFrom (ci := 11) rfl rfl k_o (Nat.le_of_ble_eq_true rfl) rfl rfl (Nat.le_of_ble_eq_true rfl) hc9 rfl ?_
      refine fr_iload_n (i := 2) (q := 2) rfl dX11_dark_75 rfl ?_
      refine fr_icmp_ne (tgt := 91) dX11_dark_76 (by decide) rfl (fun hc => ?_) (fun hc => ?_)
      · have h := h.1 hc
        obtain ⟨y10, hy10⟩ : ∃ y : Int32, y = u5 + 1 := ⟨_, rfl⟩
        have h := h y10 hy10
        refine fr_iinc (q := 5) (v := y10) (lv' := [(5, .int y10), (0, rf g o), (1, .int u1), (2, .int u2), (3, .int u3), (4, .int u4)]) rfl (by rw [hy10]; rfl) dX11_dark_91 rfl (by decide) rfl ?_
        refine fr_goto (n := 44) dX11_dark_94 (by decide) ?_
        exact fr_sub [1, 2, 3, 4, 5, 0] rfl h
      · have h := h.2 hc
        refine fr_iload (q := 4) rfl dX11_dark_79 rfl ?_
        refine fr_iload_n (i := 3) (q := 3) rfl dX11_dark_81 rfl ?_
        refine fr_icmp_ne (tgt := 88) dX11_dark_82 (by decide) rfl (fun hc => ?_) (fun hc => ?_)
        · have h := h.1 hc
          obtain ⟨y11, hy11⟩ : ∃ y : Int32, y = u4 + 1 := ⟨_, rfl⟩
          have h := h y11 hy11
          refine fr_iinc (q := 4) (v := y11) (lv' := [(4, .int y11), (0, rf g o), (1, .int u1), (2, .int u2), (3, .int u3), (5, .int u5)]) rfl (by rw [hy11]; rfl) dX11_dark_88 rfl (by decide) rfl ?_
          obtain ⟨y12, hy12⟩ : ∃ y : Int32, y = u5 + 1 := ⟨_, rfl⟩
          have h := h y12 hy12
          refine fr_iinc (q := 5) (v := y12) (lv' := [(5, .int y12), (4, .int y11), (0, rf g o), (1, .int u1), (2, .int u2), (3, .int u3)]) rfl (by rw [hy12]; rfl) dX11_dark_91 rfl (by decide) rfl ?_
          refine fr_goto (n := 44) dX11_dark_94 (by decide) ?_
          exact fr_sub [2, 3, 4, 5, 1, 0] rfl h
        · have h := h.2 hc
          refine fr_iload (q := 5) rfl dX11_dark_85 rfl ?_
          exact fr_iret rfl dX11_dark_87 h.1 h.2
abbrev Lp_X11_bumpsFrom_8 (g : GE) (d : Nat) (o : Nat) (u1 : Int32) (u3 : Int32) (u4 : Int32) (u5 : Int32) (M : Mem) (r : Option Value) (M' : Mem) : Prop := Fr g d mu_X11_bumpsFrom 8 [(0, rf g o), (1, .int u1), (3, .int u3), (4, .int u4), (5, .int u5)] [] M r M'
theorem cp_X11_bumpsFrom {g : GE} {Z : Zs} {I : Nat → Nat → Int32} {L : Nat → Nat → Int64} {r : Option Value} {M' : Mem} {o : Nat} {x1 : Int32} {x2 : Int32} (k_o : KM Z o 11) (h : Lp_X11_bumpsFrom_8 g 6 o x1 x2 0 0 (Z, I, L) r M') : Cl g 6 mu_X11_bumpsFrom [rf g o, .int x1, .int x2] (Z, I, L) r M' := by
  refine cl_of (lv := [(0, rf g o), (1, .int x1), (2, .int x2)]) (by decide) (Nat.le_of_ble_eq_true rfl) rfl ?_
  refine fr_iload_n (i := 2) (q := 2) rfl dX11_bumpsFrom_0 rfl ?_
  refine fr_istore_n (i := 3) (lv' := [(3, .int x2), (0, rf g o), (1, .int x1), (2, .int x2)]) dX11_bumpsFrom_1 rfl (by decide) rfl ?_
  refine fr_iconst (v := 0) (by decide) dX11_bumpsFrom_2 rfl ?_
  refine fr_istore (lv' := [(4, .int 0), (3, .int x2), (0, rf g o), (1, .int x1), (2, .int x2)]) dX11_bumpsFrom_3 rfl (by decide) rfl ?_
  refine fr_iconst (v := 0) (by decide) dX11_bumpsFrom_5 rfl ?_
  refine fr_istore (lv' := [(5, .int 0), (4, .int 0), (3, .int x2), (0, rf g o), (1, .int x1), (2, .int x2)]) dX11_bumpsFrom_6 rfl (by decide) rfl ?_
  exact fr_sub [3, 4, 2, 1, 0] rfl h
theorem wp_X11_bumpsFrom_8 {g : GE} {Z : Zs} {I : Nat → Nat → Int32} {L : Nat → Nat → Int64} {r : Option Value} {M' : Mem} {o : Nat} {u1 : Int32} {u3 : Int32} {u4 : Int32} {u5 : Int32} {o_now : Nat} {o_now_taps : Nat} {o_legs : Nat} (k_o : KM Z o 11) (r_o_now : Z.2.1 o 0 = some o_now) (k_o_now : KM Z o_now 8) (r_o_now_taps : Z.2.1 o_now 5 = some o_now_taps) (k_o_now_taps : KM Z o_now_taps 2) (r_o_legs : Z.2.1 o 5 = some o_legs) (k_o_legs : KM Z o_legs 3) (h : (∃ (v1 : Int32), Cl g 1 mu_X2_size [rf g o_now_taps] (Z, I, L) (some (.int v1)) (Z, I, L) ∧ ((v1 ≤ u5 → (r = some (.int u4) ∧ M' = (Z, I, L))) ∧ (¬ v1 ≤ u5 → (∃ (v3 : Int32), Cl g 1 mu_X2_at [rf g o_now_taps, .int u5] (Z, I, L) (some (.int v3)) (Z, I, L) ∧ (∃ (v5 : Int32) (I6 : Nat → Nat → Int32) (L7 : Nat → Nat → Int64), Cl g 5 mu_X3_step [rf g o_legs, .int u1, .int u3, .int v3] (Z, I, L) (some (.int v5)) (Z, I6, L7) ∧ (∃ (v9 : Int32), Cl g 1 mu_X11_hasBumped [.int v5] (Z, I6, L7) (some (.int v9)) (Z, I6, L7) ∧ ((v9 = 0 → (∀ y11 : Int32, y11 = (u4 ||| 0) → (∃ (v12 : Int32), Cl g 1 mu_X11_poseOf [.int v5] (Z, I6, L7) (some (.int v12)) (Z, I6, L7) ∧ (∀ y14 : Int32, y14 = (u5 + 1) → Lp_X11_bumpsFrom_8 g 6 o u1 v12 y11 y14 (Z, I6, L7) r M')))) ∧ (¬ v9 = 0 → (∀ y15 : Int32, y15 = (u4 ||| (1 <<< (u5 &&& 31))) → (∃ (v16 : Int32), Cl g 1 mu_X11_poseOf [.int v5] (Z, I6, L7) (some (.int v16)) (Z, I6, L7) ∧ (∀ y18 : Int32, y18 = (u5 + 1) → Lp_X11_bumpsFrom_8 g 6 o u1 v16 y15 y18 (Z, I6, L7) r M')))))))))))) : Lp_X11_bumpsFrom_8 g 6 o u1 u3 u4 u5 (Z, I, L) r M' := by
  refine fr_iload (q := 4) rfl dX11_bumpsFrom_8 rfl ?_
  refine fr_aload_n (i := 0) (q := 0) rfl dX11_bumpsFrom_10 rfl ?_
  refine fr_getR dX11_bumpsFrom_11 rfl fl_X11_51 k_o r_o_now ?_
  refine fr_getR dX11_bumpsFrom_14 rfl fl_X11_164 k_o_now r_o_now_taps ?_
  obtain ⟨v1, hc2, h⟩ := h
  refine fr_callV2 (ν := mu_X2_size) (st2 := [.int v1, .int u5]) (As := []) (st := [.int u5]) (v := (some (.int v1))) (M1 := (Z, I, L)) dX11_bumpsFrom_17 rfl ml_X11_111 mo_X2_size mi_X2_size (ci := 2) rfl rfl k_o_now_taps (Nat.le_of_ble_eq_true rfl) rfl rfl (Nat.le_of_ble_eq_true rfl) hc2 rfl ?_
  refine fr_icmp_ge (tgt := 79) dX11_bumpsFrom_20 (by decide) rfl (fun hc => ?_) (fun hc => ?_)
  · have h := h.1 hc
    refine fr_iload (q := 3) rfl dX11_bumpsFrom_79 rfl ?_
    exact fr_iret rfl dX11_bumpsFrom_81 h.1 h.2
  · have h := h.2 hc
    refine fr_aload_n (i := 0) (q := 0) rfl dX11_bumpsFrom_23 rfl ?_
    refine fr_getR dX11_bumpsFrom_24 rfl fl_X11_63 k_o r_o_legs ?_
    refine fr_iload_n (i := 1) (q := 1) rfl dX11_bumpsFrom_27 rfl ?_
    refine fr_iload_n (i := 3) (q := 2) rfl dX11_bumpsFrom_28 rfl ?_
    refine fr_aload_n (i := 0) (q := 0) rfl dX11_bumpsFrom_29 rfl ?_
    refine fr_getR dX11_bumpsFrom_30 rfl fl_X11_51 k_o r_o_now ?_
    refine fr_getR dX11_bumpsFrom_33 rfl fl_X11_164 k_o_now r_o_now_taps ?_
    refine fr_iload (q := 4) rfl dX11_bumpsFrom_36 rfl ?_
    obtain ⟨v3, hc4, h⟩ := h
    refine fr_callV2 (ν := mu_X2_at) (st2 := [.int v3, .int u3, .int u1, rf g o_legs]) (As := [.int u5]) (st := [.int u3, .int u1, rf g o_legs]) (v := (some (.int v3))) (M1 := (Z, I, L)) dX11_bumpsFrom_38 rfl ml_X11_157 mo_X2_at mi_X2_at (ci := 2) rfl rfl k_o_now_taps (Nat.le_of_ble_eq_true rfl) rfl rfl (Nat.le_of_ble_eq_true rfl) hc4 rfl ?_
    obtain ⟨v5, I6, L7, hc8, h⟩ := h
    refine fr_callV2 (ν := mu_X3_step) (st2 := [.int v5]) (As := [.int u1, .int u3, .int v3]) (st := []) (v := (some (.int v5))) (M1 := (Z, I6, L7)) dX11_bumpsFrom_41 rfl ml_X11_147 mo_X3_step mi_X3_step (ci := 3) rfl rfl k_o_legs (Nat.le_of_ble_eq_true rfl) rfl rfl (Nat.le_of_ble_eq_true rfl) hc8 rfl ?_
    refine fr_istore (lv' := [(6, .int v5), (0, rf g o), (1, .int u1), (3, .int u3), (4, .int u4), (5, .int u5)]) dX11_bumpsFrom_44 rfl (by decide) rfl ?_
    refine fr_iload (q := 4) rfl dX11_bumpsFrom_46 rfl ?_
    refine fr_iload (q := 0) rfl dX11_bumpsFrom_48 rfl ?_
    obtain ⟨v9, hc10, h⟩ := h
    refine fr_callS2 (ν := mu_X11_hasBumped) (st2 := [.int v9, .int u4]) (As := [.int v5]) (st := [.int u4]) (v := (some (.int v9))) (M1 := (Z, I6, L7)) dX11_bumpsFrom_50 rfl ml_X11_167 mo_X11_hasBumped ms_X11_hasBumped (Nat.le_of_ble_eq_true rfl) rfl rfl (Nat.le_of_ble_eq_true rfl) hc10 rfl ?_
    refine fr_if_eq (tgt := 63) dX11_bumpsFrom_53 (by decide) rfl (fun hc => ?_) (fun hc => ?_)
    · have h := h.1 hc
      refine fr_iconst (v := 0) (by decide) dX11_bumpsFrom_63 rfl ?_
      refine fr_ior dX11_bumpsFrom_64 rfl ?_
      refine fr_topi (fun y11 hy11 => ?_)
      have h := h y11 hy11
      refine fr_istore (lv' := [(4, .int y11), (6, .int v5), (0, rf g o), (1, .int u1), (3, .int u3), (5, .int u5)]) dX11_bumpsFrom_65 rfl (by decide) rfl ?_
      refine fr_iload (q := 1) rfl dX11_bumpsFrom_67 rfl ?_
      obtain ⟨v12, hc13, h⟩ := h
      refine fr_callS2 (ν := mu_X11_poseOf) (st2 := [.int v12]) (As := [.int v5]) (st := []) (v := (some (.int v12))) (M1 := (Z, I6, L7)) dX11_bumpsFrom_69 rfl ml_X11_161 mo_X11_poseOf ms_X11_poseOf (Nat.le_of_ble_eq_true rfl) rfl rfl (Nat.le_of_ble_eq_true rfl) hc13 rfl ?_
      refine fr_istore_n (i := 3) (lv' := [(3, .int v12), (4, .int y11), (6, .int v5), (0, rf g o), (1, .int u1), (5, .int u5)]) dX11_bumpsFrom_72 rfl (by decide) rfl ?_
      obtain ⟨y14, hy14⟩ : ∃ y : Int32, y = u5 + 1 := ⟨_, rfl⟩
      have h := h y14 hy14
      refine fr_iinc (q := 5) (v := y14) (lv' := [(5, .int y14), (3, .int v12), (4, .int y11), (6, .int v5), (0, rf g o), (1, .int u1)]) rfl (by rw [hy14]; rfl) dX11_bumpsFrom_73 rfl (by decide) rfl ?_
      refine fr_goto (n := 8) dX11_bumpsFrom_76 (by decide) ?_
      exact fr_sub [4, 5, 1, 2, 0] rfl h
    · have h := h.2 hc
      refine fr_iconst (v := 1) (by decide) dX11_bumpsFrom_56 rfl ?_
      refine fr_iload (q := 5) rfl dX11_bumpsFrom_57 rfl ?_
      refine fr_ishl dX11_bumpsFrom_59 rfl ?_
      refine fr_goto (n := 64) dX11_bumpsFrom_60 (by decide) ?_
      refine fr_ior dX11_bumpsFrom_64 rfl ?_
      refine fr_topi (fun y15 hy15 => ?_)
      have h := h y15 hy15
      refine fr_istore (lv' := [(4, .int y15), (6, .int v5), (0, rf g o), (1, .int u1), (3, .int u3), (5, .int u5)]) dX11_bumpsFrom_65 rfl (by decide) rfl ?_
      refine fr_iload (q := 1) rfl dX11_bumpsFrom_67 rfl ?_
      obtain ⟨v16, hc17, h⟩ := h
      refine fr_callS2 (ν := mu_X11_poseOf) (st2 := [.int v16]) (As := [.int v5]) (st := []) (v := (some (.int v16))) (M1 := (Z, I6, L7)) dX11_bumpsFrom_69 rfl ml_X11_161 mo_X11_poseOf ms_X11_poseOf (Nat.le_of_ble_eq_true rfl) rfl rfl (Nat.le_of_ble_eq_true rfl) hc17 rfl ?_
      refine fr_istore_n (i := 3) (lv' := [(3, .int v16), (4, .int y15), (6, .int v5), (0, rf g o), (1, .int u1), (5, .int u5)]) dX11_bumpsFrom_72 rfl (by decide) rfl ?_
      obtain ⟨y18, hy18⟩ : ∃ y : Int32, y = u5 + 1 := ⟨_, rfl⟩
      have h := h y18 hy18
      refine fr_iinc (q := 5) (v := y18) (lv' := [(5, .int y18), (3, .int v16), (4, .int y15), (6, .int v5), (0, rf g o), (1, .int u1)]) rfl (by rw [hy18]; rfl) dX11_bumpsFrom_73 rfl (by decide) rfl ?_
      refine fr_goto (n := 8) dX11_bumpsFrom_76 (by decide) ?_
      exact fr_sub [4, 5, 1, 2, 0] rfl h
theorem cp_X11_rider {g : GE} {Z : Zs} {I : Nat → Nat → Int32} {L : Nat → Nat → Int64} {r : Option Value} {M' : Mem} {o : Nat} {x1 : Int32} {o_now : Nat} {o_now_sights : Nat} (k_o : KM Z o 11) (r_o_now : Z.2.1 o 0 = some o_now) (k_o_now : KM Z o_now 8) (r_o_now_sights : Z.2.1 o_now 11 = some o_now_sights) (k_o_now_sights : KM Z o_now_sights 2) (h : (∃ (v1 : Int32) (I2 : Nat → Nat → Int32) (L3 : Nat → Nat → Int64), Cl g 2 mu_X11_addToSide [rf g o_now_sights, .int x1] (Z, I, L) (some (.int v1)) (Z, I2, L3) ∧ (r = some (.int v1) ∧ M' = (Z, I2, L3)))) : Cl g 3 mu_X11_rider [rf g o, .int x1] (Z, I, L) r M' := by
  refine cl_of (lv := [(0, rf g o), (1, .int x1)]) (by decide) (Nat.le_of_ble_eq_true rfl) rfl ?_
  refine fr_aload_n (i := 0) (q := 0) rfl dX11_rider_0 rfl ?_
  refine fr_getR dX11_rider_1 rfl fl_X11_51 k_o r_o_now ?_
  refine fr_getR dX11_rider_4 rfl fl_X11_259 k_o_now r_o_now_sights ?_
  refine fr_iload_n (i := 1) (q := 1) rfl dX11_rider_7 rfl ?_
  obtain ⟨v1, I2, L3, hc4, h⟩ := h
  refine fr_callS2 (ν := mu_X11_addToSide) (st2 := [.int v1]) (As := [rf g o_now_sights, .int x1]) (st := []) (v := (some (.int v1))) (M1 := (Z, I2, L3)) dX11_rider_8 rfl ml_X11_262 mo_X11_addToSide ms_X11_addToSide (Nat.le_of_ble_eq_true rfl) rfl rfl (Nat.le_of_ble_eq_true rfl) hc4 rfl ?_
  exact fr_iret rfl dX11_rider_11 h.1 h.2
theorem cp_X11_carrier {g : GE} {Z : Zs} {I : Nat → Nat → Int32} {L : Nat → Nat → Int64} {r : Option Value} {M' : Mem} {o : Nat} {x1 : Int32} {o_now : Nat} {o_now_paces : Nat} (k_o : KM Z o 11) (r_o_now : Z.2.1 o 0 = some o_now) (k_o_now : KM Z o_now 8) (r_o_now_paces : Z.2.1 o_now 12 = some o_now_paces) (k_o_now_paces : KM Z o_now_paces 2) (h : (∃ (v1 : Int32) (I2 : Nat → Nat → Int32) (L3 : Nat → Nat → Int64), Cl g 2 mu_X11_addToSide [rf g o_now_paces, .int x1] (Z, I, L) (some (.int v1)) (Z, I2, L3) ∧ (r = some (.int v1) ∧ M' = (Z, I2, L3)))) : Cl g 3 mu_X11_carrier [rf g o, .int x1] (Z, I, L) r M' := by
  refine cl_of (lv := [(0, rf g o), (1, .int x1)]) (by decide) (Nat.le_of_ble_eq_true rfl) rfl ?_
  refine fr_aload_n (i := 0) (q := 0) rfl dX11_carrier_0 rfl ?_
  refine fr_getR dX11_carrier_1 rfl fl_X11_51 k_o r_o_now ?_
  refine fr_getR dX11_carrier_4 rfl fl_X11_266 k_o_now r_o_now_paces ?_
  refine fr_iload_n (i := 1) (q := 1) rfl dX11_carrier_7 rfl ?_
  obtain ⟨v1, I2, L3, hc4, h⟩ := h
  refine fr_callS2 (ν := mu_X11_addToSide) (st2 := [.int v1]) (As := [rf g o_now_paces, .int x1]) (st := []) (v := (some (.int v1))) (M1 := (Z, I2, L3)) dX11_carrier_8 rfl ml_X11_262 mo_X11_addToSide ms_X11_addToSide (Nat.le_of_ble_eq_true rfl) rfl rfl (Nat.le_of_ble_eq_true rfl) hc4 rfl ?_
  exact fr_iret rfl dX11_carrier_11 h.1 h.2
theorem cp_X11_addToSide {g : GE} {Z : Zs} {I : Nat → Nat → Int32} {L : Nat → Nat → Int64} {r : Option Value} {M' : Mem} {a0 : Nat} {x1 : Int32} (k_a0 : KM Z a0 2) (h : ((x1 < 0 → (r = some (.int ((-1))) ∧ M' = (Z, I, L))) ∧ (¬ x1 < 0 → ((9 < x1 → (r = some (.int ((-1))) ∧ M' = (Z, I, L))) ∧ (¬ 9 < x1 → (∃ (v1 : Int32), Cl g 1 mu_X2_size [rf g a0] (Z, I, L) (some (.int v1)) (Z, I, L) ∧ ((v1 < 6 → (∃ (I3 : Nat → Nat → Int32) (L4 : Nat → Nat → Int64), Cl g 1 mu_X2_add [rf g a0, .int x1] (Z, I, L) none (Z, I3, L4) ∧ (∃ (v6 : Int32), Cl g 1 mu_X2_size [rf g a0] (Z, I3, L4) (some (.int v6)) (Z, I3, L4) ∧ (r = some (.int v6) ∧ M' = (Z, I3, L4))))) ∧ (¬ v1 < 6 → (r = some (.int ((-1))) ∧ M' = (Z, I, L)))))))))) : Cl g 2 mu_X11_addToSide [rf g a0, .int x1] (Z, I, L) r M' := by
  refine cl_of (lv := [(0, rf g a0), (1, .int x1)]) (by decide) (Nat.le_of_ble_eq_true rfl) rfl ?_
  refine fr_iload_n (i := 1) (q := 1) rfl dX11_addToSide_0 rfl ?_
  refine fr_if_lt (tgt := 19) dX11_addToSide_1 (by decide) rfl (fun hc => ?_) (fun hc => ?_)
  · have h := h.1 hc
    refine fr_iconst (v := (-1)) (by decide) dX11_addToSide_19 rfl ?_
    exact fr_iret rfl dX11_addToSide_20 h.1 h.2
  · have h := h.2 hc
    refine fr_iload_n (i := 1) (q := 1) rfl dX11_addToSide_4 rfl ?_
    refine fr_bipush (v := 9) (by decide) dX11_addToSide_5 rfl ?_
    refine fr_icmp_gt (tgt := 19) dX11_addToSide_7 (by decide) rfl (fun hc => ?_) (fun hc => ?_)
    · have h := h.1 hc
      refine fr_iconst (v := (-1)) (by decide) dX11_addToSide_19 rfl ?_
      exact fr_iret rfl dX11_addToSide_20 h.1 h.2
    · have h := h.2 hc
      refine fr_aload_n (i := 0) (q := 0) rfl dX11_addToSide_10 rfl ?_
      obtain ⟨v1, hc2, h⟩ := h
      refine fr_callV2 (ν := mu_X2_size) (st2 := [.int v1]) (As := []) (st := []) (v := (some (.int v1))) (M1 := (Z, I, L)) dX11_addToSide_11 rfl ml_X11_111 mo_X2_size mi_X2_size (ci := 2) rfl rfl k_a0 (Nat.le_of_ble_eq_true rfl) rfl rfl (Nat.le_of_ble_eq_true rfl) hc2 rfl ?_
      refine fr_bipush (v := 6) (by decide) dX11_addToSide_14 rfl ?_
      refine fr_icmp_lt (tgt := 21) dX11_addToSide_16 (by decide) rfl (fun hc => ?_) (fun hc => ?_)
      · have h := h.1 hc
        refine fr_aload_n (i := 0) (q := 0) rfl dX11_addToSide_21 rfl ?_
        refine fr_iload_n (i := 1) (q := 1) rfl dX11_addToSide_22 rfl ?_
        obtain ⟨I3, L4, hc5, h⟩ := h
        refine fr_callV2 (ν := mu_X2_add) (st2 := []) (As := [.int x1]) (st := []) (v := none) (M1 := (Z, I3, L4)) dX11_addToSide_23 rfl ml_X11_115 mo_X2_add mi_X2_add (ci := 2) rfl rfl k_a0 (Nat.le_of_ble_eq_true rfl) rfl rfl (Nat.le_of_ble_eq_true rfl) hc5 rfl ?_
        refine fr_aload_n (i := 0) (q := 0) rfl dX11_addToSide_26 rfl ?_
        obtain ⟨v6, hc7, h⟩ := h
        refine fr_callV2 (ν := mu_X2_size) (st2 := [.int v6]) (As := []) (st := []) (v := (some (.int v6))) (M1 := (Z, I3, L4)) dX11_addToSide_27 rfl ml_X11_111 mo_X2_size mi_X2_size (ci := 2) rfl rfl k_a0 (Nat.le_of_ble_eq_true rfl) rfl rfl (Nat.le_of_ble_eq_true rfl) hc7 rfl ?_
        exact fr_iret rfl dX11_addToSide_30 h.1 h.2
      · have h := h.2 hc
        refine fr_iconst (v := (-1)) (by decide) dX11_addToSide_19 rfl ?_
        exact fr_iret rfl dX11_addToSide_20 h.1 h.2
theorem cp_X11_wed {g : GE} {Z : Zs} {I : Nat → Nat → Int32} {L : Nat → Nat → Int64} {r : Option Value} {M' : Mem} {o : Nat} {x1 : Int32} {x2 : Int32} {x3 : Int32} {o_now : Nat} {o_now_sights : Nat} {o_wedding : Nat} (k_o : KM Z o 11) (r_o_now : Z.2.1 o 0 = some o_now) (k_o_now : KM Z o_now 8) (r_o_now_sights : Z.2.1 o_now 11 = some o_now_sights) (k_o_now_sights : KM Z o_now_sights 2) (r_o_wedding : Z.2.1 o 6 = some o_wedding) (k_o_wedding : KM Z o_wedding 10) (h : (∃ (v1 : Option Nat), Cl g 1 mu_X8_scriptOf [rf g o_now, .int x1] (Z, I, L) (some (rv g v1)) (Z, I, L) ∧ ((v1 = none → (r = some (.int ((-1))) ∧ M' = (Z, I, L))) ∧ (∀ b3 : Nat, v1 = some b3 → KM Z b3 6 ∧ ((x2 < 0 → (r = some (.int ((-1))) ∧ M' = (Z, I, L))) ∧ (¬ x2 < 0 → ((1 < x2 → (r = some (.int ((-1))) ∧ M' = (Z, I, L))) ∧ (¬ 1 < x2 → ((x3 < 0 → (r = some (.int ((-1))) ∧ M' = (Z, I, L))) ∧ (¬ x3 < 0 → (∃ (v4 : Int32), Cl g 1 mu_X2_size [rf g o_now_sights] (Z, I, L) (some (.int v4)) (Z, I, L) ∧ ((x3 < v4 → (∃ (v6 : Int32) (I7 : Nat → Nat → Int32) (L8 : Nat → Nat → Int64), Cl g 6 mu_X10_carrierOf [rf g o_wedding, .int x3, .int x2, rf g b3] (Z, I, L) (some (.int v6)) (Z, I7, L8) ∧ (r = some (.int v6) ∧ M' = (Z, I7, L8)))) ∧ (¬ x3 < v4 → (r = some (.int ((-1))) ∧ M' = (Z, I, L))))))))))))))) : Cl g 7 mu_X11_wed [rf g o, .int x1, .int x2, .int x3] (Z, I, L) r M' := by
  refine cl_of (lv := [(0, rf g o), (1, .int x1), (2, .int x2), (3, .int x3)]) (by decide) (Nat.le_of_ble_eq_true rfl) rfl ?_
  refine fr_aload_n (i := 0) (q := 0) rfl dX11_wed_0 rfl ?_
  refine fr_getR dX11_wed_1 rfl fl_X11_51 k_o r_o_now ?_
  refine fr_iload_n (i := 1) (q := 1) rfl dX11_wed_4 rfl ?_
  obtain ⟨v1, hc2, h⟩ := h
  refine fr_callV2 (ν := mu_X8_scriptOf) (st2 := [rv g v1]) (As := [.int x1]) (st := []) (v := (some (rv g v1))) (M1 := (Z, I, L)) dX11_wed_5 rfl ml_X11_269 mo_X8_scriptOf mi_X8_scriptOf (ci := 8) rfl rfl k_o_now (Nat.le_of_ble_eq_true rfl) rfl rfl (Nat.le_of_ble_eq_true rfl) hc2 rfl ?_
  refine fr_case (fun hq => ?_) (fun b3 hq => ?_)
  · have h := h.1 hq
    refine fr_astoreN (lv' := [(4, .null), (0, rf g o), (1, .int x1), (2, .int x2), (3, .int x3)]) dX11_wed_8 rfl (by decide) rfl ?_
    refine fr_aloadN (q := 0) rfl dX11_wed_10 rfl ?_
    refine fr_nullN (tgt := 42) dX11_wed_12 (by decide) ?_
    refine fr_iconst (v := (-1)) (by decide) dX11_wed_42 rfl ?_
    exact fr_iret rfl dX11_wed_43 h.1 h.2
  · obtain ⟨k_b3, h⟩ := h.2 b3 hq
    refine fr_astore (lv' := [(4, rf g b3), (0, rf g o), (1, .int x1), (2, .int x2), (3, .int x3)]) dX11_wed_8 rfl (by decide) rfl ?_
    refine fr_aload (q := 0) rfl dX11_wed_10 rfl ?_
    refine fr_nullR dX11_wed_12 rfl ?_
    refine fr_iload_n (i := 2) (q := 3) rfl dX11_wed_15 rfl ?_
    refine fr_if_lt (tgt := 42) dX11_wed_16 (by decide) rfl (fun hc => ?_) (fun hc => ?_)
    · have h := h.1 hc
      refine fr_iconst (v := (-1)) (by decide) dX11_wed_42 rfl ?_
      exact fr_iret rfl dX11_wed_43 h.1 h.2
    · have h := h.2 hc
      refine fr_iload_n (i := 2) (q := 3) rfl dX11_wed_19 rfl ?_
      refine fr_iconst (v := 1) (by decide) dX11_wed_20 rfl ?_
      refine fr_icmp_gt (tgt := 42) dX11_wed_21 (by decide) rfl (fun hc => ?_) (fun hc => ?_)
      · have h := h.1 hc
        refine fr_iconst (v := (-1)) (by decide) dX11_wed_42 rfl ?_
        exact fr_iret rfl dX11_wed_43 h.1 h.2
      · have h := h.2 hc
        refine fr_iload_n (i := 3) (q := 4) rfl dX11_wed_24 rfl ?_
        refine fr_if_lt (tgt := 42) dX11_wed_25 (by decide) rfl (fun hc => ?_) (fun hc => ?_)
        · have h := h.1 hc
          refine fr_iconst (v := (-1)) (by decide) dX11_wed_42 rfl ?_
          exact fr_iret rfl dX11_wed_43 h.1 h.2
        · have h := h.2 hc
          refine fr_iload_n (i := 3) (q := 4) rfl dX11_wed_28 rfl ?_
          refine fr_aload_n (i := 0) (q := 1) rfl dX11_wed_29 rfl ?_
          refine fr_getR dX11_wed_30 rfl fl_X11_51 k_o r_o_now ?_
          refine fr_getR dX11_wed_33 rfl fl_X11_259 k_o_now r_o_now_sights ?_
          obtain ⟨v4, hc5, h⟩ := h
          refine fr_callV2 (ν := mu_X2_size) (st2 := [.int v4, .int x3]) (As := []) (st := [.int x3]) (v := (some (.int v4))) (M1 := (Z, I, L)) dX11_wed_36 rfl ml_X11_111 mo_X2_size mi_X2_size (ci := 2) rfl rfl k_o_now_sights (Nat.le_of_ble_eq_true rfl) rfl rfl (Nat.le_of_ble_eq_true rfl) hc5 rfl ?_
          refine fr_icmp_lt (tgt := 44) dX11_wed_39 (by decide) rfl (fun hc => ?_) (fun hc => ?_)
          · have h := h.1 hc
            refine fr_aload_n (i := 0) (q := 1) rfl dX11_wed_44 rfl ?_
            refine fr_getR dX11_wed_45 rfl fl_X11_70 k_o r_o_wedding ?_
            refine fr_iload_n (i := 3) (q := 4) rfl dX11_wed_48 rfl ?_
            refine fr_iload_n (i := 2) (q := 3) rfl dX11_wed_49 rfl ?_
            refine fr_aload (q := 0) rfl dX11_wed_50 rfl ?_
            obtain ⟨v6, I7, L8, hc9, h⟩ := h
            refine fr_callV2 (ν := mu_X10_carrierOf) (st2 := [.int v6]) (As := [.int x3, .int x2, rf g b3]) (st := []) (v := (some (.int v6))) (M1 := (Z, I7, L8)) dX11_wed_52 rfl ml_X11_273 mo_X10_carrierOf mi_X10_carrierOf (ci := 10) rfl rfl k_o_wedding (Nat.le_of_ble_eq_true rfl) rfl rfl (Nat.le_of_ble_eq_true rfl) hc9 rfl ?_
            exact fr_iret rfl dX11_wed_55 h.1 h.2
          · have h := h.2 hc
            refine fr_iconst (v := (-1)) (by decide) dX11_wed_42 rfl ?_
            exact fr_iret rfl dX11_wed_43 h.1 h.2
theorem cp_X11_crowd {g : GE} {Z : Zs} {I : Nat → Nat → Int32} {L : Nat → Nat → Int64} {r : Option Value} {M' : Mem} {o : Nat} {x1 : Int32} {o_now : Nat} {o_throng : Nat} (k_o : KM Z o 11) (r_o_now : Z.2.1 o 0 = some o_now) (k_o_now : KM Z o_now 8) (r_o_throng : Z.2.1 o 7 = some o_throng) (k_o_throng : KM Z o_throng 1) (h : (∃ (v1 : Int32), Cl g 1 mu_X8_isCell [rf g o_now, .int x1] (Z, I, L) (some (.int v1)) (Z, I, L) ∧ ((v1 = 0 → (r = some (.int ((-1))) ∧ M' = (Z, I, L))) ∧ (¬ v1 = 0 → (∃ (v3 : Int32) (I4 : Nat → Nat → Int32) (L5 : Nat → Nat → Int64), Cl g 7 mu_X1_rounds [rf g o_throng, .int x1] (Z, I, L) (some (.int v3)) (Z, I4, L5) ∧ (r = some (.int v3) ∧ M' = (Z, I4, L5))))))) : Cl g 8 mu_X11_crowd [rf g o, .int x1] (Z, I, L) r M' := by
  refine cl_of (lv := [(0, rf g o), (1, .int x1)]) (by decide) (Nat.le_of_ble_eq_true rfl) rfl ?_
  refine fr_aload_n (i := 0) (q := 0) rfl dX11_crowd_0 rfl ?_
  refine fr_getR dX11_crowd_1 rfl fl_X11_51 k_o r_o_now ?_
  refine fr_iload_n (i := 1) (q := 1) rfl dX11_crowd_4 rfl ?_
  obtain ⟨v1, hc2, h⟩ := h
  refine fr_callV2 (ν := mu_X8_isCell) (st2 := [.int v1]) (As := [.int x1]) (st := []) (v := (some (.int v1))) (M1 := (Z, I, L)) dX11_crowd_5 rfl ml_X11_83 mo_X8_isCell mi_X8_isCell (ci := 8) rfl rfl k_o_now (Nat.le_of_ble_eq_true rfl) rfl rfl (Nat.le_of_ble_eq_true rfl) hc2 rfl ?_
  refine fr_if_eq (tgt := 22) dX11_crowd_8 (by decide) rfl (fun hc => ?_) (fun hc => ?_)
  · have h := h.1 hc
    refine fr_iconst (v := (-1)) (by decide) dX11_crowd_22 rfl ?_
    exact fr_iret rfl dX11_crowd_23 h.1 h.2
  · have h := h.2 hc
    refine fr_aload_n (i := 0) (q := 0) rfl dX11_crowd_11 rfl ?_
    refine fr_getR dX11_crowd_12 rfl fl_X11_79 k_o r_o_throng ?_
    refine fr_iload_n (i := 1) (q := 1) rfl dX11_crowd_15 rfl ?_
    obtain ⟨v3, I4, L5, hc6, h⟩ := h
    refine fr_callV2 (ν := mu_X1_rounds) (st2 := [.int v3]) (As := [.int x1]) (st := []) (v := (some (.int v3))) (M1 := (Z, I4, L5)) dX11_crowd_16 rfl ml_X11_277 mo_X1_rounds mi_X1_rounds (ci := 1) rfl rfl k_o_throng (Nat.le_of_ble_eq_true rfl) rfl rfl (Nat.le_of_ble_eq_true rfl) hc6 rfl ?_
    refine fr_goto (n := 23) dX11_crowd_19 (by decide) ?_
    exact fr_iret rfl dX11_crowd_23 h.1 h.2
theorem cp_X11_isChase {g : GE} {Z : Zs} {I : Nat → Nat → Int32} {L : Nat → Nat → Int64} {r : Option Value} {M' : Mem} {o : Nat} {x1 : Int32} {x2 : Int32} {x3 : Int32} {x4 : Int32} {o_now : Nat} (k_o : KM Z o 11) (r_o_now : Z.2.1 o 0 = some o_now) (k_o_now : KM Z o_now 8) (h : (∃ (v1 : Int32), Cl g 1 mu_X8_isText [rf g o_now, .int x1] (Z, I, L) (some (.int v1)) (Z, I, L) ∧ ((v1 = 0 → (r = some (.int 0) ∧ M' = (Z, I, L))) ∧ (¬ v1 = 0 → (∃ (v3 : Int32), Cl g 2 mu_X8_isPose [rf g o_now, .int x2] (Z, I, L) (some (.int v3)) (Z, I, L) ∧ ((v3 = 0 → (r = some (.int 0) ∧ M' = (Z, I, L))) ∧ (¬ v3 = 0 → (∃ (v5 : Int32), Cl g 1 mu_X8_isText [rf g o_now, .int x3] (Z, I, L) (some (.int v5)) (Z, I, L) ∧ ((v5 = 0 → (r = some (.int 0) ∧ M' = (Z, I, L))) ∧ (¬ v5 = 0 → (∃ (v7 : Int32), Cl g 2 mu_X8_isPose [rf g o_now, .int x4] (Z, I, L) (some (.int v7)) (Z, I, L) ∧ ((v7 = 0 → (r = some (.int 0) ∧ M' = (Z, I, L))) ∧ (¬ v7 = 0 → (r = some (.int 1) ∧ M' = (Z, I, L))))))))))))))) : Cl g 3 mu_X11_isChase [rf g o, .int x1, .int x2, .int x3, .int x4] (Z, I, L) r M' := by
  refine cl_of (lv := [(0, rf g o), (1, .int x1), (2, .int x2), (3, .int x3), (4, .int x4)]) (by decide) (Nat.le_of_ble_eq_true rfl) rfl ?_
  refine fr_aload_n (i := 0) (q := 0) rfl dX11_isChase_0 rfl ?_
  refine fr_getR dX11_isChase_1 rfl fl_X11_51 k_o r_o_now ?_
  refine fr_iload_n (i := 1) (q := 1) rfl dX11_isChase_4 rfl ?_
  obtain ⟨v1, hc2, h⟩ := h
  refine fr_callV2 (ν := mu_X8_isText) (st2 := [.int v1]) (As := [.int x1]) (st := []) (v := (some (.int v1))) (M1 := (Z, I, L)) dX11_isChase_5 rfl ml_X11_105 mo_X8_isText mi_X8_isText (ci := 8) rfl rfl k_o_now (Nat.le_of_ble_eq_true rfl) rfl rfl (Nat.le_of_ble_eq_true rfl) hc2 rfl ?_
  refine fr_if_eq (tgt := 49) dX11_isChase_8 (by decide) rfl (fun hc => ?_) (fun hc => ?_)
  · have h := h.1 hc
    refine fr_iconst (v := 0) (by decide) dX11_isChase_49 rfl ?_
    exact fr_zret (by decide) rfl dX11_isChase_50 h.1 h.2
  · have h := h.2 hc
    refine fr_aload_n (i := 0) (q := 0) rfl dX11_isChase_11 rfl ?_
    refine fr_getR dX11_isChase_12 rfl fl_X11_51 k_o r_o_now ?_
    refine fr_iload_n (i := 2) (q := 2) rfl dX11_isChase_15 rfl ?_
    obtain ⟨v3, hc4, h⟩ := h
    refine fr_callV2 (ν := mu_X8_isPose) (st2 := [.int v3]) (As := [.int x2]) (st := []) (v := (some (.int v3))) (M1 := (Z, I, L)) dX11_isChase_16 rfl ml_X11_102 mo_X8_isPose mi_X8_isPose (ci := 8) rfl rfl k_o_now (Nat.le_of_ble_eq_true rfl) rfl rfl (Nat.le_of_ble_eq_true rfl) hc4 rfl ?_
    refine fr_if_eq (tgt := 49) dX11_isChase_19 (by decide) rfl (fun hc => ?_) (fun hc => ?_)
    · have h := h.1 hc
      refine fr_iconst (v := 0) (by decide) dX11_isChase_49 rfl ?_
      exact fr_zret (by decide) rfl dX11_isChase_50 h.1 h.2
    · have h := h.2 hc
      refine fr_aload_n (i := 0) (q := 0) rfl dX11_isChase_22 rfl ?_
      refine fr_getR dX11_isChase_23 rfl fl_X11_51 k_o r_o_now ?_
      refine fr_iload_n (i := 3) (q := 3) rfl dX11_isChase_26 rfl ?_
      obtain ⟨v5, hc6, h⟩ := h
      refine fr_callV2 (ν := mu_X8_isText) (st2 := [.int v5]) (As := [.int x3]) (st := []) (v := (some (.int v5))) (M1 := (Z, I, L)) dX11_isChase_27 rfl ml_X11_105 mo_X8_isText mi_X8_isText (ci := 8) rfl rfl k_o_now (Nat.le_of_ble_eq_true rfl) rfl rfl (Nat.le_of_ble_eq_true rfl) hc6 rfl ?_
      refine fr_if_eq (tgt := 49) dX11_isChase_30 (by decide) rfl (fun hc => ?_) (fun hc => ?_)
      · have h := h.1 hc
        refine fr_iconst (v := 0) (by decide) dX11_isChase_49 rfl ?_
        exact fr_zret (by decide) rfl dX11_isChase_50 h.1 h.2
      · have h := h.2 hc
        refine fr_aload_n (i := 0) (q := 0) rfl dX11_isChase_33 rfl ?_
        refine fr_getR dX11_isChase_34 rfl fl_X11_51 k_o r_o_now ?_
        refine fr_iload (q := 4) rfl dX11_isChase_37 rfl ?_
        obtain ⟨v7, hc8, h⟩ := h
        refine fr_callV2 (ν := mu_X8_isPose) (st2 := [.int v7]) (As := [.int x4]) (st := []) (v := (some (.int v7))) (M1 := (Z, I, L)) dX11_isChase_39 rfl ml_X11_102 mo_X8_isPose mi_X8_isPose (ci := 8) rfl rfl k_o_now (Nat.le_of_ble_eq_true rfl) rfl rfl (Nat.le_of_ble_eq_true rfl) hc8 rfl ?_
        refine fr_if_eq (tgt := 49) dX11_isChase_42 (by decide) rfl (fun hc => ?_) (fun hc => ?_)
        · have h := h.1 hc
          refine fr_iconst (v := 0) (by decide) dX11_isChase_49 rfl ?_
          exact fr_zret (by decide) rfl dX11_isChase_50 h.1 h.2
        · have h := h.2 hc
          refine fr_iconst (v := 1) (by decide) dX11_isChase_45 rfl ?_
          refine fr_goto (n := 50) dX11_isChase_46 (by decide) ?_
          exact fr_zret (by decide) rfl dX11_isChase_50 h.1 h.2
theorem cp_X11_about {g : GE} {Z : Zs} {I : Nat → Nat → Int32} {L : Nat → Nat → Int64} {r : Option Value} {M' : Mem} {o : Nat} {x1 : Int32} {o_now : Nat} {o_now_kinds : Nat} {o_now_poses : Nat} {o_now_taps : Nat} {o_now_stepPairs : Nat} {o_now_seenPoses : Nat} {o_now_sights : Nat} {o_now_paces : Nat} {o_tape : Nat} (k_o : KM Z o 11) (r_o_now : Z.2.1 o 0 = some o_now) (k_o_now : KM Z o_now 8) (r_o_now_kinds : Z.2.1 o_now 2 = some o_now_kinds) (k_o_now_kinds : KM Z o_now_kinds 2) (r_o_now_poses : Z.2.1 o_now 3 = some o_now_poses) (k_o_now_poses : KM Z o_now_poses 2) (r_o_now_taps : Z.2.1 o_now 5 = some o_now_taps) (k_o_now_taps : KM Z o_now_taps 2) (r_o_now_stepPairs : Z.2.1 o_now 6 = some o_now_stepPairs) (k_o_now_stepPairs : KM Z o_now_stepPairs 2) (r_o_now_seenPoses : Z.2.1 o_now 8 = some o_now_seenPoses) (k_o_now_seenPoses : KM Z o_now_seenPoses 2) (r_o_now_sights : Z.2.1 o_now 11 = some o_now_sights) (k_o_now_sights : KM Z o_now_sights 2) (r_o_now_paces : Z.2.1 o_now 12 = some o_now_paces) (k_o_now_paces : KM Z o_now_paces 2) (r_o_tape : Z.2.1 o 2 = some o_tape) (k_o_tape : KM Z o_tape 2) (h : ((x1 < 0 ∨ 9 < x1 → ((x1 < 10 → (r = some (.int ((-2))) ∧ M' = (Z, I, L))) ∧ (¬ x1 < 10 → (∃ (v1 : Int32), Cl g 1 mu_X8_isCell [rf g o_now, .int (x1 - 10)] (Z, I, L) (some (.int v1)) (Z, I, L) ∧ ((v1 = 0 → (r = some (.int ((-2))) ∧ M' = (Z, I, L))) ∧ (¬ v1 = 0 → (∃ (v3 : Int32), Cl g 1 mu_X2_at [rf g o_now_kinds, .int (x1 - 10)] (Z, I, L) (some (.int v3)) (Z, I, L) ∧ (r = some (.int v3) ∧ M' = (Z, I, L))))))))) ∧ (x1 = 0 → (r = some (.int (I o_now 0)) ∧ M' = (Z, I, L))) ∧ (x1 = 1 → (r = some (.int (I o_now 1)) ∧ M' = (Z, I, L))) ∧ (x1 = 2 → (∃ (v5 : Int32), Cl g 1 mu_X2_size [rf g o_now_poses] (Z, I, L) (some (.int v5)) (Z, I, L) ∧ (r = some (.int v5) ∧ M' = (Z, I, L)))) ∧ (x1 = 3 → (r = some (.int (I o_now 14)) ∧ M' = (Z, I, L))) ∧ (x1 = 4 → (∃ (v7 : Int32), Cl g 1 mu_X2_size [rf g o_now_taps] (Z, I, L) (some (.int v7)) (Z, I, L) ∧ (r = some (.int v7) ∧ M' = (Z, I, L)))) ∧ (x1 = 5 → (∃ (v9 : Int32), Cl g 1 mu_X2_size [rf g o_now_stepPairs] (Z, I, L) (some (.int v9)) (Z, I, L) ∧ (r = some (.int v9) ∧ M' = (Z, I, L)))) ∧ (x1 = 6 → (∃ (v11 : Int32), Cl g 1 mu_X2_size [rf g o_now_seenPoses] (Z, I, L) (some (.int v11)) (Z, I, L) ∧ (r = some (.int v11) ∧ M' = (Z, I, L)))) ∧ (x1 = 7 → (∃ (v13 : Int32), Cl g 1 mu_X2_size [rf g o_now_sights] (Z, I, L) (some (.int v13)) (Z, I, L) ∧ (r = some (.int v13) ∧ M' = (Z, I, L)))) ∧ (x1 = 8 → (∃ (v15 : Int32), Cl g 1 mu_X2_size [rf g o_now_paces] (Z, I, L) (some (.int v15)) (Z, I, L) ∧ (r = some (.int v15) ∧ M' = (Z, I, L)))) ∧ (x1 = 9 → (∃ (v17 : Int32), Cl g 1 mu_X2_size [rf g o_tape] (Z, I, L) (some (.int v17)) (Z, I, L) ∧ (r = some (.int v17) ∧ M' = (Z, I, L)))))) : Cl g 2 mu_X11_about [rf g o, .int x1] (Z, I, L) r M' := by
  refine cl_of (lv := [(0, rf g o), (1, .int x1)]) (by decide) (Nat.le_of_ble_eq_true rfl) rfl ?_
  refine fr_iload_n (i := 1) (q := 1) rfl dX11_about_0 rfl ?_
  rcases sw_cases (x := x1) (lo := 0) (hi := 9) (k := 9) (by decide) (by decide) with hs | ⟨kk, hkk, hs⟩
  · have h := h.1 hs
    refine fr_tabD (n := 154) dX11_about_1 hs (by decide) (by decide) (by decide) ?_
    refine fr_iload_n (i := 1) (q := 1) rfl dX11_about_154 rfl ?_
    refine fr_bipush (v := 10) (by decide) dX11_about_155 rfl ?_
    refine fr_icmp_lt (tgt := 191) dX11_about_157 (by decide) rfl (fun hc => ?_) (fun hc => ?_)
    · have h := h.1 hc
      refine fr_bipush (v := (-2)) (by decide) dX11_about_191 rfl ?_
      exact fr_iret rfl dX11_about_193 h.1 h.2
    · have h := h.2 hc
      refine fr_aload_n (i := 0) (q := 0) rfl dX11_about_160 rfl ?_
      refine fr_getR dX11_about_161 rfl fl_X11_51 k_o r_o_now ?_
      refine fr_iload_n (i := 1) (q := 1) rfl dX11_about_164 rfl ?_
      refine fr_bipush (v := 10) (by decide) dX11_about_165 rfl ?_
      refine fr_isub dX11_about_167 rfl ?_
      obtain ⟨v1, hc2, h⟩ := h
      refine fr_callV2 (ν := mu_X8_isCell) (st2 := [.int v1]) (As := [.int (x1 - 10)]) (st := []) (v := (some (.int v1))) (M1 := (Z, I, L)) dX11_about_168 rfl ml_X11_83 mo_X8_isCell mi_X8_isCell (ci := 8) rfl rfl k_o_now (Nat.le_of_ble_eq_true rfl) rfl rfl (Nat.le_of_ble_eq_true rfl) hc2 rfl ?_
      refine fr_if_eq (tgt := 191) dX11_about_171 (by decide) rfl (fun hc => ?_) (fun hc => ?_)
      · have h := h.1 hc
        refine fr_bipush (v := (-2)) (by decide) dX11_about_191 rfl ?_
        exact fr_iret rfl dX11_about_193 h.1 h.2
      · have h := h.2 hc
        refine fr_aload_n (i := 0) (q := 0) rfl dX11_about_174 rfl ?_
        refine fr_getR dX11_about_175 rfl fl_X11_51 k_o r_o_now ?_
        refine fr_getR dX11_about_178 rfl fl_X11_90 k_o_now r_o_now_kinds ?_
        refine fr_iload_n (i := 1) (q := 1) rfl dX11_about_181 rfl ?_
        refine fr_bipush (v := 10) (by decide) dX11_about_182 rfl ?_
        refine fr_isub dX11_about_184 rfl ?_
        obtain ⟨v3, hc4, h⟩ := h
        refine fr_callV2 (ν := mu_X2_at) (st2 := [.int v3]) (As := [.int (x1 - 10)]) (st := []) (v := (some (.int v3))) (M1 := (Z, I, L)) dX11_about_185 rfl ml_X11_157 mo_X2_at mi_X2_at (ci := 2) rfl rfl k_o_now_kinds (Nat.le_of_ble_eq_true rfl) rfl rfl (Nat.le_of_ble_eq_true rfl) hc4 rfl ?_
        refine fr_goto (n := 193) dX11_about_188 (by decide) ?_
        exact fr_iret rfl dX11_about_193 h.1 h.2
  · have h := h.2
    match kk, hkk, hs with
    | 0, _, hs =>
      have hs : x1 = 0 := hs.trans (by decide)
      have h := h.1 hs
      refine fr_tabK (n := 56) (y := 0) hs dX11_about_1 (by decide) (by decide) rfl (by decide) ?_
      refine fr_aload_n (i := 0) (q := 0) rfl dX11_about_56 rfl ?_
      refine fr_getR dX11_about_57 rfl fl_X11_51 k_o r_o_now ?_
      refine fr_getI dX11_about_60 rfl fl_X11_306 k_o_now ?_
      exact fr_iret rfl dX11_about_63 h.1 h.2
    | 1, _, hs =>
      have hs : x1 = 1 := hs.trans (by decide)
      have h := h.2.1 hs
      refine fr_tabK (n := 64) (y := 1) hs dX11_about_1 (by decide) (by decide) rfl (by decide) ?_
      refine fr_aload_n (i := 0) (q := 0) rfl dX11_about_64 rfl ?_
      refine fr_getR dX11_about_65 rfl fl_X11_51 k_o r_o_now ?_
      refine fr_getI dX11_about_68 rfl fl_X11_309 k_o_now ?_
      exact fr_iret rfl dX11_about_71 h.1 h.2
    | 2, _, hs =>
      have hs : x1 = 2 := hs.trans (by decide)
      have h := h.2.2.1 hs
      refine fr_tabK (n := 72) (y := 2) hs dX11_about_1 (by decide) (by decide) rfl (by decide) ?_
      refine fr_aload_n (i := 0) (q := 0) rfl dX11_about_72 rfl ?_
      refine fr_getR dX11_about_73 rfl fl_X11_51 k_o r_o_now ?_
      refine fr_getR dX11_about_76 rfl fl_X11_108 k_o_now r_o_now_poses ?_
      obtain ⟨v5, hc6, h⟩ := h
      refine fr_callV2 (ν := mu_X2_size) (st2 := [.int v5]) (As := []) (st := []) (v := (some (.int v5))) (M1 := (Z, I, L)) dX11_about_79 rfl ml_X11_111 mo_X2_size mi_X2_size (ci := 2) rfl rfl k_o_now_poses (Nat.le_of_ble_eq_true rfl) rfl rfl (Nat.le_of_ble_eq_true rfl) hc6 rfl ?_
      exact fr_iret rfl dX11_about_82 h.1 h.2
    | 3, _, hs =>
      have hs : x1 = 3 := hs.trans (by decide)
      have h := h.2.2.2.1 hs
      refine fr_tabK (n := 83) (y := 3) hs dX11_about_1 (by decide) (by decide) rfl (by decide) ?_
      refine fr_aload_n (i := 0) (q := 0) rfl dX11_about_83 rfl ?_
      refine fr_getR dX11_about_84 rfl fl_X11_51 k_o r_o_now ?_
      refine fr_getI dX11_about_87 rfl fl_X11_127 k_o_now ?_
      exact fr_iret rfl dX11_about_90 h.1 h.2
    | 4, _, hs =>
      have hs : x1 = 4 := hs.trans (by decide)
      have h := h.2.2.2.2.1 hs
      refine fr_tabK (n := 91) (y := 4) hs dX11_about_1 (by decide) (by decide) rfl (by decide) ?_
      refine fr_aload_n (i := 0) (q := 0) rfl dX11_about_91 rfl ?_
      refine fr_getR dX11_about_92 rfl fl_X11_51 k_o r_o_now ?_
      refine fr_getR dX11_about_95 rfl fl_X11_164 k_o_now r_o_now_taps ?_
      obtain ⟨v7, hc8, h⟩ := h
      refine fr_callV2 (ν := mu_X2_size) (st2 := [.int v7]) (As := []) (st := []) (v := (some (.int v7))) (M1 := (Z, I, L)) dX11_about_98 rfl ml_X11_111 mo_X2_size mi_X2_size (ci := 2) rfl rfl k_o_now_taps (Nat.le_of_ble_eq_true rfl) rfl rfl (Nat.le_of_ble_eq_true rfl) hc8 rfl ?_
      exact fr_iret rfl dX11_about_101 h.1 h.2
    | 5, _, hs =>
      have hs : x1 = 5 := hs.trans (by decide)
      have h := h.2.2.2.2.2.1 hs
      refine fr_tabK (n := 102) (y := 5) hs dX11_about_1 (by decide) (by decide) rfl (by decide) ?_
      refine fr_aload_n (i := 0) (q := 0) rfl dX11_about_102 rfl ?_
      refine fr_getR dX11_about_103 rfl fl_X11_51 k_o r_o_now ?_
      refine fr_getR dX11_about_106 rfl fl_X11_170 k_o_now r_o_now_stepPairs ?_
      obtain ⟨v9, hc10, h⟩ := h
      refine fr_callV2 (ν := mu_X2_size) (st2 := [.int v9]) (As := []) (st := []) (v := (some (.int v9))) (M1 := (Z, I, L)) dX11_about_109 rfl ml_X11_111 mo_X2_size mi_X2_size (ci := 2) rfl rfl k_o_now_stepPairs (Nat.le_of_ble_eq_true rfl) rfl rfl (Nat.le_of_ble_eq_true rfl) hc10 rfl ?_
      exact fr_iret rfl dX11_about_112 h.1 h.2
    | 6, _, hs =>
      have hs : x1 = 6 := hs.trans (by decide)
      have h := h.2.2.2.2.2.2.1 hs
      refine fr_tabK (n := 113) (y := 6) hs dX11_about_1 (by decide) (by decide) rfl (by decide) ?_
      refine fr_aload_n (i := 0) (q := 0) rfl dX11_about_113 rfl ?_
      refine fr_getR dX11_about_114 rfl fl_X11_51 k_o r_o_now ?_
      refine fr_getR dX11_about_117 rfl fl_X11_244 k_o_now r_o_now_seenPoses ?_
      obtain ⟨v11, hc12, h⟩ := h
      refine fr_callV2 (ν := mu_X2_size) (st2 := [.int v11]) (As := []) (st := []) (v := (some (.int v11))) (M1 := (Z, I, L)) dX11_about_120 rfl ml_X11_111 mo_X2_size mi_X2_size (ci := 2) rfl rfl k_o_now_seenPoses (Nat.le_of_ble_eq_true rfl) rfl rfl (Nat.le_of_ble_eq_true rfl) hc12 rfl ?_
      exact fr_iret rfl dX11_about_123 h.1 h.2
    | 7, _, hs =>
      have hs : x1 = 7 := hs.trans (by decide)
      have h := h.2.2.2.2.2.2.2.1 hs
      refine fr_tabK (n := 124) (y := 7) hs dX11_about_1 (by decide) (by decide) rfl (by decide) ?_
      refine fr_aload_n (i := 0) (q := 0) rfl dX11_about_124 rfl ?_
      refine fr_getR dX11_about_125 rfl fl_X11_51 k_o r_o_now ?_
      refine fr_getR dX11_about_128 rfl fl_X11_259 k_o_now r_o_now_sights ?_
      obtain ⟨v13, hc14, h⟩ := h
      refine fr_callV2 (ν := mu_X2_size) (st2 := [.int v13]) (As := []) (st := []) (v := (some (.int v13))) (M1 := (Z, I, L)) dX11_about_131 rfl ml_X11_111 mo_X2_size mi_X2_size (ci := 2) rfl rfl k_o_now_sights (Nat.le_of_ble_eq_true rfl) rfl rfl (Nat.le_of_ble_eq_true rfl) hc14 rfl ?_
      exact fr_iret rfl dX11_about_134 h.1 h.2
    | 8, _, hs =>
      have hs : x1 = 8 := hs.trans (by decide)
      have h := h.2.2.2.2.2.2.2.2.1 hs
      refine fr_tabK (n := 135) (y := 8) hs dX11_about_1 (by decide) (by decide) rfl (by decide) ?_
      refine fr_aload_n (i := 0) (q := 0) rfl dX11_about_135 rfl ?_
      refine fr_getR dX11_about_136 rfl fl_X11_51 k_o r_o_now ?_
      refine fr_getR dX11_about_139 rfl fl_X11_266 k_o_now r_o_now_paces ?_
      obtain ⟨v15, hc16, h⟩ := h
      refine fr_callV2 (ν := mu_X2_size) (st2 := [.int v15]) (As := []) (st := []) (v := (some (.int v15))) (M1 := (Z, I, L)) dX11_about_142 rfl ml_X11_111 mo_X2_size mi_X2_size (ci := 2) rfl rfl k_o_now_paces (Nat.le_of_ble_eq_true rfl) rfl rfl (Nat.le_of_ble_eq_true rfl) hc16 rfl ?_
      exact fr_iret rfl dX11_about_145 h.1 h.2
    | 9, _, hs =>
      have hs : x1 = 9 := hs.trans (by decide)
      have h := h.2.2.2.2.2.2.2.2.2 hs
      refine fr_tabK (n := 146) (y := 9) hs dX11_about_1 (by decide) (by decide) rfl (by decide) ?_
      refine fr_aload_n (i := 0) (q := 0) rfl dX11_about_146 rfl ?_
      refine fr_getR dX11_about_147 rfl fl_X11_14 k_o r_o_tape ?_
      obtain ⟨v17, hc18, h⟩ := h
      refine fr_callV2 (ν := mu_X2_size) (st2 := [.int v17]) (As := []) (st := []) (v := (some (.int v17))) (M1 := (Z, I, L)) dX11_about_150 rfl ml_X11_111 mo_X2_size mi_X2_size (ci := 2) rfl rfl k_o_tape (Nat.le_of_ble_eq_true rfl) rfl rfl (Nat.le_of_ble_eq_true rfl) hc18 rfl ?_
      exact fr_iret rfl dX11_about_153 h.1 h.2
    | kk + 10, hkk, _ => exact absurd hkk (by omega)
