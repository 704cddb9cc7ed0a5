theorem cp_X8_posesInAll {g : GE} {Z : Zs} {I : Nat → Nat → Int32} {L : Nat → Nat → Int64} {r : Option Value} {M' : Mem} {o : Nat} (k_o : KM Z o 8) (h : (r = some (.int ((4 * (I o 0)) * (I o 1))) ∧ M' = (Z, I, L))) : Cl g 1 mu_X8_posesInAll [rf g o] (Z, I, L) r M' := by
  refine cl_of (lv := [(0, rf g o)]) (by decide) (Nat.le_of_ble_eq_true rfl) rfl ?_
  refine fr_iconst (v := 4) (by decide) dX8_posesInAll_0 rfl ?_
  refine fr_aload_n (i := 0) (q := 0) rfl dX8_posesInAll_1 rfl ?_
  refine fr_getI dX8_posesInAll_2 rfl fl_X8_62 k_o ?_
  refine fr_imul dX8_posesInAll_5 rfl ?_
  refine fr_aload_n (i := 0) (q := 0) rfl dX8_posesInAll_6 rfl ?_
  refine fr_getI dX8_posesInAll_7 rfl fl_X8_66 k_o ?_
  refine fr_imul dX8_posesInAll_10 rfl ?_
  exact fr_iret rfl dX8_posesInAll_11 h.1 h.2
theorem cp_X8_isCell {g : GE} {Z : Zs} {I : Nat → Nat → Int32} {L : Nat → Nat → Int64} {r : Option Value} {M' : Mem} {o : Nat} {x1 : Int32} (k_o : KM Z o 8) (h : ((x1 < 0 → (r = some (.int 0) ∧ M' = (Z, I, L))) ∧ (¬ x1 < 0 → ((((I o 0) * (I o 1)) ≤ x1 → (r = some (.int 0) ∧ M' = (Z, I, L))) ∧ (¬ ((I o 0) * (I o 1)) ≤ x1 → (r = some (.int 1) ∧ M' = (Z, I, L))))))) : Cl g 1 mu_X8_isCell [rf g o, .int x1] (Z, I, L) r M' := by
  refine cl_of (lv := [(0, rf g o), (1, .int x1)]) (by decide) (Nat.le_of_ble_eq_true rfl) rfl ?_
  refine fr_iload_n (i := 1) (q := 1) rfl dX8_isCell_0 rfl ?_
  refine fr_if_lt (tgt := 21) dX8_isCell_1 (by decide) rfl (fun hc => ?_) (fun hc => ?_)
  · have h := h.1 hc
    refine fr_iconst (v := 0) (by decide) dX8_isCell_21 rfl ?_
    exact fr_zret (by decide) rfl dX8_isCell_22 h.1 h.2
  · have h := h.2 hc
    refine fr_iload_n (i := 1) (q := 1) rfl dX8_isCell_4 rfl ?_
    refine fr_aload_n (i := 0) (q := 0) rfl dX8_isCell_5 rfl ?_
    refine fr_getI dX8_isCell_6 rfl fl_X8_62 k_o ?_
    refine fr_aload_n (i := 0) (q := 0) rfl dX8_isCell_9 rfl ?_
    refine fr_getI dX8_isCell_10 rfl fl_X8_66 k_o ?_
    refine fr_imul dX8_isCell_13 rfl ?_
    refine fr_icmp_ge (tgt := 21) dX8_isCell_14 (by decide) rfl (fun hc => ?_) (fun hc => ?_)
    · have h := h.1 hc
      refine fr_iconst (v := 0) (by decide) dX8_isCell_21 rfl ?_
      exact fr_zret (by decide) rfl dX8_isCell_22 h.1 h.2
    · have h := h.2 hc
      refine fr_iconst (v := 1) (by decide) dX8_isCell_17 rfl ?_
      refine fr_goto (n := 22) dX8_isCell_18 (by decide) ?_
      exact fr_zret (by decide) rfl dX8_isCell_22 h.1 h.2
theorem cp_X8_isPose {g : GE} {Z : Zs} {I : Nat → Nat → Int32} {L : Nat → Nat → Int64} {r : Option Value} {M' : Mem} {o : Nat} {x1 : Int32} {o_kinds : Nat} (k_o : KM Z o 8) (r_o_kinds : Z.2.1 o 2 = some o_kinds) (k_o_kinds : KM Z o_kinds 2) (h : ((x1 < 0 → (r = some (.int 0) ∧ M' = (Z, I, L))) ∧ (¬ x1 < 0 → (∃ (v1 : Int32), Cl g 1 mu_X8_posesInAll [rf g o] (Z, I, L) (some (.int v1)) (Z, I, L) ∧ ((v1 ≤ x1 → (r = some (.int 0) ∧ M' = (Z, I, L))) ∧ (¬ v1 ≤ x1 → (∃ (v3 : Int32), Cl g 1 mu_X2_at [rf g o_kinds, .int (x1 / 4)] (Z, I, L) (some (.int v3)) (Z, I, L) ∧ ((v3 = 1 → (r = some (.int 0) ∧ M' = (Z, I, L))) ∧ (¬ v3 = 1 → (r = some (.int 1) ∧ M' = (Z, I, L))))))))))) : Cl g 2 mu_X8_isPose [rf g o, .int x1] (Z, I, L) r M' := by
  refine cl_of (lv := [(0, rf g o), (1, .int x1)]) (by decide) (Nat.le_of_ble_eq_true rfl) rfl ?_
  refine fr_iload_n (i := 1) (q := 1) rfl dX8_isPose_0 rfl ?_
  refine fr_if_lt (tgt := 30) dX8_isPose_1 (by decide) rfl (fun hc => ?_) (fun hc => ?_)
  · have h := h.1 hc
    refine fr_iconst (v := 0) (by decide) dX8_isPose_30 rfl ?_
    exact fr_zret (by decide) rfl dX8_isPose_31 h.1 h.2
  · have h := h.2 hc
    refine fr_iload_n (i := 1) (q := 1) rfl dX8_isPose_4 rfl ?_
    refine fr_aload_n (i := 0) (q := 0) rfl dX8_isPose_5 rfl ?_
    obtain ⟨v1, hc2, h⟩ := h
    refine fr_callV2 (ν := mu_X8_posesInAll) (st2 := [.int v1, .int x1]) (As := []) (st := [.int x1]) (v := (some (.int v1))) (M1 := (Z, I, L)) dX8_isPose_6 rfl ml_X8_82 mo_X8_posesInAll mi_X8_posesInAll (ci := 8) rfl rfl k_o (Nat.le_of_ble_eq_true rfl) rfl rfl (Nat.le_of_ble_eq_true rfl) hc2 rfl ?_
    refine fr_icmp_ge (tgt := 30) dX8_isPose_9 (by decide) rfl (fun hc => ?_) (fun hc => ?_)
    · have h := h.1 hc
      refine fr_iconst (v := 0) (by decide) dX8_isPose_30 rfl ?_
      exact fr_zret (by decide) rfl dX8_isPose_31 h.1 h.2
    · have h := h.2 hc
      refine fr_aload_n (i := 0) (q := 0) rfl dX8_isPose_12 rfl ?_
      refine fr_getR dX8_isPose_13 rfl fl_X8_69 k_o r_o_kinds ?_
      refine fr_iload_n (i := 1) (q := 1) rfl dX8_isPose_16 rfl ?_
      refine fr_iconst (v := 4) (by decide) dX8_isPose_17 rfl ?_
      refine fr_idiv (by decide) dX8_isPose_18 rfl ?_
      obtain ⟨v3, hc4, h⟩ := h
      refine fr_callV2 (ν := mu_X2_at) (st2 := [.int v3]) (As := [.int (x1 / 4)]) (st := []) (v := (some (.int v3))) (M1 := (Z, I, L)) dX8_isPose_19 rfl ml_X8_86 mo_X2_at mi_X2_at (ci := 2) rfl rfl k_o_kinds (Nat.le_of_ble_eq_true rfl) rfl rfl (Nat.le_of_ble_eq_true rfl) hc4 rfl ?_
      refine fr_iconst (v := 1) (by decide) dX8_isPose_22 rfl ?_
      refine fr_icmp_eq (tgt := 30) dX8_isPose_23 (by decide) rfl (fun hc => ?_) (fun hc => ?_)
      · have h := h.1 hc
        refine fr_iconst (v := 0) (by decide) dX8_isPose_30 rfl ?_
        exact fr_zret (by decide) rfl dX8_isPose_31 h.1 h.2
      · have h := h.2 hc
        refine fr_iconst (v := 1) (by decide) dX8_isPose_26 rfl ?_
        refine fr_goto (n := 31) dX8_isPose_27 (by decide) ?_
        exact fr_zret (by decide) rfl dX8_isPose_31 h.1 h.2
theorem cp_X8_isText {g : GE} {Z : Zs} {I : Nat → Nat → Int32} {L : Nat → Nat → Int64} {r : Option Value} {M' : Mem} {o : Nat} {x1 : Int32} (k_o : KM Z o 8) (h : ((x1 < 0 → (r = some (.int 0) ∧ M' = (Z, I, L))) ∧ (¬ x1 < 0 → (((I o 14) ≤ x1 → (r = some (.int 0) ∧ M' = (Z, I, L))) ∧ (¬ (I o 14) ≤ x1 → (r = some (.int 1) ∧ M' = (Z, I, L))))))) : Cl g 1 mu_X8_isText [rf g o, .int x1] (Z, I, L) r M' := by
  refine cl_of (lv := [(0, rf g o), (1, .int x1)]) (by decide) (Nat.le_of_ble_eq_true rfl) rfl ?_
  refine fr_iload_n (i := 1) (q := 1) rfl dX8_isText_0 rfl ?_
  refine fr_if_lt (tgt := 16) dX8_isText_1 (by decide) rfl (fun hc => ?_) (fun hc => ?_)
  · have h := h.1 hc
    refine fr_iconst (v := 0) (by decide) dX8_isText_16 rfl ?_
    exact fr_zret (by decide) rfl dX8_isText_17 h.1 h.2
  · have h := h.2 hc
    refine fr_iload_n (i := 1) (q := 1) rfl dX8_isText_4 rfl ?_
    refine fr_aload_n (i := 0) (q := 0) rfl dX8_isText_5 rfl ?_
    refine fr_getI dX8_isText_6 rfl fl_X8_79 k_o ?_
    refine fr_icmp_ge (tgt := 16) dX8_isText_9 (by decide) rfl (fun hc => ?_) (fun hc => ?_)
    · have h := h.1 hc
      refine fr_iconst (v := 0) (by decide) dX8_isText_16 rfl ?_
      exact fr_zret (by decide) rfl dX8_isText_17 h.1 h.2
    · have h := h.2 hc
      refine fr_iconst (v := 1) (by decide) dX8_isText_12 rfl ?_
      refine fr_goto (n := 17) dX8_isText_13 (by decide) ?_
      exact fr_zret (by decide) rfl dX8_isText_17 h.1 h.2
theorem cp_X8_isPair {g : GE} {Z : Zs} {I : Nat → Nat → Int32} {L : Nat → Nat → Int64} {r : Option Value} {M' : Mem} {o : Nat} {x1 : Int32} {o_poses : Nat} (k_o : KM Z o 8) (r_o_poses : Z.2.1 o 3 = some o_poses) (k_o_poses : KM Z o_poses 2) (h : ((x1 < 0 → (r = some (.int 0) ∧ M' = (Z, I, L))) ∧ (¬ x1 < 0 → (∃ (v1 : Int32), Cl g 1 mu_X2_size [rf g o_poses] (Z, I, L) (some (.int v1)) (Z, I, L) ∧ ((v1 ≤ x1 → (r = some (.int 0) ∧ M' = (Z, I, L))) ∧ (¬ v1 ≤ x1 → (r = some (.int 1) ∧ M' = (Z, I, L)))))))) : Cl g 2 mu_X8_isPair [rf g o, .int x1] (Z, I, L) r M' := by
  refine cl_of (lv := [(0, rf g o), (1, .int x1)]) (by decide) (Nat.le_of_ble_eq_true rfl) rfl ?_
  refine fr_iload_n (i := 1) (q := 1) rfl dX8_isPair_0 rfl ?_
  refine fr_if_lt (tgt := 19) dX8_isPair_1 (by decide) rfl (fun hc => ?_) (fun hc => ?_)
  · have h := h.1 hc
    refine fr_iconst (v := 0) (by decide) dX8_isPair_19 rfl ?_
    exact fr_zret (by decide) rfl dX8_isPair_20 h.1 h.2
  · have h := h.2 hc
    refine fr_iload_n (i := 1) (q := 1) rfl dX8_isPair_4 rfl ?_
    refine fr_aload_n (i := 0) (q := 0) rfl dX8_isPair_5 rfl ?_
    refine fr_getR dX8_isPair_6 rfl fl_X8_14 k_o r_o_poses ?_
    obtain ⟨v1, hc2, h⟩ := h
    refine fr_callV2 (ν := mu_X2_size) (st2 := [.int v1, .int x1]) (As := []) (st := [.int x1]) (v := (some (.int v1))) (M1 := (Z, I, L)) dX8_isPair_9 rfl ml_X8_90 mo_X2_size mi_X2_size (ci := 2) rfl rfl k_o_poses (Nat.le_of_ble_eq_true rfl) rfl rfl (Nat.le_of_ble_eq_true rfl) hc2 rfl ?_
    refine fr_icmp_ge (tgt := 19) dX8_isPair_12 (by decide) rfl (fun hc => ?_) (fun hc => ?_)
    · have h := h.1 hc
      refine fr_iconst (v := 0) (by decide) dX8_isPair_19 rfl ?_
      exact fr_zret (by decide) rfl dX8_isPair_20 h.1 h.2
    · have h := h.2 hc
      refine fr_iconst (v := 1) (by decide) dX8_isPair_15 rfl ?_
      refine fr_goto (n := 20) dX8_isPair_16 (by decide) ?_
      exact fr_zret (by decide) rfl dX8_isPair_20 h.1 h.2
abbrev Lp_X8_hasPairIn_2 (g : GE) (d : Nat) (o : Nat) (u1 : Int32) (u2 : Int32) (M : Mem) (r : Option Value) (M' : Mem) : Prop := Fr g d mu_X8_hasPairIn 2 [(0, rf g o), (1, .int u1), (2, .int u2)] [] M r M'
theorem cp_X8_hasPairIn {g : GE} {Z : Zs} {I : Nat → Nat → Int32} {L : Nat → Nat → Int64} {r : Option Value} {M' : Mem} {o : Nat} {x1 : Int32} (k_o : KM Z o 8) (h : Lp_X8_hasPairIn_2 g 2 o x1 0 (Z, I, L) r M') : Cl g 2 mu_X8_hasPairIn [rf g o, .int x1] (Z, I, L) r M' := by
  refine cl_of (lv := [(0, rf g o), (1, .int x1)]) (by decide) (Nat.le_of_ble_eq_true rfl) rfl ?_
  refine fr_iconst (v := 0) (by decide) dX8_hasPairIn_0 rfl ?_
  refine fr_istore_n (i := 2) (lv' := [(2, .int 0), (0, rf g o), (1, .int x1)]) dX8_hasPairIn_1 rfl (by decide) rfl ?_
  exact fr_sub [1, 2, 0] rfl h
theorem wp_X8_hasPairIn_2 {g : GE} {Z : Zs} {I : Nat → Nat → Int32} {L : Nat → Nat → Int64} {r : Option Value} {M' : Mem} {o : Nat} {u1 : Int32} {u2 : Int32} {o_poses : Nat} (k_o : KM Z o 8) (r_o_poses : Z.2.1 o 3 = some o_poses) (k_o_poses : KM Z o_poses 2) (h : (∃ (v1 : Int32), Cl g 1 mu_X2_size [rf g o_poses] (Z, I, L) (some (.int v1)) (Z, I, L) ∧ ((v1 ≤ u2 → (r = some (.int 0) ∧ M' = (Z, I, L))) ∧ (¬ v1 ≤ u2 → (∃ (v3 : Int32), Cl g 1 mu_X2_at [rf g o_poses, .int u2] (Z, I, L) (some (.int v3)) (Z, I, L) ∧ ((¬ (v3 / 4) = u1 → (∀ y5 : Int32, y5 = (u2 + 1) → Lp_X8_hasPairIn_2 g 2 o u1 y5 (Z, I, L) r M')) ∧ ((v3 / 4) = u1 → (r = some (.int 1) ∧ M' = (Z, I, L))))))))) : Lp_X8_hasPairIn_2 g 2 o u1 u2 (Z, I, L) r M' := by
  refine fr_iload_n (i := 2) (q := 2) rfl dX8_hasPairIn_2 rfl ?_
  refine fr_aload_n (i := 0) (q := 0) rfl dX8_hasPairIn_3 rfl ?_
  refine fr_getR dX8_hasPairIn_4 rfl fl_X8_14 k_o r_o_poses ?_
  obtain ⟨v1, hc2, h⟩ := h
  refine fr_callV2 (ν := mu_X2_size) (st2 := [.int v1, .int u2]) (As := []) (st := [.int u2]) (v := (some (.int v1))) (M1 := (Z, I, L)) dX8_hasPairIn_7 rfl ml_X8_90 mo_X2_size mi_X2_size (ci := 2) rfl rfl k_o_poses (Nat.le_of_ble_eq_true rfl) rfl rfl (Nat.le_of_ble_eq_true rfl) hc2 rfl ?_
  refine fr_icmp_ge (tgt := 35) dX8_hasPairIn_10 (by decide) rfl (fun hc => ?_) (fun hc => ?_)
  · have h := h.1 hc
    refine fr_iconst (v := 0) (by decide) dX8_hasPairIn_35 rfl ?_
    exact fr_zret (by decide) rfl dX8_hasPairIn_36 h.1 h.2
  · have h := h.2 hc
    refine fr_aload_n (i := 0) (q := 0) rfl dX8_hasPairIn_13 rfl ?_
    refine fr_getR dX8_hasPairIn_14 rfl fl_X8_14 k_o r_o_poses ?_
    refine fr_iload_n (i := 2) (q := 2) rfl dX8_hasPairIn_17 rfl ?_
    obtain ⟨v3, hc4, h⟩ := h
    refine fr_callV2 (ν := mu_X2_at) (st2 := [.int v3]) (As := [.int u2]) (st := []) (v := (some (.int v3))) (M1 := (Z, I, L)) dX8_hasPairIn_18 rfl ml_X8_86 mo_X2_at mi_X2_at (ci := 2) rfl rfl k_o_poses (Nat.le_of_ble_eq_true rfl) rfl rfl (Nat.le_of_ble_eq_true rfl) hc4 rfl ?_
    refine fr_iconst (v := 4) (by decide) dX8_hasPairIn_21 rfl ?_
    refine fr_idiv (by decide) dX8_hasPairIn_22 rfl ?_
    refine fr_iload_n (i := 1) (q := 1) rfl dX8_hasPairIn_23 rfl ?_
    refine fr_icmp_ne (tgt := 29) dX8_hasPairIn_24 (by decide) rfl (fun hc => ?_) (fun hc => ?_)
    · have h := h.1 hc
      obtain ⟨y5, hy5⟩ : ∃ y : Int32, y = u2 + 1 := ⟨_, rfl⟩
      have h := h y5 hy5
      refine fr_iinc (q := 2) (v := y5) (lv' := [(2, .int y5), (0, rf g o), (1, .int u1)]) rfl (by rw [hy5]; rfl) dX8_hasPairIn_29 rfl (by decide) rfl ?_
      refine fr_goto (n := 2) dX8_hasPairIn_32 (by decide) ?_
      exact fr_sub [1, 2, 0] rfl h
    · have h := h.2 hc
      refine fr_iconst (v := 1) (by decide) dX8_hasPairIn_27 rfl ?_
      exact fr_zret (by decide) rfl dX8_hasPairIn_28 h.1 h.2
theorem cp_X8_scriptOf {g : GE} {Z : Zs} {I : Nat → Nat → Int32} {L : Nat → Nat → Int64} {r : Option Value} {M' : Mem} {o : Nat} {x1 : Int32} {o_scripts : Nat} (k_o : KM Z o 8) (r_o_scripts : Z.2.1 o 13 = some o_scripts) (k_o_scripts : KM Z o_scripts 16) (h : ((x1 < 0 → (r = some (.null) ∧ M' = (Z, I, L))) ∧ (¬ x1 < 0 → (((I o 14) ≤ x1 → (r = some (.null) ∧ M' = (Z, I, L))) ∧ (¬ (I o 14) ≤ x1 → (((nI (Z.2.2.1 o_scripts)) ≤ x1 → (r = some (.null) ∧ M' = (Z, I, L))) ∧ (¬ (nI (Z.2.2.1 o_scripts)) ≤ x1 → (vp_in x1 (Z.2.2.1 o_scripts) ∧ ((Z.2.1 o_scripts x1.toNatClampNeg = none → (r = some (.null) ∧ M' = (Z, I, L))) ∧ (∀ b2 : Nat, Z.2.1 o_scripts x1.toNatClampNeg = some b2 → KM Z b2 6 ∧ (r = some (rf g b2) ∧ M' = (Z, I, L)))))))))))) : Cl g 1 mu_X8_scriptOf [rf g o, .int x1] (Z, I, L) r M' := by
  refine cl_of (lv := [(0, rf g o), (1, .int x1)]) (by decide) (Nat.le_of_ble_eq_true rfl) rfl ?_
  refine fr_iload_n (i := 1) (q := 1) rfl dX8_scriptOf_0 rfl ?_
  refine fr_if_lt (tgt := 30) dX8_scriptOf_1 (by decide) rfl (fun hc => ?_) (fun hc => ?_)
  · have h := h.1 hc
    refine fr_null dX8_scriptOf_30 rfl ?_
    exact fr_aretN rfl dX8_scriptOf_31 h.1 h.2
  · have h := h.2 hc
    refine fr_iload_n (i := 1) (q := 1) rfl dX8_scriptOf_4 rfl ?_
    refine fr_aload_n (i := 0) (q := 0) rfl dX8_scriptOf_5 rfl ?_
    refine fr_getI dX8_scriptOf_6 rfl fl_X8_79 k_o ?_
    refine fr_icmp_ge (tgt := 30) dX8_scriptOf_9 (by decide) rfl (fun hc => ?_) (fun hc => ?_)
    · have h := h.1 hc
      refine fr_null dX8_scriptOf_30 rfl ?_
      exact fr_aretN rfl dX8_scriptOf_31 h.1 h.2
    · have h := h.2 hc
      refine fr_iload_n (i := 1) (q := 1) rfl dX8_scriptOf_12 rfl ?_
      refine fr_aload_n (i := 0) (q := 0) rfl dX8_scriptOf_13 rfl ?_
      refine fr_getR dX8_scriptOf_14 rfl fl_X8_49 k_o r_o_scripts ?_
      refine fr_alen dX8_scriptOf_17 rfl k_o_scripts (Or.inr (Or.inr (Or.inr rfl))) ?_
      refine fr_icmp_ge (tgt := 30) dX8_scriptOf_18 (by decide) rfl (fun hc => ?_) (fun hc => ?_)
      · have h := h.1 hc
        refine fr_null dX8_scriptOf_30 rfl ?_
        exact fr_aretN rfl dX8_scriptOf_31 h.1 h.2
      · have h := h.2 hc
        refine fr_aload_n (i := 0) (q := 0) rfl dX8_scriptOf_21 rfl ?_
        refine fr_getR dX8_scriptOf_22 rfl fl_X8_49 k_o r_o_scripts ?_
        refine fr_iload_n (i := 1) (q := 1) rfl dX8_scriptOf_25 rfl ?_
        obtain ⟨hz1, h⟩ := h
        refine fr_aald dX8_scriptOf_26 rfl k_o_scripts hz1 ?_
        refine fr_case (fun hq => ?_) (fun b2 hq => ?_)
        · have h := h.1 hq
          refine fr_goto (n := 31) dX8_scriptOf_27 (by decide) ?_
          exact fr_aretN rfl dX8_scriptOf_31 h.1 h.2
        · obtain ⟨k_b2, h⟩ := h.2 b2 hq
          refine fr_goto (n := 31) dX8_scriptOf_27 (by decide) ?_
          exact fr_aret rfl dX8_scriptOf_31 h.1 h.2
theorem cp_X8_keepStep {g : GE} {Z : Zs} {I : Nat → Nat → Int32} {L : Nat → Nat → Int64} {r : Option Value} {M' : Mem} {o : Nat} {x1 : Int32} {o_stepPairs : Nat} {o_stepPoses : Nat} {o_poses : Nat} (k_o : KM Z o 8) (r_o_stepPairs : Z.2.1 o 6 = some o_stepPairs) (k_o_stepPairs : KM Z o_stepPairs 2) (r_o_stepPoses : Z.2.1 o 7 = some o_stepPoses) (k_o_stepPoses : KM Z o_stepPoses 2) (r_o_poses : Z.2.1 o 3 = some o_poses) (k_o_poses : KM Z o_poses 2) (h : (∃ (v1 : Int32), Cl g 1 mu_X2_size [rf g o_stepPairs] (Z, I, L) (some (.int v1)) (Z, I, L) ∧ ((v1 < 30 → (∃ (I3 : Nat → Nat → Int32) (L4 : Nat → Nat → Int64), Cl g 1 mu_X2_add [rf g o_stepPairs, .int x1] (Z, I, L) none (Z, I3, L4) ∧ (∃ (v6 : Int32), Cl g 1 mu_X2_at [rf g o_poses, .int x1] (Z, I3, L4) (some (.int v6)) (Z, I3, L4) ∧ (∃ (I8 : Nat → Nat → Int32) (L9 : Nat → Nat → Int64), Cl g 1 mu_X2_add [rf g o_stepPoses, .int v6] (Z, I3, L4) none (Z, I8, L9) ∧ (r = none ∧ M' = (Z, I8, L9)))))) ∧ (¬ v1 < 30 → (∃ (I11 : Nat → Nat → Int32) (L12 : Nat → Nat → Int64), Cl g 2 mu_X2_dropFirst [rf g o_stepPairs] (Z, I, L) none (Z, I11, L12) ∧ (∃ (I14 : Nat → Nat → Int32) (L15 : Nat → Nat → Int64), Cl g 2 mu_X2_dropFirst [rf g o_stepPoses] (Z, I11, L12) none (Z, I14, L15) ∧ (∃ (I17 : Nat → Nat → Int32) (L18 : Nat → Nat → Int64), Cl g 1 mu_X2_add [rf g o_stepPairs, .int x1] (Z, I14, L15) none (Z, I17, L18) ∧ (∃ (v20 : Int32), Cl g 1 mu_X2_at [rf g o_poses, .int x1] (Z, I17, L18) (some (.int v20)) (Z, I17, L18) ∧ (∃ (I22 : Nat → Nat → Int32) (L23 : Nat → Nat → Int64), Cl g 1 mu_X2_add [rf g o_stepPoses, .int v20] (Z, I17, L18) none (Z, I22, L23) ∧ (r = none ∧ M' = (Z, I22, L23))))))))))) : Cl g 3 mu_X8_keepStep [rf g o, .int x1] (Z, I, L) r M' := by
  refine cl_of (lv := [(0, rf g o), (1, .int x1)]) (by decide) (Nat.le_of_ble_eq_true rfl) rfl ?_
  refine fr_aload_n (i := 0) (q := 0) rfl dX8_keepStep_0 rfl ?_
  refine fr_getR dX8_keepStep_1 rfl fl_X8_26 k_o r_o_stepPairs ?_
  obtain ⟨v1, hc2, h⟩ := h
  refine fr_callV2 (ν := mu_X2_size) (st2 := [.int v1]) (As := []) (st := []) (v := (some (.int v1))) (M1 := (Z, I, L)) dX8_keepStep_4 rfl ml_X8_90 mo_X2_size mi_X2_size (ci := 2) rfl rfl k_o_stepPairs (Nat.le_of_ble_eq_true rfl) rfl rfl (Nat.le_of_ble_eq_true rfl) hc2 rfl ?_
  refine fr_bipush (v := 30) (by decide) dX8_keepStep_7 rfl ?_
  refine fr_icmp_lt (tgt := 26) dX8_keepStep_9 (by decide) rfl (fun hc => ?_) (fun hc => ?_)
  · have h := h.1 hc
    refine fr_aload_n (i := 0) (q := 0) rfl dX8_keepStep_26 rfl ?_
    refine fr_getR dX8_keepStep_27 rfl fl_X8_26 k_o r_o_stepPairs ?_
    refine fr_iload_n (i := 1) (q := 1) rfl dX8_keepStep_30 rfl ?_
    obtain ⟨I3, L4, hc5, h⟩ := h
    refine fr_callV2 (ν := mu_X2_add) (st2 := []) (As := [.int x1]) (st := []) (v := none) (M1 := (Z, I3, L4)) dX8_keepStep_31 rfl ml_X8_72 mo_X2_add mi_X2_add (ci := 2) rfl rfl k_o_stepPairs (Nat.le_of_ble_eq_true rfl) rfl rfl (Nat.le_of_ble_eq_true rfl) hc5 rfl ?_
    refine fr_aload_n (i := 0) (q := 0) rfl dX8_keepStep_34 rfl ?_
    refine fr_getR dX8_keepStep_35 rfl fl_X8_29 k_o r_o_stepPoses ?_
    refine fr_aload_n (i := 0) (q := 0) rfl dX8_keepStep_38 rfl ?_
    refine fr_getR dX8_keepStep_39 rfl fl_X8_14 k_o r_o_poses ?_
    refine fr_iload_n (i := 1) (q := 1) rfl dX8_keepStep_42 rfl ?_
    obtain ⟨v6, hc7, h⟩ := h
    refine fr_callV2 (ν := mu_X2_at) (st2 := [.int v6, rf g o_stepPoses]) (As := [.int x1]) (st := [rf g o_stepPoses]) (v := (some (.int v6))) (M1 := (Z, I3, L4)) dX8_keepStep_43 rfl ml_X8_86 mo_X2_at mi_X2_at (ci := 2) rfl rfl k_o_poses (Nat.le_of_ble_eq_true rfl) rfl rfl (Nat.le_of_ble_eq_true rfl) hc7 rfl ?_
    obtain ⟨I8, L9, hc10, h⟩ := h
    refine fr_callV2 (ν := mu_X2_add) (st2 := []) (As := [.int v6]) (st := []) (v := none) (M1 := (Z, I8, L9)) dX8_keepStep_46 rfl ml_X8_72 mo_X2_add mi_X2_add (ci := 2) rfl rfl k_o_stepPoses (Nat.le_of_ble_eq_true rfl) rfl rfl (Nat.le_of_ble_eq_true rfl) hc10 rfl ?_
    exact fr_vret rfl dX8_keepStep_49 h.1 h.2
  · have h := h.2 hc
    refine fr_aload_n (i := 0) (q := 0) rfl dX8_keepStep_12 rfl ?_
    refine fr_getR dX8_keepStep_13 rfl fl_X8_26 k_o r_o_stepPairs ?_
    obtain ⟨I11, L12, hc13, h⟩ := h
    refine fr_callV2 (ν := mu_X2_dropFirst) (st2 := []) (As := []) (st := []) (v := none) (M1 := (Z, I11, L12)) dX8_keepStep_16 rfl ml_X8_93 mo_X2_dropFirst mi_X2_dropFirst (ci := 2) rfl rfl k_o_stepPairs (Nat.le_of_ble_eq_true rfl) rfl rfl (Nat.le_of_ble_eq_true rfl) hc13 rfl ?_
    refine fr_aload_n (i := 0) (q := 0) rfl dX8_keepStep_19 rfl ?_
    refine fr_getR dX8_keepStep_20 rfl fl_X8_29 k_o r_o_stepPoses ?_
    obtain ⟨I14, L15, hc16, h⟩ := h
    refine fr_callV2 (ν := mu_X2_dropFirst) (st2 := []) (As := []) (st := []) (v := none) (M1 := (Z, I14, L15)) dX8_keepStep_23 rfl ml_X8_93 mo_X2_dropFirst mi_X2_dropFirst (ci := 2) rfl rfl k_o_stepPoses (Nat.le_of_ble_eq_true rfl) rfl rfl (Nat.le_of_ble_eq_true rfl) hc16 rfl ?_
    refine fr_aload_n (i := 0) (q := 0) rfl dX8_keepStep_26 rfl ?_
    refine fr_getR dX8_keepStep_27 rfl fl_X8_26 k_o r_o_stepPairs ?_
    refine fr_iload_n (i := 1) (q := 1) rfl dX8_keepStep_30 rfl ?_
    obtain ⟨I17, L18, hc19, h⟩ := h
    refine fr_callV2 (ν := mu_X2_add) (st2 := []) (As := [.int x1]) (st := []) (v := none) (M1 := (Z, I17, L18)) dX8_keepStep_31 rfl ml_X8_72 mo_X2_add mi_X2_add (ci := 2) rfl rfl k_o_stepPairs (Nat.le_of_ble_eq_true rfl) rfl rfl (Nat.le_of_ble_eq_true rfl) hc19 rfl ?_
    refine fr_aload_n (i := 0) (q := 0) rfl dX8_keepStep_34 rfl ?_
    refine fr_getR dX8_keepStep_35 rfl fl_X8_29 k_o r_o_stepPoses ?_
    refine fr_aload_n (i := 0) (q := 0) rfl dX8_keepStep_38 rfl ?_
    refine fr_getR dX8_keepStep_39 rfl fl_X8_14 k_o r_o_poses ?_
    refine fr_iload_n (i := 1) (q := 1) rfl dX8_keepStep_42 rfl ?_
    obtain ⟨v20, hc21, h⟩ := h
    refine fr_callV2 (ν := mu_X2_at) (st2 := [.int v20, rf g o_stepPoses]) (As := [.int x1]) (st := [rf g o_stepPoses]) (v := (some (.int v20))) (M1 := (Z, I17, L18)) dX8_keepStep_43 rfl ml_X8_86 mo_X2_at mi_X2_at (ci := 2) rfl rfl k_o_poses (Nat.le_of_ble_eq_true rfl) rfl rfl (Nat.le_of_ble_eq_true rfl) hc21 rfl ?_
    obtain ⟨I22, L23, hc24, h⟩ := h
    refine fr_callV2 (ν := mu_X2_add) (st2 := []) (As := [.int v20]) (st := []) (v := none) (M1 := (Z, I22, L23)) dX8_keepStep_46 rfl ml_X8_72 mo_X2_add mi_X2_add (ci := 2) rfl rfl k_o_stepPoses (Nat.le_of_ble_eq_true rfl) rfl rfl (Nat.le_of_ble_eq_true rfl) hc24 rfl ?_
    exact fr_vret rfl dX8_keepStep_49 h.1 h.2
theorem cp_X8_forgetSteps {g : GE} {Z : Zs} {I : Nat → Nat → Int32} {L : Nat → Nat → Int64} {r : Option Value} {M' : Mem} {o : Nat} {o_stepPairs : Nat} {o_stepPoses : Nat} (k_o : KM Z o 8) (r_o_stepPairs : Z.2.1 o 6 = some o_stepPairs) (k_o_stepPairs : KM Z o_stepPairs 2) (r_o_stepPoses : Z.2.1 o 7 = some o_stepPoses) (k_o_stepPoses : KM Z o_stepPoses 2) (h : (∃ (I1 : Nat → Nat → Int32) (L2 : Nat → Nat → Int64), Cl g 2 mu_X2_cutTo [rf g o_stepPairs, .int 0] (Z, I, L) none (Z, I1, L2) ∧ (∃ (I4 : Nat → Nat → Int32) (L5 : Nat → Nat → Int64), Cl g 2 mu_X2_cutTo [rf g o_stepPoses, .int 0] (Z, I1, L2) none (Z, I4, L5) ∧ (r = none ∧ M' = (Z, I4, L5))))) : Cl g 3 mu_X8_forgetSteps [rf g o] (Z, I, L) r M' := by
  refine cl_of (lv := [(0, rf g o)]) (by decide) (Nat.le_of_ble_eq_true rfl) rfl ?_
  refine fr_aload_n (i := 0) (q := 0) rfl dX8_forgetSteps_0 rfl ?_
  refine fr_getR dX8_forgetSteps_1 rfl fl_X8_26 k_o r_o_stepPairs ?_
  refine fr_iconst (v := 0) (by decide) dX8_forgetSteps_4 rfl ?_
  obtain ⟨I1, L2, hc3, h⟩ := h
  refine fr_callV2 (ν := mu_X2_cutTo) (st2 := []) (As := [.int 0]) (st := []) (v := none) (M1 := (Z, I1, L2)) dX8_forgetSteps_5 rfl ml_X8_96 mo_X2_cutTo mi_X2_cutTo (ci := 2) rfl rfl k_o_stepPairs (Nat.le_of_ble_eq_true rfl) rfl rfl (Nat.le_of_ble_eq_true rfl) hc3 rfl ?_
  refine fr_aload_n (i := 0) (q := 0) rfl dX8_forgetSteps_8 rfl ?_
  refine fr_getR dX8_forgetSteps_9 rfl fl_X8_29 k_o r_o_stepPoses ?_
  refine fr_iconst (v := 0) (by decide) dX8_forgetSteps_12 rfl ?_
  obtain ⟨I4, L5, hc6, h⟩ := h
  refine fr_callV2 (ν := mu_X2_cutTo) (st2 := []) (As := [.int 0]) (st := []) (v := none) (M1 := (Z, I4, L5)) dX8_forgetSteps_13 rfl ml_X8_96 mo_X2_cutTo mi_X2_cutTo (ci := 2) rfl rfl k_o_stepPoses (Nat.le_of_ble_eq_true rfl) rfl rfl (Nat.le_of_ble_eq_true rfl) hc6 rfl ?_
  exact fr_vret rfl dX8_forgetSteps_16 h.1 h.2
theorem cp_X9_kindAt {g : GE} {Z : Zs} {I : Nat → Nat → Int32} {L : Nat → Nat → Int64} {r : Option Value} {M' : Mem} {o : Nat} {x1 : Int32} {o_kinds : Nat} (k_o : KM Z o 9) (r_o_kinds : Z.2.1 o 0 = some o_kinds) (k_o_kinds : KM Z o_kinds 2) (h : (∃ (v1 : Int32), Cl g 1 mu_X2_size [rf g o_kinds] (Z, I, L) (some (.int v1)) (Z, I, L) ∧ ((v1 ≤ x1 → (r = some (.int 37) ∧ M' = (Z, I, L))) ∧ (¬ v1 ≤ x1 → (∃ (v3 : Int32), Cl g 1 mu_X2_at [rf g o_kinds, .int x1] (Z, I, L) (some (.int v3)) (Z, I, L) ∧ (r = some (.int v3) ∧ M' = (Z, I, L))))))) : Cl g 2 mu_X9_kindAt [rf g o, .int x1] (Z, I, L) r M' := by
  refine cl_of (lv := [(0, rf g o), (1, .int x1)]) (by decide) (Nat.le_of_ble_eq_true rfl) rfl ?_
  refine fr_iload_n (i := 1) (q := 1) rfl dX9_kindAt_0 rfl ?_
  refine fr_aload_n (i := 0) (q := 0) rfl dX9_kindAt_1 rfl ?_
  refine fr_getR dX9_kindAt_2 rfl fl_X9_14 k_o r_o_kinds ?_
  obtain ⟨v1, hc2, h⟩ := h
  refine fr_callV2 (ν := mu_X2_size) (st2 := [.int v1, .int x1]) (As := []) (st := [.int x1]) (v := (some (.int v1))) (M1 := (Z, I, L)) dX9_kindAt_5 rfl ml_X9_26 mo_X2_size mi_X2_size (ci := 2) rfl rfl k_o_kinds (Nat.le_of_ble_eq_true rfl) rfl rfl (Nat.le_of_ble_eq_true rfl) hc2 rfl ?_
  refine fr_icmp_ge (tgt := 22) dX9_kindAt_8 (by decide) rfl (fun hc => ?_) (fun hc => ?_)
  · have h := h.1 hc
    refine fr_bipush (v := 37) (by decide) dX9_kindAt_22 rfl ?_
    exact fr_iret rfl dX9_kindAt_24 h.1 h.2
  · have h := h.2 hc
    refine fr_aload_n (i := 0) (q := 0) rfl dX9_kindAt_11 rfl ?_
    refine fr_getR dX9_kindAt_12 rfl fl_X9_14 k_o r_o_kinds ?_
    refine fr_iload_n (i := 1) (q := 1) rfl dX9_kindAt_15 rfl ?_
    obtain ⟨v3, hc4, h⟩ := h
    refine fr_callV2 (ν := mu_X2_at) (st2 := [.int v3]) (As := [.int x1]) (st := []) (v := (some (.int v3))) (M1 := (Z, I, L)) dX9_kindAt_16 rfl ml_X9_30 mo_X2_at mi_X2_at (ci := 2) rfl rfl k_o_kinds (Nat.le_of_ble_eq_true rfl) rfl rfl (Nat.le_of_ble_eq_true rfl) hc4 rfl ?_
    refine fr_goto (n := 24) dX9_kindAt_19 (by decide) ?_
    exact fr_iret rfl dX9_kindAt_24 h.1 h.2
theorem cp_X9_placeAt {g : GE} {Z : Zs} {I : Nat → Nat → Int32} {L : Nat → Nat → Int64} {r : Option Value} {M' : Mem} {o : Nat} {x1 : Int32} {o_places : Nat} (k_o : KM Z o 9) (r_o_places : Z.2.1 o 1 = some o_places) (k_o_places : KM Z o_places 2) (h : (∃ (v1 : Int32), Cl g 1 mu_X2_at [rf g o_places, .int x1] (Z, I, L) (some (.int v1)) (Z, I, L) ∧ (r = some (.int v1) ∧ M' = (Z, I, L)))) : Cl g 2 mu_X9_placeAt [rf g o, .int x1] (Z, I, L) r M' := by
  refine cl_of (lv := [(0, rf g o), (1, .int x1)]) (by decide) (Nat.le_of_ble_eq_true rfl) rfl ?_
  refine fr_aload_n (i := 0) (q := 0) rfl dX9_placeAt_0 rfl ?_
  refine fr_getR dX9_placeAt_1 rfl fl_X9_20 k_o r_o_places ?_
  refine fr_iload_n (i := 1) (q := 1) rfl dX9_placeAt_4 rfl ?_
  obtain ⟨v1, hc2, h⟩ := h
  refine fr_callV2 (ν := mu_X2_at) (st2 := [.int v1]) (As := [.int x1]) (st := []) (v := (some (.int v1))) (M1 := (Z, I, L)) dX9_placeAt_5 rfl ml_X9_30 mo_X2_at mi_X2_at (ci := 2) rfl rfl k_o_places (Nat.le_of_ble_eq_true rfl) rfl rfl (Nat.le_of_ble_eq_true rfl) hc2 rfl ?_
  exact fr_iret rfl dX9_placeAt_8 h.1 h.2
theorem cp_X9_valueAt {g : GE} {Z : Zs} {I : Nat → Nat → Int32} {L : Nat → Nat → Int64} {r : Option Value} {M' : Mem} {o : Nat} {x1 : Int32} {o_values : Nat} (k_o : KM Z o 9) (r_o_values : Z.2.1 o 2 = some o_values) (k_o_values : KM Z o_values 2) (h : (∃ (v1 : Int32), Cl g 1 mu_X2_at [rf g o_values, .int x1] (Z, I, L) (some (.int v1)) (Z, I, L) ∧ (r = some (.int v1) ∧ M' = (Z, I, L)))) : Cl g 2 mu_X9_valueAt [rf g o, .int x1] (Z, I, L) r M' := by
  refine cl_of (lv := [(0, rf g o), (1, .int x1)]) (by decide) (Nat.le_of_ble_eq_true rfl) rfl ?_
  refine fr_aload_n (i := 0) (q := 0) rfl dX9_valueAt_0 rfl ?_
  refine fr_getR dX9_valueAt_1 rfl fl_X9_23 k_o r_o_values ?_
  refine fr_iload_n (i := 1) (q := 1) rfl dX9_valueAt_4 rfl ?_
  obtain ⟨v1, hc2, h⟩ := h
  refine fr_callV2 (ν := mu_X2_at) (st2 := [.int v1]) (As := [.int x1]) (st := []) (v := (some (.int v1))) (M1 := (Z, I, L)) dX9_valueAt_5 rfl ml_X9_30 mo_X2_at mi_X2_at (ci := 2) rfl rfl k_o_values (Nat.le_of_ble_eq_true rfl) rfl rfl (Nat.le_of_ble_eq_true rfl) hc2 rfl ?_
  exact fr_iret rfl dX9_valueAt_8 h.1 h.2
abbrev Lp_X9_scan_28 (g : GE) (d : Nat) (o : Nat) (a1 : Nat) (u2 : Int32) (u3 : Int32) (M : Mem) (r : Option Value) (M' : Mem) : Prop := Fr g d mu_X9_scan 28 [(0, rf g o), (1, rf g a1), (2, .int u2), (3, .int u3)] [] M r M'
theorem cp_X9_scan {g : GE} {Z : Zs} {I : Nat → Nat → Int32} {L : Nat → Nat → Int64} {r : Option Value} {M' : Mem} {o : Nat} {a1 : Nat} {o_kinds : Nat} {o_places : Nat} {o_values : Nat} (k_o : KM Z o 9) (k_a1 : KM Z a1 2) (r_o_kinds : Z.2.1 o 0 = some o_kinds) (k_o_kinds : KM Z o_kinds 2) (r_o_places : Z.2.1 o 1 = some o_places) (k_o_places : KM Z o_places 2) (r_o_values : Z.2.1 o 2 = some o_values) (k_o_values : KM Z o_values 2) (h : (∃ (I1 : Nat → Nat → Int32) (L2 : Nat → Nat → Int64), Cl g 2 mu_X2_cutTo [rf g o_kinds, .int 0] (Z, I, L) none (Z, I1, L2) ∧ (∃ (I4 : Nat → Nat → Int32) (L5 : Nat → Nat → Int64), Cl g 2 mu_X2_cutTo [rf g o_places, .int 0] (Z, I1, L2) none (Z, I4, L5) ∧ (∃ (I7 : Nat → Nat → Int32) (L8 : Nat → Nat → Int64), Cl g 2 mu_X2_cutTo [rf g o_values, .int 0] (Z, I4, L5) none (Z, I7, L8) ∧ Lp_X9_scan_28 g 10 o a1 0 0 (Z, I7, L8) r M')))) : Cl g 10 mu_X9_scan [rf g o, rf g a1] (Z, I, L) r M' := by
  refine cl_of (lv := [(0, rf g o), (1, rf g a1)]) (by decide) (Nat.le_of_ble_eq_true rfl) rfl ?_
  refine fr_aload_n (i := 0) (q := 0) rfl dX9_scan_0 rfl ?_
  refine fr_getR dX9_scan_1 rfl fl_X9_14 k_o r_o_kinds ?_
  refine fr_iconst (v := 0) (by decide) dX9_scan_4 rfl ?_
  obtain ⟨I1, L2, hc3, h⟩ := h
  refine fr_callV2 (ν := mu_X2_cutTo) (st2 := []) (As := [.int 0]) (st := []) (v := none) (M1 := (Z, I1, L2)) dX9_scan_5 rfl ml_X9_34 mo_X2_cutTo mi_X2_cutTo (ci := 2) rfl rfl k_o_kinds (Nat.le_of_ble_eq_true rfl) rfl rfl (Nat.le_of_ble_eq_true rfl) hc3 rfl ?_
  refine fr_aload_n (i := 0) (q := 0) rfl dX9_scan_8 rfl ?_
  refine fr_getR dX9_scan_9 rfl fl_X9_20 k_o r_o_places ?_
  refine fr_iconst (v := 0) (by decide) dX9_scan_12 rfl ?_
  obtain ⟨I4, L5, hc6, h⟩ := h
  refine fr_callV2 (ν := mu_X2_cutTo) (st2 := []) (As := [.int 0]) (st := []) (v := none) (M1 := (Z, I4, L5)) dX9_scan_13 rfl ml_X9_34 mo_X2_cutTo mi_X2_cutTo (ci := 2) rfl rfl k_o_places (Nat.le_of_ble_eq_true rfl) rfl rfl (Nat.le_of_ble_eq_true rfl) hc6 rfl ?_
  refine fr_aload_n (i := 0) (q := 0) rfl dX9_scan_16 rfl ?_
  refine fr_getR dX9_scan_17 rfl fl_X9_23 k_o r_o_values ?_
  refine fr_iconst (v := 0) (by decide) dX9_scan_20 rfl ?_
  obtain ⟨I7, L8, hc9, h⟩ := h
  refine fr_callV2 (ν := mu_X2_cutTo) (st2 := []) (As := [.int 0]) (st := []) (v := none) (M1 := (Z, I7, L8)) dX9_scan_21 rfl ml_X9_34 mo_X2_cutTo mi_X2_cutTo (ci := 2) rfl rfl k_o_values (Nat.le_of_ble_eq_true rfl) rfl rfl (Nat.le_of_ble_eq_true rfl) hc9 rfl ?_
  refine fr_iconst (v := 0) (by decide) dX9_scan_24 rfl ?_
  refine fr_istore_n (i := 2) (lv' := [(2, .int 0), (0, rf g o), (1, rf g a1)]) dX9_scan_25 rfl (by decide) rfl ?_
  refine fr_iconst (v := 0) (by decide) dX9_scan_26 rfl ?_
  refine fr_istore_n (i := 3) (lv' := [(3, .int 0), (2, .int 0), (0, rf g o), (1, rf g a1)]) dX9_scan_27 rfl (by decide) rfl ?_
  exact fr_sub [2, 3, 1, 0] rfl h
theorem wp_X9_scan_28 {g : GE} {Z : Zs} {I : Nat → Nat → Int32} {L : Nat → Nat → Int64} {r : Option Value} {M' : Mem} {o : Nat} {a1 : Nat} {u2 : Int32} {u3 : Int32} (k_o : KM Z o 9) (k_a1 : KM Z a1 2) (h : ((300 ≤ u3 → (∃ (v1 : Int32), Cl g 1 mu_X2_size [rf g a1] (Z, I, L) (some (.int v1)) (Z, I, L) ∧ (∃ (I3 : Nat → Nat → Int32) (L4 : Nat → Nat → Int64), Cl g 2 mu_X9_note [rf g o, .int 37, .int v1, .int 0] (Z, I, L) none (Z, I3, L4) ∧ (r = none ∧ M' = (Z, I3, L4))))) ∧ (¬ 300 ≤ u3 → (∃ (v6 : Int32), Cl g 1 mu_X2_size [rf g a1] (Z, I, L) (some (.int v6)) (Z, I, L) ∧ ((v6 ≤ u2 → (∃ (v8 : Int32), Cl g 1 mu_X2_size [rf g a1] (Z, I, L) (some (.int v8)) (Z, I, L) ∧ (∃ (I10 : Nat → Nat → Int32) (L11 : Nat → Nat → Int64), Cl g 2 mu_X9_note [rf g o, .int 37, .int v8, .int 0] (Z, I, L) none (Z, I10, L11) ∧ (r = none ∧ M' = (Z, I10, L11))))) ∧ (¬ v6 ≤ u2 → (∃ (v13 : Int32) (I14 : Nat → Nat → Int32) (L15 : Nat → Nat → Int64), Cl g 9 mu_X9_scanOne [rf g o, rf g a1, .int u2] (Z, I, L) (some (.int v13)) (Z, I14, L15) ∧ (∀ y17 : Int32, y17 = (u3 + 1) → Lp_X9_scan_28 g 10 o a1 v13 y17 (Z, I14, L15) r M')))))))) : Lp_X9_scan_28 g 10 o a1 u2 u3 (Z, I, L) r M' := by
  refine fr_iload_n (i := 3) (q := 3) rfl dX9_scan_28 rfl ?_
  refine fr_sipush (v := 300) (by decide) dX9_scan_29 rfl ?_
  refine fr_icmp_ge (tgt := 56) dX9_scan_32 (by decide) rfl (fun hc => ?_) (fun hc => ?_)
  · have h := h.1 hc
    refine fr_aload_n (i := 0) (q := 0) rfl dX9_scan_56 rfl ?_
    refine fr_bipush (v := 37) (by decide) dX9_scan_57 rfl ?_
    refine fr_aload_n (i := 1) (q := 1) rfl dX9_scan_59 rfl ?_
    obtain ⟨v1, hc2, h⟩ := h
    refine fr_callV2 (ν := mu_X2_size) (st2 := [.int v1, .int 37, rf g o]) (As := []) (st := [.int 37, rf g o]) (v := (some (.int v1))) (M1 := (Z, I, L)) dX9_scan_60 rfl ml_X9_26 mo_X2_size mi_X2_size (ci := 2) rfl rfl k_a1 (Nat.le_of_ble_eq_true rfl) rfl rfl (Nat.le_of_ble_eq_true rfl) hc2 rfl ?_
    refine fr_iconst (v := 0) (by decide) dX9_scan_63 rfl ?_
    obtain ⟨I3, L4, hc5, h⟩ := h
    refine fr_callV2 (ν := mu_X9_note) (st2 := []) (As := [.int 37, .int v1, .int 0]) (st := []) (v := none) (M1 := (Z, I3, L4)) dX9_scan_64 rfl ml_X9_41 mo_X9_note mi_X9_note (ci := 9) rfl rfl k_o (Nat.le_of_ble_eq_true rfl) rfl rfl (Nat.le_of_ble_eq_true rfl) hc5 rfl ?_
    exact fr_vret rfl dX9_scan_67 h.1 h.2
  · have h := h.2 hc
    refine fr_iload_n (i := 2) (q := 2) rfl dX9_scan_35 rfl ?_
    refine fr_aload_n (i := 1) (q := 1) rfl dX9_scan_36 rfl ?_
    obtain ⟨v6, hc7, h⟩ := h
    refine fr_callV2 (ν := mu_X2_size) (st2 := [.int v6, .int u2]) (As := []) (st := [.int u2]) (v := (some (.int v6))) (M1 := (Z, I, L)) dX9_scan_37 rfl ml_X9_26 mo_X2_size mi_X2_size (ci := 2) rfl rfl k_a1 (Nat.le_of_ble_eq_true rfl) rfl rfl (Nat.le_of_ble_eq_true rfl) hc7 rfl ?_
    refine fr_icmp_ge (tgt := 56) dX9_scan_40 (by decide) rfl (fun hc => ?_) (fun hc => ?_)
    · have h := h.1 hc
      refine fr_aload_n (i := 0) (q := 0) rfl dX9_scan_56 rfl ?_
      refine fr_bipush (v := 37) (by decide) dX9_scan_57 rfl ?_
      refine fr_aload_n (i := 1) (q := 1) rfl dX9_scan_59 rfl ?_
      obtain ⟨v8, hc9, h⟩ := h
      refine fr_callV2 (ν := mu_X2_size) (st2 := [.int v8, .int 37, rf g o]) (As := []) (st := [.int 37, rf g o]) (v := (some (.int v8))) (M1 := (Z, I, L)) dX9_scan_60 rfl ml_X9_26 mo_X2_size mi_X2_size (ci := 2) rfl rfl k_a1 (Nat.le_of_ble_eq_true rfl) rfl rfl (Nat.le_of_ble_eq_true rfl) hc9 rfl ?_
      refine fr_iconst (v := 0) (by decide) dX9_scan_63 rfl ?_
      obtain ⟨I10, L11, hc12, h⟩ := h
      refine fr_callV2 (ν := mu_X9_note) (st2 := []) (As := [.int 37, .int v8, .int 0]) (st := []) (v := none) (M1 := (Z, I10, L11)) dX9_scan_64 rfl ml_X9_41 mo_X9_note mi_X9_note (ci := 9) rfl rfl k_o (Nat.le_of_ble_eq_true rfl) rfl rfl (Nat.le_of_ble_eq_true rfl) hc12 rfl ?_
      exact fr_vret rfl dX9_scan_67 h.1 h.2
    · have h := h.2 hc
      refine fr_aload_n (i := 0) (q := 0) rfl dX9_scan_43 rfl ?_
      refine fr_aload_n (i := 1) (q := 1) rfl dX9_scan_44 rfl ?_
      refine fr_iload_n (i := 2) (q := 2) rfl dX9_scan_45 rfl ?_
      obtain ⟨v13, I14, L15, hc16, h⟩ := h
      refine fr_callV2 (ν := mu_X9_scanOne) (st2 := [.int v13]) (As := [rf g a1, .int u2]) (st := []) (v := (some (.int v13))) (M1 := (Z, I14, L15)) dX9_scan_46 rfl ml_X9_37 mo_X9_scanOne mi_X9_scanOne (ci := 9) rfl rfl k_o (Nat.le_of_ble_eq_true rfl) rfl rfl (Nat.le_of_ble_eq_true rfl) hc16 rfl ?_
      refine fr_istore_n (i := 2) (lv' := [(2, .int v13), (0, rf g o), (1, rf g a1), (3, .int u3)]) dX9_scan_49 rfl (by decide) rfl ?_
      obtain ⟨y17, hy17⟩ : ∃ y : Int32, y = u3 + 1 := ⟨_, rfl⟩
      have h := h y17 hy17
      refine fr_iinc (q := 3) (v := y17) (lv' := [(3, .int y17), (2, .int v13), (0, rf g o), (1, rf g a1)]) rfl (by rw [hy17]; rfl) dX9_scan_50 rfl (by decide) rfl ?_
      refine fr_goto (n := 28) dX9_scan_53 (by decide) ?_
      exact fr_sub [2, 3, 1, 0] rfl h
abbrev Lp_X9_scanOne_79 (g : GE) (d : Nat) (o : Nat) (u2 : Int32) (u3 : Int32) (s0 : Int32) (M : Mem) (r : Option Value) (M' : Mem) : Prop := Fr g d mu_X9_scanOne 79 [(0, rf g o), (2, .int u2), (3, .int u3)] [.int s0] M r M'
theorem cp_X9_scanOne {g : GE} {Z : Zs} {I : Nat → Nat → Int32} {L : Nat → Nat → Int64} {r : Option Value} {M' : Mem} {o : Nat} {a1 : Nat} {x2 : Int32} (k_o : KM Z o 9) (k_a1 : KM Z a1 2) (h : (∃ (v1 : Int32), Cl g 1 mu_X2_at [rf g a1, .int x2] (Z, I, L) (some (.int v1)) (Z, I, L) ∧ ((v1 = 32 → (r = some (.int (x2 + 1)) ∧ M' = (Z, I, L))) ∧ (¬ v1 = 32 → ((¬ v1 = 10 → (∃ (v3 : Int32), Cl g 1 mu_X9_isLetter [.int v1] (Z, I, L) (some (.int v3)) (Z, I, L) ∧ ((v3 = 0 → (∃ (v5 : Int32), Cl g 1 mu_X9_isDigit [.int v1] (Z, I, L) (some (.int v5)) (Z, I, L) ∧ ((v5 = 0 → ((v1 = 60 → (∃ (v7 : Int32), Cl g 1 mu_X2_at [rf g a1, .int (x2 + 1)] (Z, I, L) (some (.int v7)) (Z, I, L) ∧ ((¬ v7 = 61 → Lp_X9_scanOne_79 g 9 o x2 v1 0 (Z, I, L) r M') ∧ (v7 = 61 → Lp_X9_scanOne_79 g 9 o x2 v1 1 (Z, I, L) r M')))) ∧ (¬ v1 = 60 → ((¬ v1 = 62 → Lp_X9_scanOne_79 g 9 o x2 v1 0 (Z, I, L) r M') ∧ (v1 = 62 → (∃ (v9 : Int32), Cl g 1 mu_X2_at [rf g a1, .int (x2 + 1)] (Z, I, L) (some (.int v9)) (Z, I, L) ∧ ((¬ v9 = 61 → Lp_X9_scanOne_79 g 9 o x2 v1 0 (Z, I, L) r M') ∧ (v9 = 61 → Lp_X9_scanOne_79 g 9 o x2 v1 1 (Z, I, L) r M')))))))) ∧ (¬ v5 = 0 → (∃ (v11 : Int32) (I12 : Nat → Nat → Int32) (L13 : Nat → Nat → Int64), Cl g 3 mu_X9_scanNumber [rf g o, rf g a1, .int x2] (Z, I, L) (some (.int v11)) (Z, I12, L13) ∧ (r = some (.int v11) ∧ M' = (Z, I12, L13))))))) ∧ (¬ v3 = 0 → (∃ (v15 : Int32) (I16 : Nat → Nat → Int32) (L17 : Nat → Nat → Int64), Cl g 8 mu_X9_scanWord [rf g o, rf g a1, .int x2] (Z, I, L) (some (.int v15)) (Z, I16, L17) ∧ (r = some (.int v15) ∧ M' = (Z, I16, L17))))))) ∧ (v1 = 10 → (r = some (.int (x2 + 1)) ∧ M' = (Z, I, L)))))))) : Cl g 9 mu_X9_scanOne [rf g o, rf g a1, .int x2] (Z, I, L) r M' := by
  refine cl_of (lv := [(0, rf g o), (1, rf g a1), (2, .int x2)]) (by decide) (Nat.le_of_ble_eq_true rfl) rfl ?_
  refine fr_aload_n (i := 1) (q := 1) rfl dX9_scanOne_0 rfl ?_
  refine fr_iload_n (i := 2) (q := 2) rfl dX9_scanOne_1 rfl ?_
  obtain ⟨v1, hc2, h⟩ := h
  refine fr_callV2 (ν := mu_X2_at) (st2 := [.int v1]) (As := [.int x2]) (st := []) (v := (some (.int v1))) (M1 := (Z, I, L)) dX9_scanOne_2 rfl ml_X9_30 mo_X2_at mi_X2_at (ci := 2) rfl rfl k_a1 (Nat.le_of_ble_eq_true rfl) rfl rfl (Nat.le_of_ble_eq_true rfl) hc2 rfl ?_
  refine fr_istore_n (i := 3) (lv' := [(3, .int v1), (0, rf g o), (1, rf g a1), (2, .int x2)]) dX9_scanOne_5 rfl (by decide) rfl ?_
  refine fr_iload_n (i := 3) (q := 0) rfl dX9_scanOne_6 rfl ?_
  refine fr_bipush (v := 32) (by decide) dX9_scanOne_7 rfl ?_
  refine fr_icmp_eq (tgt := 18) dX9_scanOne_9 (by decide) rfl (fun hc => ?_) (fun hc => ?_)
  · have h := h.1 hc
    refine fr_iload_n (i := 2) (q := 3) rfl dX9_scanOne_18 rfl ?_
    refine fr_iconst (v := 1) (by decide) dX9_scanOne_19 rfl ?_
    refine fr_iadd dX9_scanOne_20 rfl ?_
    exact fr_iret rfl dX9_scanOne_21 h.1 h.2
  · have h := h.2 hc
    refine fr_iload_n (i := 3) (q := 0) rfl dX9_scanOne_12 rfl ?_
    refine fr_bipush (v := 10) (by decide) dX9_scanOne_13 rfl ?_
    refine fr_icmp_ne (tgt := 22) dX9_scanOne_15 (by decide) rfl (fun hc => ?_) (fun hc => ?_)
    · have h := h.1 hc
      refine fr_iload_n (i := 3) (q := 0) rfl dX9_scanOne_22 rfl ?_
      obtain ⟨v3, hc4, h⟩ := h
      refine fr_callS2 (ν := mu_X9_isLetter) (st2 := [.int v3]) (As := [.int v1]) (st := []) (v := (some (.int v3))) (M1 := (Z, I, L)) dX9_scanOne_23 rfl ml_X9_45 mo_X9_isLetter ms_X9_isLetter (Nat.le_of_ble_eq_true rfl) rfl rfl (Nat.le_of_ble_eq_true rfl) hc4 rfl ?_
      refine fr_if_eq (tgt := 36) dX9_scanOne_26 (by decide) rfl (fun hc => ?_) (fun hc => ?_)
      · have h := h.1 hc
        refine fr_iload_n (i := 3) (q := 0) rfl dX9_scanOne_36 rfl ?_
        obtain ⟨v5, hc6, h⟩ := h
        refine fr_callS2 (ν := mu_X9_isDigit) (st2 := [.int v5]) (As := [.int v1]) (st := []) (v := (some (.int v5))) (M1 := (Z, I, L)) dX9_scanOne_37 rfl ml_X9_52 mo_X9_isDigit ms_X9_isDigit (Nat.le_of_ble_eq_true rfl) rfl rfl (Nat.le_of_ble_eq_true rfl) hc6 rfl ?_
        refine fr_if_eq (tgt := 50) dX9_scanOne_40 (by decide) rfl (fun hc => ?_) (fun hc => ?_)
        · have h := h.1 hc
          refine fr_iload_n (i := 3) (q := 0) rfl dX9_scanOne_50 rfl ?_
          refine fr_bipush (v := 60) (by decide) dX9_scanOne_51 rfl ?_
          refine fr_icmp_eq (tgt := 62) dX9_scanOne_53 (by decide) rfl (fun hc => ?_) (fun hc => ?_)
          · have h := h.1 hc
            refine fr_aload_n (i := 1) (q := 2) rfl dX9_scanOne_62 rfl ?_
            refine fr_iload_n (i := 2) (q := 3) rfl dX9_scanOne_63 rfl ?_
            refine fr_iconst (v := 1) (by decide) dX9_scanOne_64 rfl ?_
            refine fr_iadd dX9_scanOne_65 rfl ?_
            obtain ⟨v7, hc8, h⟩ := h
            refine fr_callV2 (ν := mu_X2_at) (st2 := [.int v7]) (As := [.int (x2 + 1)]) (st := []) (v := (some (.int v7))) (M1 := (Z, I, L)) dX9_scanOne_66 rfl ml_X9_30 mo_X2_at mi_X2_at (ci := 2) rfl rfl k_a1 (Nat.le_of_ble_eq_true rfl) rfl rfl (Nat.le_of_ble_eq_true rfl) hc8 rfl ?_
            refine fr_bipush (v := 61) (by decide) dX9_scanOne_69 rfl ?_
            refine fr_icmp_ne (tgt := 78) dX9_scanOne_71 (by decide) rfl (fun hc => ?_) (fun hc => ?_)
            · have h := h.1 hc
              refine fr_iconst (v := 0) (by decide) dX9_scanOne_78 rfl ?_
              exact fr_sub [1, 3, 0] rfl h
            · have h := h.2 hc
              refine fr_iconst (v := 1) (by decide) dX9_scanOne_74 rfl ?_
              refine fr_goto (n := 79) dX9_scanOne_75 (by decide) ?_
              exact fr_sub [1, 3, 0] rfl h
          · have h := h.2 hc
            refine fr_iload_n (i := 3) (q := 0) rfl dX9_scanOne_56 rfl ?_
            refine fr_bipush (v := 62) (by decide) dX9_scanOne_57 rfl ?_
            refine fr_icmp_ne (tgt := 78) dX9_scanOne_59 (by decide) rfl (fun hc => ?_) (fun hc => ?_)
            · have h := h.1 hc
              refine fr_iconst (v := 0) (by decide) dX9_scanOne_78 rfl ?_
              exact fr_sub [1, 3, 0] rfl h
            · have h := h.2 hc
              refine fr_aload_n (i := 1) (q := 2) rfl dX9_scanOne_62 rfl ?_
              refine fr_iload_n (i := 2) (q := 3) rfl dX9_scanOne_63 rfl ?_
              refine fr_iconst (v := 1) (by decide) dX9_scanOne_64 rfl ?_
              refine fr_iadd dX9_scanOne_65 rfl ?_
              obtain ⟨v9, hc10, h⟩ := h
              refine fr_callV2 (ν := mu_X2_at) (st2 := [.int v9]) (As := [.int (x2 + 1)]) (st := []) (v := (some (.int v9))) (M1 := (Z, I, L)) dX9_scanOne_66 rfl ml_X9_30 mo_X2_at mi_X2_at (ci := 2) rfl rfl k_a1 (Nat.le_of_ble_eq_true rfl) rfl rfl (Nat.le_of_ble_eq_true rfl) hc10 rfl ?_
              refine fr_bipush (v := 61) (by decide) dX9_scanOne_69 rfl ?_
              refine fr_icmp_ne (tgt := 78) dX9_scanOne_71 (by decide) rfl (fun hc => ?_) (fun hc => ?_)
              · have h := h.1 hc
                refine fr_iconst (v := 0) (by decide) dX9_scanOne_78 rfl ?_
                exact fr_sub [1, 3, 0] rfl h
              · have h := h.2 hc
                refine fr_iconst (v := 1) (by decide) dX9_scanOne_74 rfl ?_
                refine fr_goto (n := 79) dX9_scanOne_75 (by decide) ?_
                exact fr_sub [1, 3, 0] rfl h
        · have h := h.2 hc
          refine fr_aload_n (i := 0) (q := 1) rfl dX9_scanOne_43 rfl ?_
          refine fr_aload_n (i := 1) (q := 2) rfl dX9_scanOne_44 rfl ?_
          refine fr_iload_n (i := 2) (q := 3) rfl dX9_scanOne_45 rfl ?_
          obtain ⟨v11, I12, L13, hc14, h⟩ := h
          refine fr_callV2 (ν := mu_X9_scanNumber) (st2 := [.int v11]) (As := [rf g a1, .int x2]) (st := []) (v := (some (.int v11))) (M1 := (Z, I12, L13)) dX9_scanOne_46 rfl ml_X9_55 mo_X9_scanNumber mi_X9_scanNumber (ci := 9) rfl rfl k_o (Nat.le_of_ble_eq_true rfl) rfl rfl (Nat.le_of_ble_eq_true rfl) hc14 rfl ?_
          exact fr_iret rfl dX9_scanOne_49 h.1 h.2
      · have h := h.2 hc
        refine fr_aload_n (i := 0) (q := 1) rfl dX9_scanOne_29 rfl ?_
        refine fr_aload_n (i := 1) (q := 2) rfl dX9_scanOne_30 rfl ?_
        refine fr_iload_n (i := 2) (q := 3) rfl dX9_scanOne_31 rfl ?_
        obtain ⟨v15, I16, L17, hc18, h⟩ := h
        refine fr_callV2 (ν := mu_X9_scanWord) (st2 := [.int v15]) (As := [rf g a1, .int x2]) (st := []) (v := (some (.int v15))) (M1 := (Z, I16, L17)) dX9_scanOne_32 rfl ml_X9_49 mo_X9_scanWord mi_X9_scanWord (ci := 9) rfl rfl k_o (Nat.le_of_ble_eq_true rfl) rfl rfl (Nat.le_of_ble_eq_true rfl) hc18 rfl ?_
        exact fr_iret rfl dX9_scanOne_35 h.1 h.2
    · have h := h.2 hc
      refine fr_iload_n (i := 2) (q := 3) rfl dX9_scanOne_18 rfl ?_
      refine fr_iconst (v := 1) (by decide) dX9_scanOne_19 rfl ?_
      refine fr_iadd dX9_scanOne_20 rfl ?_
      exact fr_iret rfl dX9_scanOne_21 h.1 h.2
theorem wp_X9_scanOne_79 {g : GE} {Z : Zs} {I : Nat → Nat → Int32} {L : Nat → Nat → Int64} {r : Option Value} {M' : Mem} {o : Nat} {u2 : Int32} {u3 : Int32} {s0 : Int32} (k_o : KM Z o 9) (h : (∃ (v1 : Int32), Cl g 1 mu_X9_kindOfSign [.int u3] (Z, I, L) (some (.int v1)) (Z, I, L) ∧ ((s0 = 0 → (∃ (I3 : Nat → Nat → Int32) (L4 : Nat → Nat → Int64), Cl g 2 mu_X9_note [rf g o, .int v1, .int u2, .int 0] (Z, I, L) none (Z, I3, L4) ∧ ((s0 = 0 → (r = some (.int (u2 + 1)) ∧ M' = (Z, I3, L4))) ∧ (¬ s0 = 0 → (r = some (.int (u2 + 2)) ∧ M' = (Z, I3, L4)))))) ∧ (¬ s0 = 0 → (∃ (I6 : Nat → Nat → Int32) (L7 : Nat → Nat → Int64), Cl g 2 mu_X9_note [rf g o, .int (v1 + 1), .int u2, .int 0] (Z, I, L) none (Z, I6, L7) ∧ ((s0 = 0 → (r = some (.int (u2 + 1)) ∧ M' = (Z, I6, L7))) ∧ (¬ s0 = 0 → (r = some (.int (u2 + 2)) ∧ M' = (Z, I6, L7))))))))) : Lp_X9_scanOne_79 g 9 o u2 u3 s0 (Z, I, L) r M' := by
  refine fr_istore (lv' := [(4, .int s0), (0, rf g o), (2, .int u2), (3, .int u3)]) dX9_scanOne_79 rfl (by decide) rfl ?_
  refine fr_iload_n (i := 3) (q := 3) rfl dX9_scanOne_81 rfl ?_
  obtain ⟨v1, hc2, h⟩ := h
  refine fr_callS2 (ν := mu_X9_kindOfSign) (st2 := [.int v1]) (As := [.int u3]) (st := []) (v := (some (.int v1))) (M1 := (Z, I, L)) dX9_scanOne_82 rfl ml_X9_58 mo_X9_kindOfSign ms_X9_kindOfSign (Nat.le_of_ble_eq_true rfl) rfl rfl (Nat.le_of_ble_eq_true rfl) hc2 rfl ?_
  refine fr_istore (lv' := [(5, .int v1), (4, .int s0), (0, rf g o), (2, .int u2), (3, .int u3)]) dX9_scanOne_85 rfl (by decide) rfl ?_
  refine fr_aload_n (i := 0) (q := 2) rfl dX9_scanOne_87 rfl ?_
  refine fr_iload (q := 1) rfl dX9_scanOne_88 rfl ?_
  refine fr_if_eq (tgt := 100) dX9_scanOne_90 (by decide) rfl (fun hc => ?_) (fun hc => ?_)
  · have h := h.1 hc
    refine fr_iload (q := 0) rfl dX9_scanOne_100 rfl ?_
    refine fr_iload_n (i := 2) (q := 3) rfl dX9_scanOne_102 rfl ?_
    refine fr_iconst (v := 0) (by decide) dX9_scanOne_103 rfl ?_
    obtain ⟨I3, L4, hc5, h⟩ := h
    refine fr_callV2 (ν := mu_X9_note) (st2 := []) (As := [.int v1, .int u2, .int 0]) (st := []) (v := none) (M1 := (Z, I3, L4)) dX9_scanOne_104 rfl ml_X9_41 mo_X9_note mi_X9_note (ci := 9) rfl rfl k_o (Nat.le_of_ble_eq_true rfl) rfl rfl (Nat.le_of_ble_eq_true rfl) hc5 rfl ?_
    refine fr_iload (q := 1) rfl dX9_scanOne_107 rfl ?_
    refine fr_if_eq (tgt := 118) dX9_scanOne_109 (by decide) rfl (fun hc => ?_) (fun hc => ?_)
    · have h := h.1 hc
      refine fr_iload_n (i := 2) (q := 3) rfl dX9_scanOne_118 rfl ?_
      refine fr_iconst (v := 1) (by decide) dX9_scanOne_119 rfl ?_
      refine fr_iadd dX9_scanOne_120 rfl ?_
      exact fr_iret rfl dX9_scanOne_121 h.1 h.2
    · have h := h.2 hc
      refine fr_iload_n (i := 2) (q := 3) rfl dX9_scanOne_112 rfl ?_
      refine fr_iconst (v := 2) (by decide) dX9_scanOne_113 rfl ?_
      refine fr_iadd dX9_scanOne_114 rfl ?_
      refine fr_goto (n := 121) dX9_scanOne_115 (by decide) ?_
      exact fr_iret rfl dX9_scanOne_121 h.1 h.2
  · have h := h.2 hc
    refine fr_iload (q := 0) rfl dX9_scanOne_93 rfl ?_
    refine fr_iconst (v := 1) (by decide) dX9_scanOne_95 rfl ?_
    refine fr_iadd dX9_scanOne_96 rfl ?_
    refine fr_goto (n := 102) dX9_scanOne_97 (by decide) ?_
    refine fr_iload_n (i := 2) (q := 3) rfl dX9_scanOne_102 rfl ?_
    refine fr_iconst (v := 0) (by decide) dX9_scanOne_103 rfl ?_
    obtain ⟨I6, L7, hc8, h⟩ := h
    refine fr_callV2 (ν := mu_X9_note) (st2 := []) (As := [.int (v1 + 1), .int u2, .int 0]) (st := []) (v := none) (M1 := (Z, I6, L7)) dX9_scanOne_104 rfl ml_X9_41 mo_X9_note mi_X9_note (ci := 9) rfl rfl k_o (Nat.le_of_ble_eq_true rfl) rfl rfl (Nat.le_of_ble_eq_true rfl) hc8 rfl ?_
    refine fr_iload (q := 1) rfl dX9_scanOne_107 rfl ?_
    refine fr_if_eq (tgt := 118) dX9_scanOne_109 (by decide) rfl (fun hc => ?_) (fun hc => ?_)
    · have h := h.1 hc
      refine fr_iload_n (i := 2) (q := 3) rfl dX9_scanOne_118 rfl ?_
      refine fr_iconst (v := 1) (by decide) dX9_scanOne_119 rfl ?_
      refine fr_iadd dX9_scanOne_120 rfl ?_
      exact fr_iret rfl dX9_scanOne_121 h.1 h.2
    · have h := h.2 hc
      refine fr_iload_n (i := 2) (q := 3) rfl dX9_scanOne_112 rfl ?_
      refine fr_iconst (v := 2) (by decide) dX9_scanOne_113 rfl ?_
      refine fr_iadd dX9_scanOne_114 rfl ?_
      refine fr_goto (n := 121) dX9_scanOne_115 (by decide) ?_
      exact fr_iret rfl dX9_scanOne_121 h.1 h.2
abbrev Lp_X9_scanWord_5 (g : GE) (d : Nat) (o : Nat) (a1 : Nat) (u2 : Int32) (u3 : Int32) (u4 : Int32) (M : Mem) (r : Option Value) (M' : Mem) : Prop := Fr g d mu_X9_scanWord 5 [(0, rf g o), (1, rf g a1), (2, .int u2), (3, .int u3), (4, .int u4)] [] M r M'
theorem cp_X9_scanWord {g : GE} {Z : Zs} {I : Nat → Nat → Int32} {L : Nat → Nat → Int64} {r : Option Value} {M' : Mem} {o : Nat} {a1 : Nat} {x2 : Int32} (k_o : KM Z o 9) (k_a1 : KM Z a1 2) (h : Lp_X9_scanWord_5 g 8 o a1 x2 x2 0 (Z, I, L) r M') : Cl g 8 mu_X9_scanWord [rf g o, rf g a1, .int x2] (Z, I, L) r M' := by
  refine cl_of (lv := [(0, rf g o), (1, rf g a1), (2, .int x2)]) (by decide) (Nat.le_of_ble_eq_true rfl) rfl ?_
  refine fr_iload_n (i := 2) (q := 2) rfl dX9_scanWord_0 rfl ?_
  refine fr_istore_n (i := 3) (lv' := [(3, .int x2), (0, rf g o), (1, rf g a1), (2, .int x2)]) dX9_scanWord_1 rfl (by decide) rfl ?_
  refine fr_iconst (v := 0) (by decide) dX9_scanWord_2 rfl ?_
  refine fr_istore (lv' := [(4, .int 0), (3, .int x2), (0, rf g o), (1, rf g a1), (2, .int x2)]) dX9_scanWord_3 rfl (by decide) rfl ?_
  exact fr_sub [2, 3, 4, 1, 0] rfl h
abbrev Lp_X9_scanWord_39 (g : GE) (d : Nat) (o : Nat) (a1 : Nat) (u2 : Int32) (u3 : Int32) (u4 : Int32) (u5 : Int32) (M : Mem) (r : Option Value) (M' : Mem) : Prop := Fr g d mu_X9_scanWord 39 [(0, rf g o), (1, rf g a1), (2, .int u2), (3, .int u3), (4, .int u4), (5, .int u5)] [] M r M'
theorem wp_X9_scanWord_5 {g : GE} {Z : Zs} {I : Nat → Nat → Int32} {L : Nat → Nat → Int64} {r : Option Value} {M' : Mem} {o : Nat} {a1 : Nat} {u2 : Int32} {u3 : Int32} {u4 : Int32} (k_o : KM Z o 9) (k_a1 : KM Z a1 2) (h : ((300 ≤ u4 → Lp_X9_scanWord_39 g 8 o a1 u2 u3 0 0 (Z, I, L) r M') ∧ (¬ 300 ≤ u4 → (∃ (v1 : Int32), Cl g 1 mu_X2_at [rf g a1, .int u3] (Z, I, L) (some (.int v1)) (Z, I, L) ∧ (∃ (v3 : Int32), Cl g 1 mu_X9_isLetter [.int v1] (Z, I, L) (some (.int v3)) (Z, I, L) ∧ ((v3 = 0 → Lp_X9_scanWord_39 g 8 o a1 u2 u3 0 0 (Z, I, L) r M') ∧ (¬ v3 = 0 → (∀ y5 : Int32, y5 = (u3 + 1) → (∀ y6 : Int32, y6 = (u4 + 1) → Lp_X9_scanWord_5 g 8 o a1 u2 y5 y6 (Z, I, L) r M'))))))))) : Lp_X9_scanWord_5 g 8 o a1 u2 u3 u4 (Z, I, L) r M' := by
  refine fr_iload (q := 4) rfl dX9_scanWord_5 rfl ?_
  refine fr_sipush (v := 300) (by decide) dX9_scanWord_7 rfl ?_
  refine fr_icmp_ge (tgt := 33) dX9_scanWord_10 (by decide) rfl (fun hc => ?_) (fun hc => ?_)
  · have h := h.1 hc
    refine fr_iconst (v := 0) (by decide) dX9_scanWord_33 rfl ?_
    refine fr_istore (lv' := [(4, .int 0), (0, rf g o), (1, rf g a1), (2, .int u2), (3, .int u3)]) dX9_scanWord_34 rfl (by decide) rfl ?_
    refine fr_iconst (v := 0) (by decide) dX9_scanWord_36 rfl ?_
    refine fr_istore (lv' := [(5, .int 0), (4, .int 0), (0, rf g o), (1, rf g a1), (2, .int u2), (3, .int u3)]) dX9_scanWord_37 rfl (by decide) rfl ?_
    exact fr_sub [2, 3, 4, 5, 1, 0] rfl h
  · have h := h.2 hc
    refine fr_aload_n (i := 1) (q := 1) rfl dX9_scanWord_13 rfl ?_
    refine fr_iload_n (i := 3) (q := 3) rfl dX9_scanWord_14 rfl ?_
    obtain ⟨v1, hc2, h⟩ := h
    refine fr_callV2 (ν := mu_X2_at) (st2 := [.int v1]) (As := [.int u3]) (st := []) (v := (some (.int v1))) (M1 := (Z, I, L)) dX9_scanWord_15 rfl ml_X9_30 mo_X2_at mi_X2_at (ci := 2) rfl rfl k_a1 (Nat.le_of_ble_eq_true rfl) rfl rfl (Nat.le_of_ble_eq_true rfl) hc2 rfl ?_
    obtain ⟨v3, hc4, h⟩ := h
    refine fr_callS2 (ν := mu_X9_isLetter) (st2 := [.int v3]) (As := [.int v1]) (st := []) (v := (some (.int v3))) (M1 := (Z, I, L)) dX9_scanWord_18 rfl ml_X9_45 mo_X9_isLetter ms_X9_isLetter (Nat.le_of_ble_eq_true rfl) rfl rfl (Nat.le_of_ble_eq_true rfl) hc4 rfl ?_
    refine fr_if_eq (tgt := 33) dX9_scanWord_21 (by decide) rfl (fun hc => ?_) (fun hc => ?_)
    · have h := h.1 hc
      refine fr_iconst (v := 0) (by decide) dX9_scanWord_33 rfl ?_
      refine fr_istore (lv' := [(4, .int 0), (0, rf g o), (1, rf g a1), (2, .int u2), (3, .int u3)]) dX9_scanWord_34 rfl (by decide) rfl ?_
      refine fr_iconst (v := 0) (by decide) dX9_scanWord_36 rfl ?_
      refine fr_istore (lv' := [(5, .int 0), (4, .int 0), (0, rf g o), (1, rf g a1), (2, .int u2), (3, .int u3)]) dX9_scanWord_37 rfl (by decide) rfl ?_
      exact fr_sub [2, 3, 4, 5, 1, 0] rfl h
    · have h := h.2 hc
      obtain ⟨y5, hy5⟩ : ∃ y : Int32, y = u3 + 1 := ⟨_, rfl⟩
      have h := h y5 hy5
      refine fr_iinc (q := 3) (v := y5) (lv' := [(3, .int y5), (0, rf g o), (1, rf g a1), (2, .int u2), (4, .int u4)]) rfl (by rw [hy5]; rfl) dX9_scanWord_24 rfl (by decide) rfl ?_
      obtain ⟨y6, hy6⟩ : ∃ y : Int32, y = u4 + 1 := ⟨_, rfl⟩
      have h := h y6 hy6
      refine fr_iinc (q := 4) (v := y6) (lv' := [(4, .int y6), (3, .int y5), (0, rf g o), (1, rf g a1), (2, .int u2)]) rfl (by rw [hy6]; rfl) dX9_scanWord_27 rfl (by decide) rfl ?_
      refine fr_goto (n := 5) dX9_scanWord_30 (by decide) ?_
      exact fr_sub [2, 3, 4, 1, 0] rfl h
theorem wp_X9_scanWord_39 {g : GE} {Z : Zs} {I : Nat → Nat → Int32} {L : Nat → Nat → Int64} {r : Option Value} {M' : Mem} {o : Nat} {a1 : Nat} {u2 : Int32} {u3 : Int32} {u4 : Int32} {u5 : Int32} (k_o : KM Z o 9) (k_a1 : KM Z a1 2) (h : ((19 ≤ u5 → ((11 ≤ u4 → ((19 ≤ u4 → (∃ (I1 : Nat → Nat → Int32) (L2 : Nat → Nat → Int64), Cl g 2 mu_X9_note [rf g o, .int 36, .int u2, .int 0] (Z, I, L) none (Z, I1, L2) ∧ (r = some (.int u3) ∧ M' = (Z, I1, L2)))) ∧ (¬ 19 ≤ u4 → (∃ (I4 : Nat → Nat → Int32) (L5 : Nat → Nat → Int64), Cl g 2 mu_X9_note [rf g o, .int u4, .int u2, .int 0] (Z, I, L) none (Z, I4, L5) ∧ (r = some (.int u3) ∧ M' = (Z, I4, L5)))))) ∧ (¬ 11 ≤ u4 → (∃ (I7 : Nat → Nat → Int32) (L8 : Nat → Nat → Int64), Cl g 2 mu_X9_note [rf g o, .int 20, .int u2, .int u4] (Z, I, L) none (Z, I7, L8) ∧ (r = some (.int u3) ∧ M' = (Z, I7, L8)))))) ∧ (¬ 19 ≤ u5 → (∃ (v10 : Nat), Cl g 1 mu_X9_spelling [.int u4] (Z, I, L) (some (.ref (gK g v10))) (Z, I, L) ∧ (v10 < 20 ∧ (∃ (v13 : Int32) (I14 : Nat → Nat → Int32) (L15 : Nat → Nat → Int64), Cl g 7 mu_X9_isSpelled [rf g a1, .int u2, .int u3, .ref (gK g v10)] (Z, I, L) (some (.int v13)) (Z, I14, L15) ∧ ((¬ v13 = 0 → ((11 ≤ u4 → ((19 ≤ u4 → (∃ (I17 : Nat → Nat → Int32) (L18 : Nat → Nat → Int64), Cl g 2 mu_X9_note [rf g o, .int 36, .int u2, .int 0] (Z, I14, L15) none (Z, I17, L18) ∧ (r = some (.int u3) ∧ M' = (Z, I17, L18)))) ∧ (¬ 19 ≤ u4 → (∃ (I20 : Nat → Nat → Int32) (L21 : Nat → Nat → Int64), Cl g 2 mu_X9_note [rf g o, .int u4, .int u2, .int 0] (Z, I14, L15) none (Z, I20, L21) ∧ (r = some (.int u3) ∧ M' = (Z, I20, L21)))))) ∧ (¬ 11 ≤ u4 → (∃ (I23 : Nat → Nat → Int32) (L24 : Nat → Nat → Int64), Cl g 2 mu_X9_note [rf g o, .int 20, .int u2, .int u4] (Z, I14, L15) none (Z, I23, L24) ∧ (r = some (.int u3) ∧ M' = (Z, I23, L24)))))) ∧ (v13 = 0 → (∀ y26 : Int32, y26 = (u4 + 1) → (∀ y27 : Int32, y27 = (u5 + 1) → Lp_X9_scanWord_39 g 8 o a1 u2 u3 y26 y27 (Z, I14, L15) r M')))))))))) : Lp_X9_scanWord_39 g 8 o a1 u2 u3 u4 u5 (Z, I, L) r M' := by
  refine fr_iload (q := 5) rfl dX9_scanWord_39 rfl ?_
  refine fr_bipush (v := 19) (by decide) dX9_scanWord_41 rfl ?_
  refine fr_icmp_ge (tgt := 69) dX9_scanWord_43 (by decide) rfl (fun hc => ?_) (fun hc => ?_)
  · have h := h.1 hc
    refine fr_iload (q := 4) rfl dX9_scanWord_69 rfl ?_
    refine fr_bipush (v := 11) (by decide) dX9_scanWord_71 rfl ?_
    refine fr_icmp_ge (tgt := 88) dX9_scanWord_73 (by decide) rfl (fun hc => ?_) (fun hc => ?_)
    · have h := h.1 hc
      refine fr_aload_n (i := 0) (q := 0) rfl dX9_scanWord_88 rfl ?_
      refine fr_iload (q := 4) rfl dX9_scanWord_89 rfl ?_
      refine fr_bipush (v := 19) (by decide) dX9_scanWord_91 rfl ?_
      refine fr_icmp_ge (tgt := 101) dX9_scanWord_93 (by decide) rfl (fun hc => ?_) (fun hc => ?_)
      · have h := h.1 hc
        refine fr_bipush (v := 36) (by decide) dX9_scanWord_101 rfl ?_
        refine fr_iload_n (i := 2) (q := 2) rfl dX9_scanWord_103 rfl ?_
        refine fr_iconst (v := 0) (by decide) dX9_scanWord_104 rfl ?_
        obtain ⟨I1, L2, hc3, h⟩ := h
        refine fr_callV2 (ν := mu_X9_note) (st2 := []) (As := [.int 36, .int u2, .int 0]) (st := []) (v := none) (M1 := (Z, I1, L2)) dX9_scanWord_105 rfl ml_X9_41 mo_X9_note mi_X9_note (ci := 9) rfl rfl k_o (Nat.le_of_ble_eq_true rfl) rfl rfl (Nat.le_of_ble_eq_true rfl) hc3 rfl ?_
        refine fr_iload_n (i := 3) (q := 3) rfl dX9_scanWord_108 rfl ?_
        exact fr_iret rfl dX9_scanWord_109 h.1 h.2
      · have h := h.2 hc
        refine fr_iload (q := 4) rfl dX9_scanWord_96 rfl ?_
        refine fr_goto (n := 103) dX9_scanWord_98 (by decide) ?_
        refine fr_iload_n (i := 2) (q := 2) rfl dX9_scanWord_103 rfl ?_
        refine fr_iconst (v := 0) (by decide) dX9_scanWord_104 rfl ?_
        obtain ⟨I4, L5, hc6, h⟩ := h
        refine fr_callV2 (ν := mu_X9_note) (st2 := []) (As := [.int u4, .int u2, .int 0]) (st := []) (v := none) (M1 := (Z, I4, L5)) dX9_scanWord_105 rfl ml_X9_41 mo_X9_note mi_X9_note (ci := 9) rfl rfl k_o (Nat.le_of_ble_eq_true rfl) rfl rfl (Nat.le_of_ble_eq_true rfl) hc6 rfl ?_
        refine fr_iload_n (i := 3) (q := 3) rfl dX9_scanWord_108 rfl ?_
        exact fr_iret rfl dX9_scanWord_109 h.1 h.2
    · have h := h.2 hc
      refine fr_aload_n (i := 0) (q := 0) rfl dX9_scanWord_76 rfl ?_
      refine fr_bipush (v := 20) (by decide) dX9_scanWord_77 rfl ?_
      refine fr_iload_n (i := 2) (q := 2) rfl dX9_scanWord_79 rfl ?_
      refine fr_iload (q := 4) rfl dX9_scanWord_80 rfl ?_
      obtain ⟨I7, L8, hc9, h⟩ := h
      refine fr_callV2 (ν := mu_X9_note) (st2 := []) (As := [.int 20, .int u2, .int u4]) (st := []) (v := none) (M1 := (Z, I7, L8)) dX9_scanWord_82 rfl ml_X9_41 mo_X9_note mi_X9_note (ci := 9) rfl rfl k_o (Nat.le_of_ble_eq_true rfl) rfl rfl (Nat.le_of_ble_eq_true rfl) hc9 rfl ?_
      refine fr_goto (n := 108) dX9_scanWord_85 (by decide) ?_
      refine fr_iload_n (i := 3) (q := 3) rfl dX9_scanWord_108 rfl ?_
      exact fr_iret rfl dX9_scanWord_109 h.1 h.2
  · have h := h.2 hc
    refine fr_aload_n (i := 1) (q := 1) rfl dX9_scanWord_46 rfl ?_
    refine fr_iload_n (i := 2) (q := 2) rfl dX9_scanWord_47 rfl ?_
    refine fr_iload_n (i := 3) (q := 3) rfl dX9_scanWord_48 rfl ?_
    refine fr_iload (q := 4) rfl dX9_scanWord_49 rfl ?_
    obtain ⟨v10, hc11, h⟩ := h
    obtain ⟨hz12, h⟩ := h
    refine fr_callS2 (ν := mu_X9_spelling) (st2 := [.ref (gK g v10), .int u3, .int u2, rf g a1]) (As := [.int u4]) (st := [.int u3, .int u2, rf g a1]) (v := (some (.ref (gK g v10)))) (M1 := (Z, I, L)) dX9_scanWord_51 rfl ml_X9_61 mo_X9_spelling ms_X9_spelling (Nat.le_of_ble_eq_true rfl) rfl rfl (Nat.le_of_ble_eq_true rfl) hc11 rfl ?_
    obtain ⟨v13, I14, L15, hc16, h⟩ := h
    refine fr_callS2 (ν := mu_X9_isSpelled) (st2 := [.int v13]) (As := [rf g a1, .int u2, .int u3, .ref (gK g v10)]) (st := []) (v := (some (.int v13))) (M1 := (Z, I14, L15)) dX9_scanWord_54 rfl ml_X9_65 mo_X9_isSpelled ms_X9_isSpelled (Nat.le_of_ble_eq_true rfl) rfl rfl (Nat.le_of_ble_eq_true rfl) hc16 rfl ?_
    refine fr_if_ne (tgt := 69) dX9_scanWord_57 (by decide) rfl (fun hc => ?_) (fun hc => ?_)
    · have h := h.1 hc
      refine fr_iload (q := 4) rfl dX9_scanWord_69 rfl ?_
      refine fr_bipush (v := 11) (by decide) dX9_scanWord_71 rfl ?_
      refine fr_icmp_ge (tgt := 88) dX9_scanWord_73 (by decide) rfl (fun hc => ?_) (fun hc => ?_)
      · have h := h.1 hc
        refine fr_aload_n (i := 0) (q := 0) rfl dX9_scanWord_88 rfl ?_
        refine fr_iload (q := 4) rfl dX9_scanWord_89 rfl ?_
        refine fr_bipush (v := 19) (by decide) dX9_scanWord_91 rfl ?_
        refine fr_icmp_ge (tgt := 101) dX9_scanWord_93 (by decide) rfl (fun hc => ?_) (fun hc => ?_)
        · have h := h.1 hc
          refine fr_bipush (v := 36) (by decide) dX9_scanWord_101 rfl ?_
          refine fr_iload_n (i := 2) (q := 2) rfl dX9_scanWord_103 rfl ?_
          refine fr_iconst (v := 0) (by decide) dX9_scanWord_104 rfl ?_
          obtain ⟨I17, L18, hc19, h⟩ := h
          refine fr_callV2 (ν := mu_X9_note) (st2 := []) (As := [.int 36, .int u2, .int 0]) (st := []) (v := none) (M1 := (Z, I17, L18)) dX9_scanWord_105 rfl ml_X9_41 mo_X9_note mi_X9_note (ci := 9) rfl rfl k_o (Nat.le_of_ble_eq_true rfl) rfl rfl (Nat.le_of_ble_eq_true rfl) hc19 rfl ?_
          refine fr_iload_n (i := 3) (q := 3) rfl dX9_scanWord_108 rfl ?_
          exact fr_iret rfl dX9_scanWord_109 h.1 h.2
        · have h := h.2 hc
          refine fr_iload (q := 4) rfl dX9_scanWord_96 rfl ?_
          refine fr_goto (n := 103) dX9_scanWord_98 (by decide) ?_
          refine fr_iload_n (i := 2) (q := 2) rfl dX9_scanWord_103 rfl ?_
          refine fr_iconst (v := 0) (by decide) dX9_scanWord_104 rfl ?_
          obtain ⟨I20, L21, hc22, h⟩ := h
          refine fr_callV2 (ν := mu_X9_note) (st2 := []) (As := [.int u4, .int u2, .int 0]) (st := []) (v := none) (M1 := (Z, I20, L21)) dX9_scanWord_105 rfl ml_X9_41 mo_X9_note mi_X9_note (ci := 9) rfl rfl k_o (Nat.le_of_ble_eq_true rfl) rfl rfl (Nat.le_of_ble_eq_true rfl) hc22 rfl ?_
          refine fr_iload_n (i := 3) (q := 3) rfl dX9_scanWord_108 rfl ?_
          exact fr_iret rfl dX9_scanWord_109 h.1 h.2
      · have h := h.2 hc
        refine fr_aload_n (i := 0) (q := 0) rfl dX9_scanWord_76 rfl ?_
        refine fr_bipush (v := 20) (by decide) dX9_scanWord_77 rfl ?_
        refine fr_iload_n (i := 2) (q := 2) rfl dX9_scanWord_79 rfl ?_
        refine fr_iload (q := 4) rfl dX9_scanWord_80 rfl ?_
        obtain ⟨I23, L24, hc25, h⟩ := h
        refine fr_callV2 (ν := mu_X9_note) (st2 := []) (As := [.int 20, .int u2, .int u4]) (st := []) (v := none) (M1 := (Z, I23, L24)) dX9_scanWord_82 rfl ml_X9_41 mo_X9_note mi_X9_note (ci := 9) rfl rfl k_o (Nat.le_of_ble_eq_true rfl) rfl rfl (Nat.le_of_ble_eq_true rfl) hc25 rfl ?_
        refine fr_goto (n := 108) dX9_scanWord_85 (by decide) ?_
        refine fr_iload_n (i := 3) (q := 3) rfl dX9_scanWord_108 rfl ?_
        exact fr_iret rfl dX9_scanWord_109 h.1 h.2
    · have h := h.2 hc
      obtain ⟨y26, hy26⟩ : ∃ y : Int32, y = u4 + 1 := ⟨_, rfl⟩
      have h := h y26 hy26
      refine fr_iinc (q := 4) (v := y26) (lv' := [(4, .int y26), (0, rf g o), (1, rf g a1), (2, .int u2), (3, .int u3), (5, .int u5)]) rfl (by rw [hy26]; rfl) dX9_scanWord_60 rfl (by decide) rfl ?_
      obtain ⟨y27, hy27⟩ : ∃ y : Int32, y = u5 + 1 := ⟨_, rfl⟩
      have h := h y27 hy27
      refine fr_iinc (q := 5) (v := y27) (lv' := [(5, .int y27), (4, .int y26), (0, rf g o), (1, rf g a1), (2, .int u2), (3, .int u3)]) rfl (by rw [hy27]; rfl) dX9_scanWord_63 rfl (by decide) rfl ?_
      refine fr_goto (n := 39) dX9_scanWord_66 (by decide) ?_
      exact fr_sub [2, 3, 4, 5, 1, 0] rfl h
abbrev Lp_X9_scanNumber_8 (g : GE) (d : Nat) (o : Nat) (a1 : Nat) (u2 : Int32) (u3 : Int32) (u4 : Int32) (u5 : Int32) (M : Mem) (r : Option Value) (M' : Mem) : Prop := Fr g d mu_X9_scanNumber 8 [(0, rf g o), (1, rf g a1), (2, .int u2), (3, .int u3), (4, .int u4), (5, .int u5)] [] M r M'
theorem cp_X9_scanNumber {g : GE} {Z : Zs} {I : Nat → Nat → Int32} {L : Nat → Nat → Int64} {r : Option Value} {M' : Mem} {o : Nat} {a1 : Nat} {x2 : Int32} (k_o : KM Z o 9) (k_a1 : KM Z a1 2) (h : Lp_X9_scanNumber_8 g 3 o a1 x2 x2 0 0 (Z, I, L) r M') : Cl g 3 mu_X9_scanNumber [rf g o, rf g a1, .int x2] (Z, I, L) r M' := by
  refine cl_of (lv := [(0, rf g o), (1, rf g a1), (2, .int x2)]) (by decide) (Nat.le_of_ble_eq_true rfl) rfl ?_
  refine fr_iload_n (i := 2) (q := 2) rfl dX9_scanNumber_0 rfl ?_
  refine fr_istore_n (i := 3) (lv' := [(3, .int x2), (0, rf g o), (1, rf g a1), (2, .int x2)]) dX9_scanNumber_1 rfl (by decide) rfl ?_
  refine fr_iconst (v := 0) (by decide) dX9_scanNumber_2 rfl ?_
  refine fr_istore (lv' := [(4, .int 0), (3, .int x2), (0, rf g o), (1, rf g a1), (2, .int x2)]) dX9_scanNumber_3 rfl (by decide) rfl ?_
  refine fr_iconst (v := 0) (by decide) dX9_scanNumber_5 rfl ?_
  refine fr_istore (lv' := [(5, .int 0), (4, .int 0), (3, .int x2), (0, rf g o), (1, rf g a1), (2, .int x2)]) dX9_scanNumber_6 rfl (by decide) rfl ?_
  exact fr_sub [3, 4, 5, 2, 1, 0] rfl h
theorem wp_X9_scanNumber_8 {g : GE} {Z : Zs} {I : Nat → Nat → Int32} {L : Nat → Nat → Int64} {r : Option Value} {M' : Mem} {o : Nat} {a1 : Nat} {u2 : Int32} {u3 : Int32} {u4 : Int32} {u5 : Int32} (k_o : KM Z o 9) (k_a1 : KM Z a1 2) (h : ((300 ≤ u5 → (∃ (I1 : Nat → Nat → Int32) (L2 : Nat → Nat → Int64), Cl g 2 mu_X9_note [rf g o, .int 19, .int u2, .int u4] (Z, I, L) none (Z, I1, L2) ∧ (r = some (.int u3) ∧ M' = (Z, I1, L2)))) ∧ (¬ 300 ≤ u5 → (∃ (v4 : Int32), Cl g 1 mu_X2_at [rf g a1, .int u3] (Z, I, L) (some (.int v4)) (Z, I, L) ∧ (∃ (v6 : Int32), Cl g 1 mu_X9_isDigit [.int v4] (Z, I, L) (some (.int v6)) (Z, I, L) ∧ ((v6 = 0 → (∃ (I8 : Nat → Nat → Int32) (L9 : Nat → Nat → Int64), Cl g 2 mu_X9_note [rf g o, .int 19, .int u2, .int u4] (Z, I, L) none (Z, I8, L9) ∧ (r = some (.int u3) ∧ M' = (Z, I8, L9)))) ∧ (¬ v6 = 0 → (∃ (v11 : Int32), Cl g 1 mu_X2_at [rf g a1, .int u3] (Z, I, L) (some (.int v11)) (Z, I, L) ∧ (∀ y13 : Int32, y13 = (if (((10 * u4) + v11) - 48) < 10000 then (((10 * u4) + v11) - 48) else 10000) → (∀ y14 : Int32, y14 = (u3 + 1) → (∀ y15 : Int32, y15 = (u5 + 1) → Lp_X9_scanNumber_8 g 3 o a1 u2 y14 y13 y15 (Z, I, L) r M'))))))))))) : Lp_X9_scanNumber_8 g 3 o a1 u2 u3 u4 u5 (Z, I, L) r M' := by
  refine fr_iload (q := 5) rfl dX9_scanNumber_8 rfl ?_
  refine fr_sipush (v := 300) (by decide) dX9_scanNumber_10 rfl ?_
  refine fr_icmp_ge (tgt := 58) dX9_scanNumber_13 (by decide) rfl (fun hc => ?_) (fun hc => ?_)
  · have h := h.1 hc
    refine fr_aload_n (i := 0) (q := 0) rfl dX9_scanNumber_58 rfl ?_
    refine fr_bipush (v := 19) (by decide) dX9_scanNumber_59 rfl ?_
    refine fr_iload_n (i := 2) (q := 2) rfl dX9_scanNumber_61 rfl ?_
    refine fr_iload (q := 4) rfl dX9_scanNumber_62 rfl ?_
    obtain ⟨I1, L2, hc3, h⟩ := h
    refine fr_callV2 (ν := mu_X9_note) (st2 := []) (As := [.int 19, .int u2, .int u4]) (st := []) (v := none) (M1 := (Z, I1, L2)) dX9_scanNumber_64 rfl ml_X9_41 mo_X9_note mi_X9_note (ci := 9) rfl rfl k_o (Nat.le_of_ble_eq_true rfl) rfl rfl (Nat.le_of_ble_eq_true rfl) hc3 rfl ?_
    refine fr_iload_n (i := 3) (q := 3) rfl dX9_scanNumber_67 rfl ?_
    exact fr_iret rfl dX9_scanNumber_68 h.1 h.2
  · have h := h.2 hc
    refine fr_aload_n (i := 1) (q := 1) rfl dX9_scanNumber_16 rfl ?_
    refine fr_iload_n (i := 3) (q := 3) rfl dX9_scanNumber_17 rfl ?_
    obtain ⟨v4, hc5, h⟩ := h
    refine fr_callV2 (ν := mu_X2_at) (st2 := [.int v4]) (As := [.int u3]) (st := []) (v := (some (.int v4))) (M1 := (Z, I, L)) dX9_scanNumber_18 rfl ml_X9_30 mo_X2_at mi_X2_at (ci := 2) rfl rfl k_a1 (Nat.le_of_ble_eq_true rfl) rfl rfl (Nat.le_of_ble_eq_true rfl) hc5 rfl ?_
    obtain ⟨v6, hc7, h⟩ := h
    refine fr_callS2 (ν := mu_X9_isDigit) (st2 := [.int v6]) (As := [.int v4]) (st := []) (v := (some (.int v6))) (M1 := (Z, I, L)) dX9_scanNumber_21 rfl ml_X9_52 mo_X9_isDigit ms_X9_isDigit (Nat.le_of_ble_eq_true rfl) rfl rfl (Nat.le_of_ble_eq_true rfl) hc7 rfl ?_
    refine fr_if_eq (tgt := 58) dX9_scanNumber_24 (by decide) rfl (fun hc => ?_) (fun hc => ?_)
    · have h := h.1 hc
      refine fr_aload_n (i := 0) (q := 0) rfl dX9_scanNumber_58 rfl ?_
      refine fr_bipush (v := 19) (by decide) dX9_scanNumber_59 rfl ?_
      refine fr_iload_n (i := 2) (q := 2) rfl dX9_scanNumber_61 rfl ?_
      refine fr_iload (q := 4) rfl dX9_scanNumber_62 rfl ?_
      obtain ⟨I8, L9, hc10, h⟩ := h
      refine fr_callV2 (ν := mu_X9_note) (st2 := []) (As := [.int 19, .int u2, .int u4]) (st := []) (v := none) (M1 := (Z, I8, L9)) dX9_scanNumber_64 rfl ml_X9_41 mo_X9_note mi_X9_note (ci := 9) rfl rfl k_o (Nat.le_of_ble_eq_true rfl) rfl rfl (Nat.le_of_ble_eq_true rfl) hc10 rfl ?_
      refine fr_iload_n (i := 3) (q := 3) rfl dX9_scanNumber_67 rfl ?_
      exact fr_iret rfl dX9_scanNumber_68 h.1 h.2
    · have h := h.2 hc
      refine fr_sipush (v := 10000) (by decide) dX9_scanNumber_27 rfl ?_
      refine fr_bipush (v := 10) (by decide) dX9_scanNumber_30 rfl ?_
      refine fr_iload (q := 4) rfl dX9_scanNumber_32 rfl ?_
      refine fr_imul dX9_scanNumber_34 rfl ?_
      refine fr_aload_n (i := 1) (q := 1) rfl dX9_scanNumber_35 rfl ?_
      refine fr_iload_n (i := 3) (q := 3) rfl dX9_scanNumber_36 rfl ?_
      obtain ⟨v11, hc12, h⟩ := h
      refine fr_callV2 (ν := mu_X2_at) (st2 := [.int v11, .int (10 * u4), .int 10000]) (As := [.int u3]) (st := [.int (10 * u4), .int 10000]) (v := (some (.int v11))) (M1 := (Z, I, L)) dX9_scanNumber_37 rfl ml_X9_30 mo_X2_at mi_X2_at (ci := 2) rfl rfl k_a1 (Nat.le_of_ble_eq_true rfl) rfl rfl (Nat.le_of_ble_eq_true rfl) hc12 rfl ?_
      refine fr_iadd dX9_scanNumber_40 rfl ?_
      refine fr_bipush (v := 48) (by decide) dX9_scanNumber_41 rfl ?_
      refine fr_isub dX9_scanNumber_43 rfl ?_
      refine fr_mmin dX9_scanNumber_44 rfl ml_X9_69 w_mmin (Nat.le_of_ble_eq_true rfl) (Nat.le_of_ble_eq_true rfl) ?_
      refine fr_topi (fun y13 hy13 => ?_)
      have h := h y13 hy13
      refine fr_istore (lv' := [(4, .int y13), (0, rf g o), (1, rf g a1), (2, .int u2), (3, .int u3), (5, .int u5)]) dX9_scanNumber_47 rfl (by decide) rfl ?_
      obtain ⟨y14, hy14⟩ : ∃ y : Int32, y = u3 + 1 := ⟨_, rfl⟩
      have h := h y14 hy14
      refine fr_iinc (q := 4) (v := y14) (lv' := [(3, .int y14), (4, .int y13), (0, rf g o), (1, rf g a1), (2, .int u2), (5, .int u5)]) rfl (by rw [hy14]; rfl) dX9_scanNumber_49 rfl (by decide) rfl ?_
      obtain ⟨y15, hy15⟩ : ∃ y : Int32, y = u5 + 1 := ⟨_, rfl⟩
      have h := h y15 hy15
      refine fr_iinc (q := 5) (v := y15) (lv' := [(5, .int y15), (3, .int y14), (4, .int y13), (0, rf g o), (1, rf g a1), (2, .int u2)]) rfl (by rw [hy15]; rfl) dX9_scanNumber_52 rfl (by decide) rfl ?_
      refine fr_goto (n := 8) dX9_scanNumber_55 (by decide) ?_
      exact fr_sub [3, 4, 5, 1, 2, 0] rfl h
theorem cp_X9_note {g : GE} {Z : Zs} {I : Nat → Nat → Int32} {L : Nat → Nat → Int64} {r : Option Value} {M' : Mem} {o : Nat} {x1 : Int32} {x2 : Int32} {x3 : Int32} {o_kinds : Nat} {o_places : Nat} {o_values : Nat} (k_o : KM Z o 9) (r_o_kinds : Z.2.1 o 0 = some o_kinds) (k_o_kinds : KM Z o_kinds 2) (r_o_places : Z.2.1 o 1 = some o_places) (k_o_places : KM Z o_places 2) (r_o_values : Z.2.1 o 2 = some o_values) (k_o_values : KM Z o_values 2) (h : (∃ (I1 : Nat → Nat → Int32) (L2 : Nat → Nat → Int64), Cl g 1 mu_X2_add [rf g o_kinds, .int x1] (Z, I, L) none (Z, I1, L2) ∧ (∃ (I4 : Nat → Nat → Int32) (L5 : Nat → Nat → Int64), Cl g 1 mu_X2_add [rf g o_places, .int x2] (Z, I1, L2) none (Z, I4, L5) ∧ (∃ (I7 : Nat → Nat → Int32) (L8 : Nat → Nat → Int64), Cl g 1 mu_X2_add [rf g o_values, .int x3] (Z, I4, L5) none (Z, I7, L8) ∧ (r = none ∧ M' = (Z, I7, L8)))))) : Cl g 2 mu_X9_note [rf g o, .int x1, .int x2, .int x3] (Z, I, L) r M' := by
  refine cl_of (lv := [(0, rf g o), (1, .int x1), (2, .int x2), (3, .int x3)]) (by decide) (Nat.le_of_ble_eq_true rfl) rfl ?_
  refine fr_aload_n (i := 0) (q := 0) rfl dX9_note_0 rfl ?_
  refine fr_getR dX9_note_1 rfl fl_X9_14 k_o r_o_kinds ?_
  refine fr_iload_n (i := 1) (q := 1) rfl dX9_note_4 rfl ?_
  obtain ⟨I1, L2, hc3, h⟩ := h
  refine fr_callV2 (ν := mu_X2_add) (st2 := []) (As := [.int x1]) (st := []) (v := none) (M1 := (Z, I1, L2)) dX9_note_5 rfl ml_X9_75 mo_X2_add mi_X2_add (ci := 2) rfl rfl k_o_kinds (Nat.le_of_ble_eq_true rfl) rfl rfl (Nat.le_of_ble_eq_true rfl) hc3 rfl ?_
  refine fr_aload_n (i := 0) (q := 0) rfl dX9_note_8 rfl ?_
  refine fr_getR dX9_note_9 rfl fl_X9_20 k_o r_o_places ?_
  refine fr_iload_n (i := 2) (q := 2) rfl dX9_note_12 rfl ?_
  obtain ⟨I4, L5, hc6, h⟩ := h
  refine fr_callV2 (ν := mu_X2_add) (st2 := []) (As := [.int x2]) (st := []) (v := none) (M1 := (Z, I4, L5)) dX9_note_13 rfl ml_X9_75 mo_X2_add mi_X2_add (ci := 2) rfl rfl k_o_places (Nat.le_of_ble_eq_true rfl) rfl rfl (Nat.le_of_ble_eq_true rfl) hc6 rfl ?_
  refine fr_aload_n (i := 0) (q := 0) rfl dX9_note_16 rfl ?_
  refine fr_getR dX9_note_17 rfl fl_X9_23 k_o r_o_values ?_
  refine fr_iload_n (i := 3) (q := 3) rfl dX9_note_20 rfl ?_
  obtain ⟨I7, L8, hc9, h⟩ := h
  refine fr_callV2 (ν := mu_X2_add) (st2 := []) (As := [.int x3]) (st := []) (v := none) (M1 := (Z, I7, L8)) dX9_note_21 rfl ml_X9_75 mo_X2_add mi_X2_add (ci := 2) rfl rfl k_o_values (Nat.le_of_ble_eq_true rfl) rfl rfl (Nat.le_of_ble_eq_true rfl) hc9 rfl ?_
  exact fr_vret rfl dX9_note_24 h.1 h.2
theorem cp_X9_isLetter {g : GE} {Z : Zs} {I : Nat → Nat → Int32} {L : Nat → Nat → Int64} {r : Option Value} {M' : Mem} {x0 : Int32}  (h : ((x0 < 97 → ((x0 < 65 → (r = some (.int 0) ∧ M' = (Z, I, L))) ∧ (¬ x0 < 65 → ((90 < x0 → (r = some (.int 0) ∧ M' = (Z, I, L))) ∧ (¬ 90 < x0 → (r = some (.int 1) ∧ M' = (Z, I, L))))))) ∧ (¬ x0 < 97 → ((x0 ≤ 122 → (r = some (.int 1) ∧ M' = (Z, I, L))) ∧ (¬ x0 ≤ 122 → ((x0 < 65 → (r = some (.int 0) ∧ M' = (Z, I, L))) ∧ (¬ x0 < 65 → ((90 < x0 → (r = some (.int 0) ∧ M' = (Z, I, L))) ∧ (¬ 90 < x0 → (r = some (.int 1) ∧ M' = (Z, I, L))))))))))) : Cl g 1 mu_X9_isLetter [.int x0] (Z, I, L) r M' := by
  refine cl_of (lv := [(0, .int x0)]) (by decide) (Nat.le_of_ble_eq_true rfl) rfl ?_
  refine fr_iload_n (i := 0) (q := 0) rfl dX9_isLetter_0 rfl ?_
  refine fr_bipush (v := 97) (by decide) dX9_isLetter_1 rfl ?_
  refine fr_icmp_lt (tgt := 12) dX9_isLetter_3 (by decide) rfl (fun hc => ?_) (fun hc => ?_)
  · have h := h.1 hc
    refine fr_iload_n (i := 0) (q := 0) rfl dX9_isLetter_12 rfl ?_
    refine fr_bipush (v := 65) (by decide) dX9_isLetter_13 rfl ?_
    refine fr_icmp_lt (tgt := 28) dX9_isLetter_15 (by decide) rfl (fun hc => ?_) (fun hc => ?_)
    · have h := h.1 hc
      refine fr_iconst (v := 0) (by decide) dX9_isLetter_28 rfl ?_
      exact fr_zret (by decide) rfl dX9_isLetter_29 h.1 h.2
    · have h := h.2 hc
      refine fr_iload_n (i := 0) (q := 0) rfl dX9_isLetter_18 rfl ?_
      refine fr_bipush (v := 90) (by decide) dX9_isLetter_19 rfl ?_
      refine fr_icmp_gt (tgt := 28) dX9_isLetter_21 (by decide) rfl (fun hc => ?_) (fun hc => ?_)
      · have h := h.1 hc
        refine fr_iconst (v := 0) (by decide) dX9_isLetter_28 rfl ?_
        exact fr_zret (by decide) rfl dX9_isLetter_29 h.1 h.2
      · have h := h.2 hc
        refine fr_iconst (v := 1) (by decide) dX9_isLetter_24 rfl ?_
        refine fr_goto (n := 29) dX9_isLetter_25 (by decide) ?_
        exact fr_zret (by decide) rfl dX9_isLetter_29 h.1 h.2
  · have h := h.2 hc
    refine fr_iload_n (i := 0) (q := 0) rfl dX9_isLetter_6 rfl ?_
    refine fr_bipush (v := 122) (by decide) dX9_isLetter_7 rfl ?_
    refine fr_icmp_le (tgt := 24) dX9_isLetter_9 (by decide) rfl (fun hc => ?_) (fun hc => ?_)
    · have h := h.1 hc
      refine fr_iconst (v := 1) (by decide) dX9_isLetter_24 rfl ?_
      refine fr_goto (n := 29) dX9_isLetter_25 (by decide) ?_
      exact fr_zret (by decide) rfl dX9_isLetter_29 h.1 h.2
    · have h := h.2 hc
      refine fr_iload_n (i := 0) (q := 0) rfl dX9_isLetter_12 rfl ?_
      refine fr_bipush (v := 65) (by decide) dX9_isLetter_13 rfl ?_
      refine fr_icmp_lt (tgt := 28) dX9_isLetter_15 (by decide) rfl (fun hc => ?_) (fun hc => ?_)
      · have h := h.1 hc
        refine fr_iconst (v := 0) (by decide) dX9_isLetter_28 rfl ?_
        exact fr_zret (by decide) rfl dX9_isLetter_29 h.1 h.2
      · have h := h.2 hc
        refine fr_iload_n (i := 0) (q := 0) rfl dX9_isLetter_18 rfl ?_
        refine fr_bipush (v := 90) (by decide) dX9_isLetter_19 rfl ?_
        refine fr_icmp_gt (tgt := 28) dX9_isLetter_21 (by decide) rfl (fun hc => ?_) (fun hc => ?_)
        · have h := h.1 hc
          refine fr_iconst (v := 0) (by decide) dX9_isLetter_28 rfl ?_
          exact fr_zret (by decide) rfl dX9_isLetter_29 h.1 h.2
        · have h := h.2 hc
          refine fr_iconst (v := 1) (by decide) dX9_isLetter_24 rfl ?_
          refine fr_goto (n := 29) dX9_isLetter_25 (by decide) ?_
          exact fr_zret (by decide) rfl dX9_isLetter_29 h.1 h.2
theorem cp_X9_isDigit {g : GE} {Z : Zs} {I : Nat → Nat → Int32} {L : Nat → Nat → Int64} {r : Option Value} {M' : Mem} {x0 : Int32}  (h : ((x0 < 48 → (r = some (.int 0) ∧ M' = (Z, I, L))) ∧ (¬ x0 < 48 → ((57 < x0 → (r = some (.int 0) ∧ M' = (Z, I, L))) ∧ (¬ 57 < x0 → (r = some (.int 1) ∧ M' = (Z, I, L))))))) : Cl g 1 mu_X9_isDigit [.int x0] (Z, I, L) r M' := by
  refine cl_of (lv := [(0, .int x0)]) (by decide) (Nat.le_of_ble_eq_true rfl) rfl ?_
  refine fr_iload_n (i := 0) (q := 0) rfl dX9_isDigit_0 rfl ?_
  refine fr_bipush (v := 48) (by decide) dX9_isDigit_1 rfl ?_
  refine fr_icmp_lt (tgt := 16) dX9_isDigit_3 (by decide) rfl (fun hc => ?_) (fun hc => ?_)
  · have h := h.1 hc
    refine fr_iconst (v := 0) (by decide) dX9_isDigit_16 rfl ?_
    exact fr_zret (by decide) rfl dX9_isDigit_17 h.1 h.2
  · have h := h.2 hc
    refine fr_iload_n (i := 0) (q := 0) rfl dX9_isDigit_6 rfl ?_
    refine fr_bipush (v := 57) (by decide) dX9_isDigit_7 rfl ?_
    refine fr_icmp_gt (tgt := 16) dX9_isDigit_9 (by decide) rfl (fun hc => ?_) (fun hc => ?_)
    · have h := h.1 hc
      refine fr_iconst (v := 0) (by decide) dX9_isDigit_16 rfl ?_
      exact fr_zret (by decide) rfl dX9_isDigit_17 h.1 h.2
    · have h := h.2 hc
      refine fr_iconst (v := 1) (by decide) dX9_isDigit_12 rfl ?_
      refine fr_goto (n := 17) dX9_isDigit_13 (by decide) ?_
      exact fr_zret (by decide) rfl dX9_isDigit_17 h.1 h.2
theorem cp_X9_kindOfSign {g : GE} {Z : Zs} {I : Nat → Nat → Int32} {L : Nat → Nat → Int64} {r : Option Value} {M' : Mem} {x0 : Int32}  (h : ((x0 < 35 ∨ 63 < x0 → (r = some (.int 36) ∧ M' = (Z, I, L))) ∧ (x0 = 35 → (r = some (.int 26) ∧ M' = (Z, I, L))) ∧ (x0 = 36 → (r = some (.int 36) ∧ M' = (Z, I, L))) ∧ (x0 = 37 → (r = some (.int 36) ∧ M' = (Z, I, L))) ∧ (x0 = 38 → (r = some (.int 36) ∧ M' = (Z, I, L))) ∧ (x0 = 39 → (r = some (.int 36) ∧ M' = (Z, I, L))) ∧ (x0 = 40 → (r = some (.int 31) ∧ M' = (Z, I, L))) ∧ (x0 = 41 → (r = some (.int 32) ∧ M' = (Z, I, L))) ∧ (x0 = 42 → (r = some (.int 29) ∧ M' = (Z, I, L))) ∧ (x0 = 43 → (r = some (.int 27) ∧ M' = (Z, I, L))) ∧ (x0 = 44 → (r = some (.int 36) ∧ M' = (Z, I, L))) ∧ (x0 = 45 → (r = some (.int 28) ∧ M' = (Z, I, L))) ∧ (x0 = 46 → (r = some (.int 36) ∧ M' = (Z, I, L))) ∧ (x0 = 47 → (r = some (.int 30) ∧ M' = (Z, I, L))) ∧ (x0 = 48 → (r = some (.int 36) ∧ M' = (Z, I, L))) ∧ (x0 = 49 → (r = some (.int 36) ∧ M' = (Z, I, L))) ∧ (x0 = 50 → (r = some (.int 36) ∧ M' = (Z, I, L))) ∧ (x0 = 51 → (r = some (.int 36) ∧ M' = (Z, I, L))) ∧ (x0 = 52 → (r = some (.int 36) ∧ M' = (Z, I, L))) ∧ (x0 = 53 → (r = some (.int 36) ∧ M' = (Z, I, L))) ∧ (x0 = 54 → (r = some (.int 36) ∧ M' = (Z, I, L))) ∧ (x0 = 55 → (r = some (.int 36) ∧ M' = (Z, I, L))) ∧ (x0 = 56 → (r = some (.int 36) ∧ M' = (Z, I, L))) ∧ (x0 = 57 → (r = some (.int 36) ∧ M' = (Z, I, L))) ∧ (x0 = 58 → (r = some (.int 35) ∧ M' = (Z, I, L))) ∧ (x0 = 59 → (r = some (.int 33) ∧ M' = (Z, I, L))) ∧ (x0 = 60 → (r = some (.int 21) ∧ M' = (Z, I, L))) ∧ (x0 = 61 → (r = some (.int 25) ∧ M' = (Z, I, L))) ∧ (x0 = 62 → (r = some (.int 23) ∧ M' = (Z, I, L))) ∧ (x0 = 63 → (r = some (.int 34) ∧ M' = (Z, I, L))))) : Cl g 1 mu_X9_kindOfSign [.int x0] (Z, I, L) r M' := by
  refine cl_of (lv := [(0, .int x0)]) (by decide) (Nat.le_of_ble_eq_true rfl) rfl ?_
  refine fr_iload_n (i := 0) (q := 0) rfl dX9_kindOfSign_0 rfl ?_
  rcases sw_cases (x := x0) (lo := 35) (hi := 63) (k := 28) (by decide) (by decide) with hs | ⟨kk, hkk, hs⟩
  · have h := h.1 hs
    refine fr_tabD (n := 171) dX9_kindOfSign_1 hs (by decide) (by decide) (by decide) ?_
    refine fr_bipush (v := 36) (by decide) dX9_kindOfSign_171 rfl ?_
    exact fr_iret rfl dX9_kindOfSign_173 h.1 h.2
  · have h := h.2
    match kk, hkk, hs with
    | 0, _, hs =>
      have hs : x0 = 35 := hs.trans (by decide)
      have h := h.1 hs
      refine fr_tabK (n := 141) (y := 35) hs dX9_kindOfSign_1 (by decide) (by decide) rfl (by decide) ?_
      refine fr_bipush (v := 26) (by decide) dX9_kindOfSign_141 rfl ?_
      exact fr_iret rfl dX9_kindOfSign_143 h.1 h.2
    | 1, _, hs =>
      have hs : x0 = 36 := hs.trans (by decide)
      have h := h.2.1 hs
      refine fr_tabK (n := 171) (y := 36) hs dX9_kindOfSign_1 (by decide) (by decide) rfl (by decide) ?_
      refine fr_bipush (v := 36) (by decide) dX9_kindOfSign_171 rfl ?_
      exact fr_iret rfl dX9_kindOfSign_173 h.1 h.2
    | 2, _, hs =>
      have hs : x0 = 37 := hs.trans (by decide)
      have h := h.2.2.1 hs
      refine fr_tabK (n := 171) (y := 37) hs dX9_kindOfSign_1 (by decide) (by decide) rfl (by decide) ?_
      refine fr_bipush (v := 36) (by decide) dX9_kindOfSign_171 rfl ?_
      exact fr_iret rfl dX9_kindOfSign_173 h.1 h.2
    | 3, _, hs =>
      have hs : x0 = 38 := hs.trans (by decide)
      have h := h.2.2.2.1 hs
      refine fr_tabK (n := 171) (y := 38) hs dX9_kindOfSign_1 (by decide) (by decide) rfl (by decide) ?_
      refine fr_bipush (v := 36) (by decide) dX9_kindOfSign_171 rfl ?_
      exact fr_iret rfl dX9_kindOfSign_173 h.1 h.2
    | 4, _, hs =>
      have hs : x0 = 39 := hs.trans (by decide)
      have h := h.2.2.2.2.1 hs
      refine fr_tabK (n := 171) (y := 39) hs dX9_kindOfSign_1 (by decide) (by decide) rfl (by decide) ?_
      refine fr_bipush (v := 36) (by decide) dX9_kindOfSign_171 rfl ?_
      exact fr_iret rfl dX9_kindOfSign_173 h.1 h.2
    | 5, _, hs =>
      have hs : x0 = 40 := hs.trans (by decide)
      have h := h.2.2.2.2.2.1 hs
      refine fr_tabK (n := 156) (y := 40) hs dX9_kindOfSign_1 (by decide) (by decide) rfl (by decide) ?_
      refine fr_bipush (v := 31) (by decide) dX9_kindOfSign_156 rfl ?_
      exact fr_iret rfl dX9_kindOfSign_158 h.1 h.2
    | 6, _, hs =>
      have hs : x0 = 41 := hs.trans (by decide)
      have h := h.2.2.2.2.2.2.1 hs
      refine fr_tabK (n := 159) (y := 41) hs dX9_kindOfSign_1 (by decide) (by decide) rfl (by decide) ?_
      refine fr_bipush (v := 32) (by decide) dX9_kindOfSign_159 rfl ?_
      exact fr_iret rfl dX9_kindOfSign_161 h.1 h.2
    | 7, _, hs =>
      have hs : x0 = 42 := hs.trans (by decide)
      have h := h.2.2.2.2.2.2.2.1 hs
      refine fr_tabK (n := 150) (y := 42) hs dX9_kindOfSign_1 (by decide) (by decide) rfl (by decide) ?_
      refine fr_bipush (v := 29) (by decide) dX9_kindOfSign_150 rfl ?_
      exact fr_iret rfl dX9_kindOfSign_152 h.1 h.2
    | 8, _, hs =>
      have hs : x0 = 43 := hs.trans (by decide)
      have h := h.2.2.2.2.2.2.2.2.1 hs
      refine fr_tabK (n := 144) (y := 43) hs dX9_kindOfSign_1 (by decide) (by decide) rfl (by decide) ?_
      refine fr_bipush (v := 27) (by decide) dX9_kindOfSign_144 rfl ?_
      exact fr_iret rfl dX9_kindOfSign_146 h.1 h.2
    | 9, _, hs =>
      have hs : x0 = 44 := hs.trans (by decide)
      have h := h.2.2.2.2.2.2.2.2.2.1 hs
      refine fr_tabK (n := 171) (y := 44) hs dX9_kindOfSign_1 (by decide) (by decide) rfl (by decide) ?_
      refine fr_bipush (v := 36) (by decide) dX9_kindOfSign_171 rfl ?_
      exact fr_iret rfl dX9_kindOfSign_173 h.1 h.2
    | 10, _, hs =>
      have hs : x0 = 45 := hs.trans (by decide)
      have h := h.2.2.2.2.2.2.2.2.2.2.1 hs
      refine fr_tabK (n := 147) (y := 45) hs dX9_kindOfSign_1 (by decide) (by decide) rfl (by decide) ?_
      refine fr_bipush (v := 28) (by decide) dX9_kindOfSign_147 rfl ?_
      exact fr_iret rfl dX9_kindOfSign_149 h.1 h.2
    | 11, _, hs =>
      have hs : x0 = 46 := hs.trans (by decide)
      have h := h.2.2.2.2.2.2.2.2.2.2.2.1 hs
      refine fr_tabK (n := 171) (y := 46) hs dX9_kindOfSign_1 (by decide) (by decide) rfl (by decide) ?_
      refine fr_bipush (v := 36) (by decide) dX9_kindOfSign_171 rfl ?_
      exact fr_iret rfl dX9_kindOfSign_173 h.1 h.2
    | 12, _, hs =>
      have hs : x0 = 47 := hs.trans (by decide)
      have h := h.2.2.2.2.2.2.2.2.2.2.2.2.1 hs
      refine fr_tabK (n := 153) (y := 47) hs dX9_kindOfSign_1 (by decide) (by decide) rfl (by decide) ?_
      refine fr_bipush (v := 30) (by decide) dX9_kindOfSign_153 rfl ?_
      exact fr_iret rfl dX9_kindOfSign_155 h.1 h.2
    | 13, _, hs =>
      have hs : x0 = 48 := hs.trans (by decide)
      have h := h.2.2.2.2.2.2.2.2.2.2.2.2.2.1 hs
      refine fr_tabK (n := 171) (y := 48) hs dX9_kindOfSign_1 (by decide) (by decide) rfl (by decide) ?_
      refine fr_bipush (v := 36) (by decide) dX9_kindOfSign_171 rfl ?_
      exact fr_iret rfl dX9_kindOfSign_173 h.1 h.2
    | 14, _, hs =>
      have hs : x0 = 49 := hs.trans (by decide)
      have h := h.2.2.2.2.2.2.2.2.2.2.2.2.2.2.1 hs
      refine fr_tabK (n := 171) (y := 49) hs dX9_kindOfSign_1 (by decide) (by decide) rfl (by decide) ?_
      refine fr_bipush (v := 36) (by decide) dX9_kindOfSign_171 rfl ?_
      exact fr_iret rfl dX9_kindOfSign_173 h.1 h.2
    | 15, _, hs =>
      have hs : x0 = 50 := hs.trans (by decide)
      have h := h.2.2.2.2.2.2.2.2.2.2.2.2.2.2.2.1 hs
      refine fr_tabK (n := 171) (y := 50) hs dX9_kindOfSign_1 (by decide) (by decide) rfl (by decide) ?_
      refine fr_bipush (v := 36) (by decide) dX9_kindOfSign_171 rfl ?_
      exact fr_iret rfl dX9_kindOfSign_173 h.1 h.2
    | 16, _, hs =>
      have hs : x0 = 51 := hs.trans (by decide)
      have h := h.2.2.2.2.2.2.2.2.2.2.2.2.2.2.2.2.1 hs
      refine fr_tabK (n := 171) (y := 51) hs dX9_kindOfSign_1 (by decide) (by decide) rfl (by decide) ?_
      refine fr_bipush (v := 36) (by decide) dX9_kindOfSign_171 rfl ?_
      exact fr_iret rfl dX9_kindOfSign_173 h.1 h.2
    | 17, _, hs =>
      have hs : x0 = 52 := hs.trans (by decide)
      have h := h.2.2.2.2.2.2.2.2.2.2.2.2.2.2.2.2.2.1 hs
      refine fr_tabK (n := 171) (y := 52) hs dX9_kindOfSign_1 (by decide) (by decide) rfl (by decide) ?_
      refine fr_bipush (v := 36) (by decide) dX9_kindOfSign_171 rfl ?_
      exact fr_iret rfl dX9_kindOfSign_173 h.1 h.2
    | 18, _, hs =>
      have hs : x0 = 53 := hs.trans (by decide)
      have h := h.2.2.2.2.2.2.2.2.2.2.2.2.2.2.2.2.2.2.1 hs
      refine fr_tabK (n := 171) (y := 53) hs dX9_kindOfSign_1 (by decide) (by decide) rfl (by decide) ?_
      refine fr_bipush (v := 36) (by decide) dX9_kindOfSign_171 rfl ?_
      exact fr_iret rfl dX9_kindOfSign_173 h.1 h.2
    | 19, _, hs =>
      have hs : x0 = 54 := hs.trans (by decide)
      have h := h.2.2.2.2.2.2.2.2.2.2.2.2.2.2.2.2.2.2.2.1 hs
      refine fr_tabK (n := 171) (y := 54) hs dX9_kindOfSign_1 (by decide) (by decide) rfl (by decide) ?_
      refine fr_bipush (v := 36) (by decide) dX9_kindOfSign_171 rfl ?_
      exact fr_iret rfl dX9_kindOfSign_173 h.1 h.2
    | 20, _, hs =>
      have hs : x0 = 55 := hs.trans (by decide)
      have h := h.2.2.2.2.2.2.2.2.2.2.2.2.2.2.2.2.2.2.2.2.1 hs
      refine fr_tabK (n := 171) (y := 55) hs dX9_kindOfSign_1 (by decide) (by decide) rfl (by decide) ?_
      refine fr_bipush (v := 36) (by decide) dX9_kindOfSign_171 rfl ?_
      exact fr_iret rfl dX9_kindOfSign_173 h.1 h.2
    | 21, _, hs =>
      have hs : x0 = 56 := hs.trans (by decide)
      have h := h.2.2.2.2.2.2.2.2.2.2.2.2.2.2.2.2.2.2.2.2.2.1 hs
      refine fr_tabK (n := 171) (y := 56) hs dX9_kindOfSign_1 (by decide) (by decide) rfl (by decide) ?_
      refine fr_bipush (v := 36) (by decide) dX9_kindOfSign_171 rfl ?_
      exact fr_iret rfl dX9_kindOfSign_173 h.1 h.2
    | 22, _, hs =>
      have hs : x0 = 57 := hs.trans (by decide)
      have h := h.2.2.2.2.2.2.2.2.2.2.2.2.2.2.2.2.2.2.2.2.2.2.1 hs
      refine fr_tabK (n := 171) (y := 57) hs dX9_kindOfSign_1 (by decide) (by decide) rfl (by decide) ?_
      refine fr_bipush (v := 36) (by decide) dX9_kindOfSign_171 rfl ?_
      exact fr_iret rfl dX9_kindOfSign_173 h.1 h.2
    | 23, _, hs =>
      have hs : x0 = 58 := hs.trans (by decide)
      have h := h.2.2.2.2.2.2.2.2.2.2.2.2.2.2.2.2.2.2.2.2.2.2.2.1 hs
      refine fr_tabK (n := 168) (y := 58) hs dX9_kindOfSign_1 (by decide) (by decide) rfl (by decide) ?_
      refine fr_bipush (v := 35) (by decide) dX9_kindOfSign_168 rfl ?_
      exact fr_iret rfl dX9_kindOfSign_170 h.1 h.2
    | 24, _, hs =>
      have hs : x0 = 59 := hs.trans (by decide)
      have h := h.2.2.2.2.2.2.2.2.2.2.2.2.2.2.2.2.2.2.2.2.2.2.2.2.1 hs
      refine fr_tabK (n := 162) (y := 59) hs dX9_kindOfSign_1 (by decide) (by decide) rfl (by decide) ?_
      refine fr_bipush (v := 33) (by decide) dX9_kindOfSign_162 rfl ?_
      exact fr_iret rfl dX9_kindOfSign_164 h.1 h.2
    | 25, _, hs =>
      have hs : x0 = 60 := hs.trans (by decide)
      have h := h.2.2.2.2.2.2.2.2.2.2.2.2.2.2.2.2.2.2.2.2.2.2.2.2.2.1 hs
      refine fr_tabK (n := 132) (y := 60) hs dX9_kindOfSign_1 (by decide) (by decide) rfl (by decide) ?_
      refine fr_bipush (v := 21) (by decide) dX9_kindOfSign_132 rfl ?_
      exact fr_iret rfl dX9_kindOfSign_134 h.1 h.2
    | 26, _, hs =>
      have hs : x0 = 61 := hs.trans (by decide)
      have h := h.2.2.2.2.2.2.2.2.2.2.2.2.2.2.2.2.2.2.2.2.2.2.2.2.2.2.1 hs
      refine fr_tabK (n := 138) (y := 61) hs dX9_kindOfSign_1 (by decide) (by decide) rfl (by decide) ?_
      refine fr_bipush (v := 25) (by decide) dX9_kindOfSign_138 rfl ?_
      exact fr_iret rfl dX9_kindOfSign_140 h.1 h.2
    | 27, _, hs =>
      have hs : x0 = 62 := hs.trans (by decide)
      have h := h.2.2.2.2.2.2.2.2.2.2.2.2.2.2.2.2.2.2.2.2.2.2.2.2.2.2.2.1 hs
      refine fr_tabK (n := 135) (y := 62) hs dX9_kindOfSign_1 (by decide) (by decide) rfl (by decide) ?_
      refine fr_bipush (v := 23) (by decide) dX9_kindOfSign_135 rfl ?_
      exact fr_iret rfl dX9_kindOfSign_137 h.1 h.2
    | 28, _, hs =>
      have hs : x0 = 63 := hs.trans (by decide)
      have h := h.2.2.2.2.2.2.2.2.2.2.2.2.2.2.2.2.2.2.2.2.2.2.2.2.2.2.2.2 hs
      refine fr_tabK (n := 165) (y := 63) hs dX9_kindOfSign_1 (by decide) (by decide) rfl (by decide) ?_
      refine fr_bipush (v := 34) (by decide) dX9_kindOfSign_165 rfl ?_
      exact fr_iret rfl dX9_kindOfSign_167 h.1 h.2
    | kk + 29, hkk, _ => exact absurd hkk (by omega)
theorem cp_X9_spelling {g : GE} {Z : Zs} {I : Nat → Nat → Int32} {L : Nat → Nat → Int64} {r : Option Value} {M' : Mem} {x0 : Int32}  (h : ((x0 < 0 ∨ 18 < x0 → (r = some (.ref (gK g 19)) ∧ M' = (Z, I, L))) ∧ (x0 = 0 → (r = some (.ref (gK g 0)) ∧ M' = (Z, I, L))) ∧ (x0 = 1 → (r = some (.ref (gK g 1)) ∧ M' = (Z, I, L))) ∧ (x0 = 2 → (r = some (.ref (gK g 2)) ∧ M' = (Z, I, L))) ∧ (x0 = 3 → (r = some (.ref (gK g 3)) ∧ M' = (Z, I, L))) ∧ (x0 = 4 → (r = some (.ref (gK g 4)) ∧ M' = (Z, I, L))) ∧ (x0 = 5 → (r = some (.ref (gK g 5)) ∧ M' = (Z, I, L))) ∧ (x0 = 6 → (r = some (.ref (gK g 6)) ∧ M' = (Z, I, L))) ∧ (x0 = 7 → (r = some (.ref (gK g 7)) ∧ M' = (Z, I, L))) ∧ (x0 = 8 → (r = some (.ref (gK g 8)) ∧ M' = (Z, I, L))) ∧ (x0 = 9 → (r = some (.ref (gK g 9)) ∧ M' = (Z, I, L))) ∧ (x0 = 10 → (r = some (.ref (gK g 10)) ∧ M' = (Z, I, L))) ∧ (x0 = 11 → (r = some (.ref (gK g 11)) ∧ M' = (Z, I, L))) ∧ (x0 = 12 → (r = some (.ref (gK g 12)) ∧ M' = (Z, I, L))) ∧ (x0 = 13 → (r = some (.ref (gK g 13)) ∧ M' = (Z, I, L))) ∧ (x0 = 14 → (r = some (.ref (gK g 14)) ∧ M' = (Z, I, L))) ∧ (x0 = 15 → (r = some (.ref (gK g 15)) ∧ M' = (Z, I, L))) ∧ (x0 = 16 → (r = some (.ref (gK g 16)) ∧ M' = (Z, I, L))) ∧ (x0 = 17 → (r = some (.ref (gK g 17)) ∧ M' = (Z, I, L))) ∧ (x0 = 18 → (r = some (.ref (gK g 18)) ∧ M' = (Z, I, L))))) : Cl g 1 mu_X9_spelling [.int x0] (Z, I, L) r M' := by
  refine cl_of (lv := [(0, .int x0)]) (by decide) (Nat.le_of_ble_eq_true rfl) rfl ?_
  refine fr_iload_n (i := 0) (q := 0) rfl dX9_spelling_0 rfl ?_
  rcases sw_cases (x := x0) (lo := 0) (hi := 18) (k := 18) (by decide) (by decide) with hs | ⟨kk, hkk, hs⟩
  · have h := h.1 hs
    refine fr_tabD (n := 149) dX9_spelling_1 hs (by decide) (by decide) (by decide) ?_
    refine fr_ldcS (i := 19) (by decide) rfl dX9_spelling_149 rfl ?_
    exact fr_aretS rfl dX9_spelling_151 h.1 h.2
  · have h := h.2
    match kk, hkk, hs with
    | 0, _, hs =>
      have hs : x0 = 0 := hs.trans (by decide)
      have h := h.1 hs
      refine fr_tabK (n := 92) (y := 0) hs dX9_spelling_1 (by decide) (by decide) rfl (by decide) ?_
      refine fr_ldcS (i := 0) (by decide) rfl dX9_spelling_92 rfl ?_
      exact fr_aretS rfl dX9_spelling_94 h.1 h.2
    | 1, _, hs =>
      have hs : x0 = 1 := hs.trans (by decide)
      have h := h.2.1 hs
      refine fr_tabK (n := 95) (y := 1) hs dX9_spelling_1 (by decide) (by decide) rfl (by decide) ?_
      refine fr_ldcS (i := 1) (by decide) rfl dX9_spelling_95 rfl ?_
      exact fr_aretS rfl dX9_spelling_97 h.1 h.2
    | 2, _, hs =>
      have hs : x0 = 2 := hs.trans (by decide)
      have h := h.2.2.1 hs
      refine fr_tabK (n := 98) (y := 2) hs dX9_spelling_1 (by decide) (by decide) rfl (by decide) ?_
      refine fr_ldcS (i := 2) (by decide) rfl dX9_spelling_98 rfl ?_
      exact fr_aretS rfl dX9_spelling_100 h.1 h.2
    | 3, _, hs =>
      have hs : x0 = 3 := hs.trans (by decide)
      have h := h.2.2.2.1 hs
      refine fr_tabK (n := 101) (y := 3) hs dX9_spelling_1 (by decide) (by decide) rfl (by decide) ?_
      refine fr_ldcS (i := 3) (by decide) rfl dX9_spelling_101 rfl ?_
      exact fr_aretS rfl dX9_spelling_103 h.1 h.2
    | 4, _, hs =>
      have hs : x0 = 4 := hs.trans (by decide)
      have h := h.2.2.2.2.1 hs
      refine fr_tabK (n := 104) (y := 4) hs dX9_spelling_1 (by decide) (by decide) rfl (by decide) ?_
      refine fr_ldcS (i := 4) (by decide) rfl dX9_spelling_104 rfl ?_
      exact fr_aretS rfl dX9_spelling_106 h.1 h.2
    | 5, _, hs =>
      have hs : x0 = 5 := hs.trans (by decide)
      have h := h.2.2.2.2.2.1 hs
      refine fr_tabK (n := 107) (y := 5) hs dX9_spelling_1 (by decide) (by decide) rfl (by decide) ?_
      refine fr_ldcS (i := 5) (by decide) rfl dX9_spelling_107 rfl ?_
      exact fr_aretS rfl dX9_spelling_109 h.1 h.2
    | 6, _, hs =>
      have hs : x0 = 6 := hs.trans (by decide)
      have h := h.2.2.2.2.2.2.1 hs
      refine fr_tabK (n := 110) (y := 6) hs dX9_spelling_1 (by decide) (by decide) rfl (by decide) ?_
      refine fr_ldcS (i := 6) (by decide) rfl dX9_spelling_110 rfl ?_
      exact fr_aretS rfl dX9_spelling_112 h.1 h.2
    | 7, _, hs =>
      have hs : x0 = 7 := hs.trans (by decide)
      have h := h.2.2.2.2.2.2.2.1 hs
      refine fr_tabK (n := 113) (y := 7) hs dX9_spelling_1 (by decide) (by decide) rfl (by decide) ?_
      refine fr_ldcS (i := 7) (by decide) rfl dX9_spelling_113 rfl ?_
      exact fr_aretS rfl dX9_spelling_115 h.1 h.2
    | 8, _, hs =>
      have hs : x0 = 8 := hs.trans (by decide)
      have h := h.2.2.2.2.2.2.2.2.1 hs
      refine fr_tabK (n := 116) (y := 8) hs dX9_spelling_1 (by decide) (by decide) rfl (by decide) ?_
      refine fr_ldcS (i := 8) (by decide) rfl dX9_spelling_116 rfl ?_
      exact fr_aretS rfl dX9_spelling_118 h.1 h.2
    | 9, _, hs =>
      have hs : x0 = 9 := hs.trans (by decide)
      have h := h.2.2.2.2.2.2.2.2.2.1 hs
      refine fr_tabK (n := 119) (y := 9) hs dX9_spelling_1 (by decide) (by decide) rfl (by decide) ?_
      refine fr_ldcS (i := 9) (by decide) rfl dX9_spelling_119 rfl ?_
      exact fr_aretS rfl dX9_spelling_121 h.1 h.2
    | 10, _, hs =>
      have hs : x0 = 10 := hs.trans (by decide)
      have h := h.2.2.2.2.2.2.2.2.2.2.1 hs
      refine fr_tabK (n := 122) (y := 10) hs dX9_spelling_1 (by decide) (by decide) rfl (by decide) ?_
      refine fr_ldcS (i := 10) (by decide) rfl dX9_spelling_122 rfl ?_
      exact fr_aretS rfl dX9_spelling_124 h.1 h.2
    | 11, _, hs =>
      have hs : x0 = 11 := hs.trans (by decide)
      have h := h.2.2.2.2.2.2.2.2.2.2.2.1 hs
      refine fr_tabK (n := 125) (y := 11) hs dX9_spelling_1 (by decide) (by decide) rfl (by decide) ?_
      refine fr_ldcS (i := 11) (by decide) rfl dX9_spelling_125 rfl ?_
      exact fr_aretS rfl dX9_spelling_127 h.1 h.2
    | 12, _, hs =>
      have hs : x0 = 12 := hs.trans (by decide)
      have h := h.2.2.2.2.2.2.2.2.2.2.2.2.1 hs
      refine fr_tabK (n := 128) (y := 12) hs dX9_spelling_1 (by decide) (by decide) rfl (by decide) ?_
      refine fr_ldcS (i := 12) (by decide) rfl dX9_spelling_128 rfl ?_
      exact fr_aretS rfl dX9_spelling_130 h.1 h.2
    | 13, _, hs =>
      have hs : x0 = 13 := hs.trans (by decide)
      have h := h.2.2.2.2.2.2.2.2.2.2.2.2.2.1 hs
      refine fr_tabK (n := 131) (y := 13) hs dX9_spelling_1 (by decide) (by decide) rfl (by decide) ?_
      refine fr_ldcS (i := 13) (by decide) rfl dX9_spelling_131 rfl ?_
      exact fr_aretS rfl dX9_spelling_133 h.1 h.2
    | 14, _, hs =>
      have hs : x0 = 14 := hs.trans (by decide)
      have h := h.2.2.2.2.2.2.2.2.2.2.2.2.2.2.1 hs
      refine fr_tabK (n := 134) (y := 14) hs dX9_spelling_1 (by decide) (by decide) rfl (by decide) ?_
      refine fr_ldcS (i := 14) (by decide) rfl dX9_spelling_134 rfl ?_
      exact fr_aretS rfl dX9_spelling_136 h.1 h.2
    | 15, _, hs =>
      have hs : x0 = 15 := hs.trans (by decide)
      have h := h.2.2.2.2.2.2.2.2.2.2.2.2.2.2.2.1 hs
      refine fr_tabK (n := 137) (y := 15) hs dX9_spelling_1 (by decide) (by decide) rfl (by decide) ?_
      refine fr_ldcS (i := 15) (by decide) rfl dX9_spelling_137 rfl ?_
      exact fr_aretS rfl dX9_spelling_139 h.1 h.2
    | 16, _, hs =>
      have hs : x0 = 16 := hs.trans (by decide)
      have h := h.2.2.2.2.2.2.2.2.2.2.2.2.2.2.2.2.1 hs
      refine fr_tabK (n := 140) (y := 16) hs dX9_spelling_1 (by decide) (by decide) rfl (by decide) ?_
      refine fr_ldcS (i := 16) (by decide) rfl dX9_spelling_140 rfl ?_
      exact fr_aretS rfl dX9_spelling_142 h.1 h.2
    | 17, _, hs =>
      have hs : x0 = 17 := hs.trans (by decide)
      have h := h.2.2.2.2.2.2.2.2.2.2.2.2.2.2.2.2.2.1 hs
      refine fr_tabK (n := 143) (y := 17) hs dX9_spelling_1 (by decide) (by decide) rfl (by decide) ?_
      refine fr_ldcS (i := 17) (by decide) rfl dX9_spelling_143 rfl ?_
      exact fr_aretS rfl dX9_spelling_145 h.1 h.2
    | 18, _, hs =>
      have hs : x0 = 18 := hs.trans (by decide)
      have h := h.2.2.2.2.2.2.2.2.2.2.2.2.2.2.2.2.2.2 hs
      refine fr_tabK (n := 146) (y := 18) hs dX9_spelling_1 (by decide) (by decide) rfl (by decide) ?_
      refine fr_ldcS (i := 18) (by decide) rfl dX9_spelling_146 rfl ?_
      exact fr_aretS rfl dX9_spelling_148 h.1 h.2
    | kk + 19, hkk, _ => exact absurd hkk (by omega)
theorem cp_X3_forget {g : GE} {Z : Zs} {I : Nat → Nat → Int32} {L : Nat → Nat → Int64} {r : Option Value} {M' : Mem} {o : Nat} {o_known : Nat} (k_o : KM Z o 3) (r_o_known : Z.2.1 o 2 = some o_known) (k_o_known : KM Z o_known 13) (h : (∃ (I1 : Nat → Nat → Int32) (L2 : Nat → Nat → Int64), Cl g 1 mu_J7_fill_53178 [rf g o_known, .int ((-1))] (Z, I, L) none (Z, I1, L2) ∧ (r = none ∧ M' = (Z, I1, L2)))) : Cl g 2 mu_X3_forget [rf g o] (Z, I, L) r M' := by
  refine cl_of (lv := [(0, rf g o)]) (by decide) (Nat.le_of_ble_eq_true rfl) rfl ?_
  refine fr_aload_n (i := 0) (q := 0) rfl dX3_forget_0 rfl ?_
  refine fr_getR dX3_forget_1 rfl fl_X3_25 k_o r_o_known ?_
  refine fr_iconst (v := (-1)) (by decide) dX3_forget_4 rfl ?_
  obtain ⟨I1, L2, hc3, h⟩ := h
  refine fr_callS2 (ν := mu_J7_fill_53178) (st2 := []) (As := [rf g o_known, .int ((-1))]) (st := []) (v := none) (M1 := (Z, I1, L2)) dX3_forget_5 rfl ml_X3_29 mo_J7_fill_53178 ms_J7_fill_53178 (Nat.le_of_ble_eq_true rfl) rfl rfl (Nat.le_of_ble_eq_true rfl) hc3 rfl ?_
  exact fr_vret rfl dX3_forget_8 h.1 h.2
theorem cp_X3_step {g : GE} {Z : Zs} {I : Nat → Nat → Int32} {L : Nat → Nat → Int64} {r : Option Value} {M' : Mem} {o : Nat} {x1 : Int32} {x2 : Int32} {x3 : Int32} {o_state : Nat} {o_known : Nat} (k_o : KM Z o 3) (r_o_state : Z.2.1 o 0 = some o_state) (k_o_state : KM Z o_state 8) (r_o_known : Z.2.1 o 2 = some o_known) (k_o_known : KM Z o_known 13) (h : (∃ (v1 : Int32), Cl g 1 mu_X8_posesInAll [rf g o_state] (Z, I, L) (some (.int v1)) (Z, I, L) ∧ (∀ y3 : Int32, y3 = ((((x1 * v1) + x2) * 4) + x3) → ((y3 < 0 → (r = some (.int x2) ∧ M' = (Z, I, L))) ∧ (¬ y3 < 0 → ((y3 < (nI (Z.2.2.1 o_known)) → (vp_in y3 (Z.2.2.1 o_known) ∧ ((¬ (I o_known y3.toNatClampNeg) = ((-1)) → (vp_in y3 (Z.2.2.1 o_known) ∧ (r = some (.int (I o_known y3.toNatClampNeg)) ∧ M' = (Z, I, L)))) ∧ ((I o_known y3.toNatClampNeg) = ((-1)) → (∃ (v6 : Int32) (I7 : Nat → Nat → Int32) (L8 : Nat → Nat → Int64), Cl g 4 mu_X3_workOut [rf g o, .int x1, .int x2, .int x3] (Z, I, L) (some (.int v6)) (Z, I7, L8) ∧ (vp_in y3 (Z.2.2.1 o_known) ∧ (∀ I11 : Nat → Nat → Int32, I11 = rw1 I7 o_known (upd (I7 o_known) y3.toNatClampNeg v6) → (vp_in y3 (Z.2.2.1 o_known) ∧ (r = some (.int (I11 o_known y3.toNatClampNeg)) ∧ M' = (Z, I11, L8)))))))))) ∧ (¬ y3 < (nI (Z.2.2.1 o_known)) → (r = some (.int x2) ∧ M' = (Z, I, L))))))))) : Cl g 5 mu_X3_step [rf g o, .int x1, .int x2, .int x3] (Z, I, L) r M' := by
  refine cl_of (lv := [(0, rf g o), (1, .int x1), (2, .int x2), (3, .int x3)]) (by decide) (Nat.le_of_ble_eq_true rfl) rfl ?_
  refine fr_iload_n (i := 1) (q := 1) rfl dX3_step_0 rfl ?_
  refine fr_aload_n (i := 0) (q := 0) rfl dX3_step_1 rfl ?_
  refine fr_getR dX3_step_2 rfl fl_X3_9 k_o r_o_state ?_
  obtain ⟨v1, hc2, h⟩ := h
  refine fr_callV2 (ν := mu_X8_posesInAll) (st2 := [.int v1, .int x1]) (As := []) (st := [.int x1]) (v := (some (.int v1))) (M1 := (Z, I, L)) dX3_step_5 rfl ml_X3_19 mo_X8_posesInAll mi_X8_posesInAll (ci := 8) rfl rfl k_o_state (Nat.le_of_ble_eq_true rfl) rfl rfl (Nat.le_of_ble_eq_true rfl) hc2 rfl ?_
  refine fr_imul dX3_step_8 rfl ?_
  refine fr_iload_n (i := 2) (q := 2) rfl dX3_step_9 rfl ?_
  refine fr_iadd dX3_step_10 rfl ?_
  refine fr_iconst (v := 4) (by decide) dX3_step_11 rfl ?_
  refine fr_imul dX3_step_12 rfl ?_
  refine fr_iload_n (i := 3) (q := 3) rfl dX3_step_13 rfl ?_
  refine fr_iadd dX3_step_14 rfl ?_
  refine fr_topi (fun y3 hy3 => ?_)
  have h := h y3 hy3
  refine fr_istore (lv' := [(4, .int y3), (0, rf g o), (1, .int x1), (2, .int x2), (3, .int x3)]) dX3_step_15 rfl (by decide) rfl ?_
  refine fr_iload (q := 0) rfl dX3_step_17 rfl ?_
  refine fr_if_lt (tgt := 32) dX3_step_19 (by decide) rfl (fun hc => ?_) (fun hc => ?_)
  · have h := h.1 hc
    refine fr_iload_n (i := 2) (q := 3) rfl dX3_step_32 rfl ?_
    exact fr_iret rfl dX3_step_33 h.1 h.2
  · have h := h.2 hc
    refine fr_iload (q := 0) rfl dX3_step_22 rfl ?_
    refine fr_aload_n (i := 0) (q := 1) rfl dX3_step_24 rfl ?_
    refine fr_getR dX3_step_25 rfl fl_X3_25 k_o r_o_known ?_
    refine fr_alen dX3_step_28 rfl k_o_known (Or.inl rfl) ?_
    refine fr_icmp_lt (tgt := 34) dX3_step_29 (by decide) rfl (fun hc => ?_) (fun hc => ?_)
    · have h := h.1 hc
      refine fr_aload_n (i := 0) (q := 1) rfl dX3_step_34 rfl ?_
      refine fr_getR dX3_step_35 rfl fl_X3_25 k_o r_o_known ?_
      refine fr_iload (q := 0) rfl dX3_step_38 rfl ?_
      obtain ⟨hz4, h⟩ := h
      refine fr_iald dX3_step_40 rfl k_o_known hz4 ?_
      refine fr_iconst (v := (-1)) (by decide) dX3_step_41 rfl ?_
      refine fr_icmp_ne (tgt := 59) dX3_step_42 (by decide) rfl (fun hc => ?_) (fun hc => ?_)
      · have h := h.1 hc
        refine fr_aload_n (i := 0) (q := 1) rfl dX3_step_59 rfl ?_
        refine fr_getR dX3_step_60 rfl fl_X3_25 k_o r_o_known ?_
        refine fr_iload (q := 0) rfl dX3_step_63 rfl ?_
        obtain ⟨hz5, h⟩ := h
        refine fr_iald dX3_step_65 rfl k_o_known hz5 ?_
        exact fr_iret rfl dX3_step_66 h.1 h.2
      · have h := h.2 hc
        refine fr_aload_n (i := 0) (q := 1) rfl dX3_step_45 rfl ?_
        refine fr_getR dX3_step_46 rfl fl_X3_25 k_o r_o_known ?_
        refine fr_iload (q := 0) rfl dX3_step_49 rfl ?_
        refine fr_aload_n (i := 0) (q := 1) rfl dX3_step_51 rfl ?_
        refine fr_iload_n (i := 1) (q := 2) rfl dX3_step_52 rfl ?_
        refine fr_iload_n (i := 2) (q := 3) rfl dX3_step_53 rfl ?_
        refine fr_iload_n (i := 3) (q := 4) rfl dX3_step_54 rfl ?_
        obtain ⟨v6, I7, L8, hc9, h⟩ := h
        refine fr_callV2 (ν := mu_X3_workOut) (st2 := [.int v6, .int y3, rf g o_known]) (As := [.int x1, .int x2, .int x3]) (st := [.int y3, rf g o_known]) (v := (some (.int v6))) (M1 := (Z, I7, L8)) dX3_step_55 rfl ml_X3_35 mo_X3_workOut mi_X3_workOut (ci := 3) rfl rfl k_o (Nat.le_of_ble_eq_true rfl) rfl rfl (Nat.le_of_ble_eq_true rfl) hc9 rfl ?_
        obtain ⟨hz10, h⟩ := h
        refine fr_iast dX3_step_58 rfl k_o_known hz10 ?_
        refine fr_memI (fun I11 hI11 => ?_)
        have h := h I11 hI11
        refine fr_aload_n (i := 0) (q := 1) rfl dX3_step_59 rfl ?_
        refine fr_getR dX3_step_60 rfl fl_X3_25 k_o r_o_known ?_
        refine fr_iload (q := 0) rfl dX3_step_63 rfl ?_
        obtain ⟨hz12, h⟩ := h
        refine fr_iald dX3_step_65 rfl k_o_known hz12 ?_
        exact fr_iret rfl dX3_step_66 h.1 h.2
    · have h := h.2 hc
      refine fr_iload_n (i := 2) (q := 3) rfl dX3_step_32 rfl ?_
      exact fr_iret rfl dX3_step_33 h.1 h.2
abbrev Lp_X3_workOut_48 (g : GE) (d : Nat) (o : Nat) (u2 : Int32) (u3 : Int32) (a4 : Nat) (u5 : Int32) (u6 : Int32) (M : Mem) (r : Option Value) (M' : Mem) : Prop := Fr g d mu_X3_workOut 48 [(0, rf g o), (2, .int u2), (3, .int u3), (4, rf g a4), (5, .int u5), (6, .int u6)] [] M r M'
theorem cp_X3_workOut {g : GE} {Z : Zs} {I : Nat → Nat → Int32} {L : Nat → Nat → Int64} {r : Option Value} {M' : Mem} {o : Nat} {x1 : Int32} {x2 : Int32} {x3 : Int32} {o_state : Nat} {o_state_kinds : Nat} (k_o : KM Z o 3) (r_o_state : Z.2.1 o 0 = some o_state) (k_o_state : KM Z o_state 8) (r_o_state_kinds : Z.2.1 o_state 2 = some o_state_kinds) (k_o_state_kinds : KM Z o_state_kinds 2) (h : (∃ (v1 : Option Nat), Cl g 1 mu_X8_scriptOf [rf g o_state, .int x1] (Z, I, L) (some (rv g v1)) (Z, I, L) ∧ ((v1 = none → (r = some (.int x2) ∧ M' = (Z, I, L))) ∧ (∀ b3 : Nat, v1 = some b3 → KM Z b3 6 ∧ (∃ (v4 : Int32), Cl g 1 mu_X3_cellAhead [rf g o, .int x2] (Z, I, L) (some (.int v4)) (Z, I, L) ∧ ((¬ v4 = ((-1)) → (∃ (v6 : Int32), Cl g 1 mu_X2_at [rf g o_state_kinds, .int v4] (Z, I, L) (some (.int v6)) (Z, I, L) ∧ Lp_X3_workOut_48 g 4 o x2 x3 b3 v4 v6 (Z, I, L) r M')) ∧ (v4 = ((-1)) → Lp_X3_workOut_48 g 4 o x2 x3 b3 v4 1 (Z, I, L) r M'))))))) : Cl g 4 mu_X3_workOut [rf g o, .int x1, .int x2, .int x3] (Z, I, L) r M' := by
  refine cl_of (lv := [(0, rf g o), (1, .int x1), (2, .int x2), (3, .int x3)]) (by decide) (Nat.le_of_ble_eq_true rfl) rfl ?_
  refine fr_aload_n (i := 0) (q := 0) rfl dX3_workOut_0 rfl ?_
  refine fr_getR dX3_workOut_1 rfl fl_X3_9 k_o r_o_state ?_
  refine fr_iload_n (i := 1) (q := 1) rfl dX3_workOut_4 rfl ?_
  obtain ⟨v1, hc2, h⟩ := h
  refine fr_callV2 (ν := mu_X8_scriptOf) (st2 := [rv g v1]) (As := [.int x1]) (st := []) (v := (some (rv g v1))) (M1 := (Z, I, L)) dX3_workOut_5 rfl ml_X3_39 mo_X8_scriptOf mi_X8_scriptOf (ci := 8) rfl rfl k_o_state (Nat.le_of_ble_eq_true rfl) rfl rfl (Nat.le_of_ble_eq_true rfl) hc2 rfl ?_
  refine fr_case (fun hq => ?_) (fun b3 hq => ?_)
  · have h := h.1 hq
    refine fr_astoreN (lv' := [(4, .null), (0, rf g o), (1, .int x1), (2, .int x2), (3, .int x3)]) dX3_workOut_8 rfl (by decide) rfl ?_
    refine fr_aloadN (q := 0) rfl dX3_workOut_10 rfl ?_
    refine fr_nnN dX3_workOut_12 rfl ?_
    refine fr_iload_n (i := 2) (q := 3) rfl dX3_workOut_15 rfl ?_
    exact fr_iret rfl dX3_workOut_16 h.1 h.2
  · obtain ⟨k_b3, h⟩ := h.2 b3 hq
    refine fr_astore (lv' := [(4, rf g b3), (0, rf g o), (1, .int x1), (2, .int x2), (3, .int x3)]) dX3_workOut_8 rfl (by decide) rfl ?_
    refine fr_aload (q := 0) rfl dX3_workOut_10 rfl ?_
    refine fr_nnR (tgt := 17) dX3_workOut_12 (by decide) ?_
    refine fr_aload_n (i := 0) (q := 1) rfl dX3_workOut_17 rfl ?_
    refine fr_iload_n (i := 2) (q := 3) rfl dX3_workOut_18 rfl ?_
    obtain ⟨v4, hc5, h⟩ := h
    refine fr_callV2 (ν := mu_X3_cellAhead) (st2 := [.int v4]) (As := [.int x2]) (st := []) (v := (some (.int v4))) (M1 := (Z, I, L)) dX3_workOut_19 rfl ml_X3_43 mo_X3_cellAhead mi_X3_cellAhead (ci := 3) rfl rfl k_o (Nat.le_of_ble_eq_true rfl) rfl rfl (Nat.le_of_ble_eq_true rfl) hc5 rfl ?_
    refine fr_istore (lv' := [(5, .int v4), (4, rf g b3), (0, rf g o), (1, .int x1), (2, .int x2), (3, .int x3)]) dX3_workOut_22 rfl (by decide) rfl ?_
    refine fr_iload (q := 0) rfl dX3_workOut_24 rfl ?_
    refine fr_iconst (v := (-1)) (by decide) dX3_workOut_26 rfl ?_
    refine fr_icmp_ne (tgt := 34) dX3_workOut_27 (by decide) rfl (fun hc => ?_) (fun hc => ?_)
    · have h := h.1 hc
      refine fr_aload_n (i := 0) (q := 2) rfl dX3_workOut_34 rfl ?_
      refine fr_getR dX3_workOut_35 rfl fl_X3_9 k_o r_o_state ?_
      refine fr_getR dX3_workOut_38 rfl fl_X3_47 k_o_state r_o_state_kinds ?_
      refine fr_iload (q := 0) rfl dX3_workOut_41 rfl ?_
      obtain ⟨v6, hc7, h⟩ := h
      refine fr_callV2 (ν := mu_X2_at) (st2 := [.int v6]) (As := [.int v4]) (st := []) (v := (some (.int v6))) (M1 := (Z, I, L)) dX3_workOut_43 rfl ml_X3_51 mo_X2_at mi_X2_at (ci := 2) rfl rfl k_o_state_kinds (Nat.le_of_ble_eq_true rfl) rfl rfl (Nat.le_of_ble_eq_true rfl) hc7 rfl ?_
      refine fr_istore (lv' := [(6, .int v6), (5, .int v4), (4, rf g b3), (0, rf g o), (1, .int x1), (2, .int x2), (3, .int x3)]) dX3_workOut_46 rfl (by decide) rfl ?_
      exact fr_sub [3, 5, 6, 2, 1, 0] rfl h
    · have h := h.2 hc
      refine fr_iconst (v := 1) (by decide) dX3_workOut_30 rfl ?_
      refine fr_goto (n := 46) dX3_workOut_31 (by decide) ?_
      refine fr_istore (lv' := [(6, .int 1), (5, .int v4), (4, rf g b3), (0, rf g o), (1, .int x1), (2, .int x2), (3, .int x3)]) dX3_workOut_46 rfl (by decide) rfl ?_
      exact fr_sub [3, 5, 6, 2, 1, 0] rfl h
abbrev Lp_X3_workOut_91 (g : GE) (d : Nat) (o : Nat) (u2 : Int32) (u3 : Int32) (a4 : Nat) (u5 : Int32) (u6 : Int32) (M : Mem) (r : Option Value) (M' : Mem) : Prop := Fr g d mu_X3_workOut 91 [(0, rf g o), (2, .int u2), (3, .int u3), (4, rf g a4), (5, .int u5), (6, .int u6)] [] M r M'
theorem wp_X3_workOut_48 {g : GE} {Z : Zs} {I : Nat → Nat → Int32} {L : Nat → Nat → Int64} {r : Option Value} {M' : Mem} {o : Nat} {u2 : Int32} {u3 : Int32} {a4 : Nat} {u5 : Int32} {u6 : Int32} {o_mind : Nat} {a4_orders : Nat} (k_o : KM Z o 3) (k_a4 : KM Z a4 6) (r_o_mind : Z.2.1 o 1 = some o_mind) (k_o_mind : KM Z o_mind 4) (r_a4_orders : Z.2.1 a4 0 = some a4_orders) (k_a4_orders : KM Z a4_orders 13) (h : (∃ (I1 : Nat → Nat → Int32) (L2 : Nat → Nat → Int64), Cl g 2 mu_X3_lookAround [rf g o, .int u2, .int u3, .int u6] (Z, I, L) none (Z, I1, L2) ∧ (((I1 a4 2) = ((-1)) → Lp_X3_workOut_91 g 4 o u2 u3 a4 u5 u6 (Z, I1, L2) r M') ∧ (¬ (I1 a4 2) = ((-1)) → (∃ (v4 : Int32) (I5 : Nat → Nat → Int32) (L6 : Nat → Nat → Int64), Cl g 3 mu_X4_value [rf g o_mind, rf g a4_orders, .int (I1 a4 2)] (Z, I1, L2) (some (.int v4)) (Z, I5, L6) ∧ ((v4 = 0 → Lp_X3_workOut_91 g 4 o u2 u3 a4 u5 u6 (Z, I5, L6) r M') ∧ (¬ v4 = 0 → (r = some (.int (u2 + 400)) ∧ M' = (Z, I5, L6))))))))) : Lp_X3_workOut_48 g 4 o u2 u3 a4 u5 u6 (Z, I, L) r M' := by
  refine fr_aload_n (i := 0) (q := 0) rfl dX3_workOut_48 rfl ?_
  refine fr_iload_n (i := 2) (q := 1) rfl dX3_workOut_49 rfl ?_
  refine fr_iload_n (i := 3) (q := 2) rfl dX3_workOut_50 rfl ?_
  refine fr_iload (q := 5) rfl dX3_workOut_51 rfl ?_
  obtain ⟨I1, L2, hc3, h⟩ := h
  refine fr_callV2 (ν := mu_X3_lookAround) (st2 := []) (As := [.int u2, .int u3, .int u6]) (st := []) (v := none) (M1 := (Z, I1, L2)) dX3_workOut_53 rfl ml_X3_56 mo_X3_lookAround mi_X3_lookAround (ci := 3) rfl rfl k_o (Nat.le_of_ble_eq_true rfl) rfl rfl (Nat.le_of_ble_eq_true rfl) hc3 rfl ?_
  refine fr_aload (q := 3) rfl dX3_workOut_56 rfl ?_
  refine fr_getI dX3_workOut_58 rfl fl_X3_60 k_a4 ?_
  refine fr_iconst (v := (-1)) (by decide) dX3_workOut_61 rfl ?_
  refine fr_icmp_eq (tgt := 91) dX3_workOut_62 (by decide) rfl (fun hc => ?_) (fun hc => ?_)
  · have h := h.1 hc
    exact fr_sub [0, 1, 2, 3, 4, 5] rfl h
  · have h := h.2 hc
    refine fr_aload_n (i := 0) (q := 0) rfl dX3_workOut_65 rfl ?_
    refine fr_getR dX3_workOut_66 rfl fl_X3_15 k_o r_o_mind ?_
    refine fr_aload (q := 3) rfl dX3_workOut_69 rfl ?_
    refine fr_getR dX3_workOut_71 rfl fl_X3_66 k_a4 r_a4_orders ?_
    refine fr_aload (q := 3) rfl dX3_workOut_74 rfl ?_
    refine fr_getI dX3_workOut_76 rfl fl_X3_60 k_a4 ?_
    obtain ⟨v4, I5, L6, hc7, h⟩ := h
    refine fr_callV2 (ν := mu_X4_value) (st2 := [.int v4]) (As := [rf g a4_orders, .int (I1 a4 2)]) (st := []) (v := (some (.int v4))) (M1 := (Z, I5, L6)) dX3_workOut_79 rfl ml_X3_69 mo_X4_value mi_X4_value (ci := 4) rfl rfl k_o_mind (Nat.le_of_ble_eq_true rfl) rfl rfl (Nat.le_of_ble_eq_true rfl) hc7 rfl ?_
    refine fr_if_eq (tgt := 91) dX3_workOut_82 (by decide) rfl (fun hc => ?_) (fun hc => ?_)
    · have h := h.1 hc
      exact fr_sub [0, 1, 2, 3, 4, 5] rfl h
    · have h := h.2 hc
      refine fr_iload_n (i := 2) (q := 1) rfl dX3_workOut_85 rfl ?_
      refine fr_sipush (v := 400) (by decide) dX3_workOut_86 rfl ?_
      refine fr_iadd dX3_workOut_89 rfl ?_
      exact fr_iret rfl dX3_workOut_90 h.1 h.2
abbrev Lp_X3_workOut_126 (g : GE) (d : Nat) (u2 : Int32) (u5 : Int32) (u6 : Int32) (u7 : Int32) (M : Mem) (r : Option Value) (M' : Mem) : Prop := Fr g d mu_X3_workOut 126 [(2, .int u2), (5, .int u5), (6, .int u6), (7, .int u7)] [] M r M'
theorem wp_X3_workOut_91 {g : GE} {Z : Zs} {I : Nat → Nat → Int32} {L : Nat → Nat → Int64} {r : Option Value} {M' : Mem} {o : Nat} {u2 : Int32} {u3 : Int32} {a4 : Nat} {u5 : Int32} {u6 : Int32} {o_mind : Nat} {a4_orders : Nat} (k_o : KM Z o 3) (k_a4 : KM Z a4 6) (r_o_mind : Z.2.1 o 1 = some o_mind) (k_o_mind : KM Z o_mind 4) (r_a4_orders : Z.2.1 a4 0 = some a4_orders) (k_a4_orders : KM Z a4_orders 13) (h : ((¬ (I a4 1) = ((-1)) → (∃ (v1 : Int32) (I2 : Nat → Nat → Int32) (L3 : Nat → Nat → Int64), Cl g 3 mu_X4_value [rf g o_mind, rf g a4_orders, .int (I a4 1)] (Z, I, L) (some (.int v1)) (Z, I2, L3) ∧ Lp_X3_workOut_126 g 4 u2 u5 u6 v1 (Z, I2, L3) r M')) ∧ ((I a4 1) = ((-1)) → (∃ (v5 : Int32), Cl g 1 mu_X3_plainDeed [.int u3] (Z, I, L) (some (.int v5)) (Z, I, L) ∧ Lp_X3_workOut_126 g 4 u2 u5 u6 v5 (Z, I, L) r M')))) : Lp_X3_workOut_91 g 4 o u2 u3 a4 u5 u6 (Z, I, L) r M' := by
  refine fr_aload (q := 3) rfl dX3_workOut_91 rfl ?_
  refine fr_getI dX3_workOut_93 rfl fl_X3_75 k_a4 ?_
  refine fr_iconst (v := (-1)) (by decide) dX3_workOut_96 rfl ?_
  refine fr_icmp_ne (tgt := 107) dX3_workOut_97 (by decide) rfl (fun hc => ?_) (fun hc => ?_)
  · have h := h.1 hc
    refine fr_aload_n (i := 0) (q := 0) rfl dX3_workOut_107 rfl ?_
    refine fr_getR dX3_workOut_108 rfl fl_X3_15 k_o r_o_mind ?_
    refine fr_aload (q := 3) rfl dX3_workOut_111 rfl ?_
    refine fr_getR dX3_workOut_113 rfl fl_X3_66 k_a4 r_a4_orders ?_
    refine fr_aload (q := 3) rfl dX3_workOut_116 rfl ?_
    refine fr_getI dX3_workOut_118 rfl fl_X3_75 k_a4 ?_
    obtain ⟨v1, I2, L3, hc4, h⟩ := h
    refine fr_callV2 (ν := mu_X4_value) (st2 := [.int v1]) (As := [rf g a4_orders, .int (I a4 1)]) (st := []) (v := (some (.int v1))) (M1 := (Z, I2, L3)) dX3_workOut_121 rfl ml_X3_69 mo_X4_value mi_X4_value (ci := 4) rfl rfl k_o_mind (Nat.le_of_ble_eq_true rfl) rfl rfl (Nat.le_of_ble_eq_true rfl) hc4 rfl ?_
    refine fr_istore (lv' := [(7, .int v1), (0, rf g o), (2, .int u2), (3, .int u3), (4, rf g a4), (5, .int u5), (6, .int u6)]) dX3_workOut_124 rfl (by decide) rfl ?_
    exact fr_sub [2, 5, 6, 0] rfl h
  · have h := h.2 hc
    refine fr_iload_n (i := 3) (q := 2) rfl dX3_workOut_100 rfl ?_
    obtain ⟨v5, hc6, h⟩ := h
    refine fr_callS2 (ν := mu_X3_plainDeed) (st2 := [.int v5]) (As := [.int u3]) (st := []) (v := (some (.int v5))) (M1 := (Z, I, L)) dX3_workOut_101 rfl ml_X3_78 mo_X3_plainDeed ms_X3_plainDeed (Nat.le_of_ble_eq_true rfl) rfl rfl (Nat.le_of_ble_eq_true rfl) hc6 rfl ?_
    refine fr_goto (n := 124) dX3_workOut_104 (by decide) ?_
    refine fr_istore (lv' := [(7, .int v5), (0, rf g o), (2, .int u2), (3, .int u3), (4, rf g a4), (5, .int u5), (6, .int u6)]) dX3_workOut_124 rfl (by decide) rfl ?_
    exact fr_sub [2, 5, 6, 0] rfl h
theorem wp_X3_workOut_126 {g : GE} {Z : Zs} {I : Nat → Nat → Int32} {L : Nat → Nat → Int64} {r : Option Value} {M' : Mem} {u2 : Int32} {u5 : Int32} {u6 : Int32} {u7 : Int32}  (h : (((if 0 < (if u7 < 4 then u7 else 4) then (if u7 < 4 then u7 else 4) else 0) < 1 ∨ 4 < (if 0 < (if u7 < 4 then u7 else 4) then (if u7 < 4 then u7 else 4) else 0) → (r = some (.int u2) ∧ M' = (Z, I, L))) ∧ ((if 0 < (if u7 < 4 then u7 else 4) then (if u7 < 4 then u7 else 4) else 0) = 1 → ((¬ u6 = 1 → (r = some (.int ((4 * u5) + (u2 - u2 / 4 * 4))) ∧ M' = (Z, I, L))) ∧ (u6 = 1 → (r = some (.int (u2 + 200)) ∧ M' = (Z, I, L))))) ∧ ((if 0 < (if u7 < 4 then u7 else 4) then (if u7 < 4 then u7 else 4) else 0) = 2 → (∃ (v1 : Int32), Cl g 1 mu_X3_turned [.int u2, .int 3] (Z, I, L) (some (.int v1)) (Z, I, L) ∧ (r = some (.int v1) ∧ M' = (Z, I, L)))) ∧ ((if 0 < (if u7 < 4 then u7 else 4) then (if u7 < 4 then u7 else 4) else 0) = 3 → (∃ (v3 : Int32), Cl g 1 mu_X3_turned [.int u2, .int 1] (Z, I, L) (some (.int v3)) (Z, I, L) ∧ (r = some (.int v3) ∧ M' = (Z, I, L)))) ∧ ((if 0 < (if u7 < 4 then u7 else 4) then (if u7 < 4 then u7 else 4) else 0) = 4 → (∃ (v5 : Int32), Cl g 1 mu_X3_turned [.int u2, .int 2] (Z, I, L) (some (.int v5)) (Z, I, L) ∧ (r = some (.int v5) ∧ M' = (Z, I, L)))))) : Lp_X3_workOut_126 g 4 u2 u5 u6 u7 (Z, I, L) r M' := by
  refine fr_iconst (v := 0) (by decide) dX3_workOut_126 rfl ?_
  refine fr_iconst (v := 4) (by decide) dX3_workOut_127 rfl ?_
  refine fr_iload (q := 3) rfl dX3_workOut_128 rfl ?_
  refine fr_mmin dX3_workOut_130 rfl ml_X3_81 w_mmin (Nat.le_of_ble_eq_true rfl) (Nat.le_of_ble_eq_true rfl) ?_
  refine fr_mmax dX3_workOut_133 rfl ml_X3_87 w_mmax (Nat.le_of_ble_eq_true rfl) (Nat.le_of_ble_eq_true rfl) ?_
  rcases sw_cases (x := (if 0 < (if u7 < 4 then u7 else 4) then (if u7 < 4 then u7 else 4) else 0)) (lo := 1) (hi := 4) (k := 3) (by decide) (by decide) with hs | ⟨kk, hkk, hs⟩
  · have h := h.1 hs
    refine fr_tabD (n := 209) dX3_workOut_136 hs (by decide) (by decide) (by decide) ?_
    refine fr_iload_n (i := 2) (q := 0) rfl dX3_workOut_209 rfl ?_
    exact fr_iret rfl dX3_workOut_210 h.1 h.2
  · have h := h.2
    match kk, hkk, hs with
    | 0, _, hs =>
      have hs : (if 0 < (if u7 < 4 then u7 else 4) then (if u7 < 4 then u7 else 4) else 0) = 1 := hs.trans (by decide)
      have h := h.1 hs
      refine fr_tabK (n := 168) (y := 1) hs dX3_workOut_136 (by decide) (by decide) rfl (by decide) ?_
      refine fr_iload (q := 2) rfl dX3_workOut_168 rfl ?_
      refine fr_iconst (v := 1) (by decide) dX3_workOut_170 rfl ?_
      refine fr_icmp_ne (tgt := 182) dX3_workOut_171 (by decide) rfl (fun hc => ?_) (fun hc => ?_)
      · have h := h.1 hc
        refine fr_iconst (v := 4) (by decide) dX3_workOut_182 rfl ?_
        refine fr_iload (q := 1) rfl dX3_workOut_183 rfl ?_
        refine fr_imul dX3_workOut_185 rfl ?_
        refine fr_iload_n (i := 2) (q := 0) rfl dX3_workOut_186 rfl ?_
        refine fr_iconst (v := 4) (by decide) dX3_workOut_187 rfl ?_
        refine fr_irem (by decide) dX3_workOut_188 rfl ?_
        refine fr_iadd dX3_workOut_189 rfl ?_
        exact fr_iret rfl dX3_workOut_190 h.1 h.2
      · have h := h.2 hc
        refine fr_iload_n (i := 2) (q := 0) rfl dX3_workOut_174 rfl ?_
        refine fr_sipush (v := 200) (by decide) dX3_workOut_175 rfl ?_
        refine fr_iadd dX3_workOut_178 rfl ?_
        refine fr_goto (n := 190) dX3_workOut_179 (by decide) ?_
        exact fr_iret rfl dX3_workOut_190 h.1 h.2
    | 1, _, hs =>
      have hs : (if 0 < (if u7 < 4 then u7 else 4) then (if u7 < 4 then u7 else 4) else 0) = 2 := hs.trans (by decide)
      have h := h.2.1 hs
      refine fr_tabK (n := 191) (y := 2) hs dX3_workOut_136 (by decide) (by decide) rfl (by decide) ?_
      refine fr_iload_n (i := 2) (q := 0) rfl dX3_workOut_191 rfl ?_
      refine fr_iconst (v := 3) (by decide) dX3_workOut_192 rfl ?_
      obtain ⟨v1, hc2, h⟩ := h
      refine fr_callS2 (ν := mu_X3_turned) (st2 := [.int v1]) (As := [.int u2, .int 3]) (st := []) (v := (some (.int v1))) (M1 := (Z, I, L)) dX3_workOut_193 rfl ml_X3_90 mo_X3_turned ms_X3_turned (Nat.le_of_ble_eq_true rfl) rfl rfl (Nat.le_of_ble_eq_true rfl) hc2 rfl ?_
      exact fr_iret rfl dX3_workOut_196 h.1 h.2
    | 2, _, hs =>
      have hs : (if 0 < (if u7 < 4 then u7 else 4) then (if u7 < 4 then u7 else 4) else 0) = 3 := hs.trans (by decide)
      have h := h.2.2.1 hs
      refine fr_tabK (n := 197) (y := 3) hs dX3_workOut_136 (by decide) (by decide) rfl (by decide) ?_
      refine fr_iload_n (i := 2) (q := 0) rfl dX3_workOut_197 rfl ?_
      refine fr_iconst (v := 1) (by decide) dX3_workOut_198 rfl ?_
      obtain ⟨v3, hc4, h⟩ := h
      refine fr_callS2 (ν := mu_X3_turned) (st2 := [.int v3]) (As := [.int u2, .int 1]) (st := []) (v := (some (.int v3))) (M1 := (Z, I, L)) dX3_workOut_199 rfl ml_X3_90 mo_X3_turned ms_X3_turned (Nat.le_of_ble_eq_true rfl) rfl rfl (Nat.le_of_ble_eq_true rfl) hc4 rfl ?_
      exact fr_iret rfl dX3_workOut_202 h.1 h.2
    | 3, _, hs =>
      have hs : (if 0 < (if u7 < 4 then u7 else 4) then (if u7 < 4 then u7 else 4) else 0) = 4 := hs.trans (by decide)
      have h := h.2.2.2 hs
      refine fr_tabK (n := 203) (y := 4) hs dX3_workOut_136 (by decide) (by decide) rfl (by decide) ?_
      refine fr_iload_n (i := 2) (q := 0) rfl dX3_workOut_203 rfl ?_
      refine fr_iconst (v := 2) (by decide) dX3_workOut_204 rfl ?_
      obtain ⟨v5, hc6, h⟩ := h
      refine fr_callS2 (ν := mu_X3_turned) (st2 := [.int v5]) (As := [.int u2, .int 2]) (st := []) (v := (some (.int v5))) (M1 := (Z, I, L)) dX3_workOut_205 rfl ml_X3_90 mo_X3_turned ms_X3_turned (Nat.le_of_ble_eq_true rfl) rfl rfl (Nat.le_of_ble_eq_true rfl) hc6 rfl ?_
      exact fr_iret rfl dX3_workOut_208 h.1 h.2
    | kk + 4, hkk, _ => exact absurd hkk (by omega)
theorem cp_X3_lookAround {g : GE} {Z : Zs} {I : Nat → Nat → Int32} {L : Nat → Nat → Int64} {r : Option Value} {M' : Mem} {o : Nat} {x1 : Int32} {x2 : Int32} {x3 : Int32} {o_mind : Nat} {o_state : Nat} {o_state_kinds : Nat} (k_o : KM Z o 3) (r_o_mind : Z.2.1 o 1 = some o_mind) (k_o_mind : KM Z o_mind 4) (r_o_state : Z.2.1 o 0 = some o_state) (k_o_state : KM Z o_state 8) (r_o_state_kinds : Z.2.1 o_state 2 = some o_state_kinds) (k_o_state_kinds : KM Z o_state_kinds 2) (h : (∀ y1 : Int32, y1 = (x1 / 4) → (∃ (I2 : Nat → Nat → Int32) (L3 : Nat → Nat → Int64), Cl g 1 mu_X4_name [rf g o_mind, .int 0, .int x2] (Z, I, L) none (Z, I2, L3) ∧ (∃ (I5 : Nat → Nat → Int32) (L6 : Nat → Nat → Int64), Cl g 1 mu_X4_name [rf g o_mind, .int 1, .int (x1 - x1 / 4 * 4)] (Z, I2, L3) none (Z, I5, L6) ∧ (¬ (I5 o_state 0) = 0 ∧ (∃ (I9 : Nat → Nat → Int32) (L10 : Nat → Nat → Int64), Cl g 1 mu_X4_name [rf g o_mind, .int 2, .int (y1 - y1 / (I5 o_state 0) * (I5 o_state 0))] (Z, I5, L6) none (Z, I9, L10) ∧ (¬ (I9 o_state 0) = 0 ∧ (∃ (I13 : Nat → Nat → Int32) (L14 : Nat → Nat → Int64), Cl g 1 mu_X4_name [rf g o_mind, .int 3, .int (y1 / (I9 o_state 0))] (Z, I9, L10) none (Z, I13, L14) ∧ (∃ (v16 : Int32), Cl g 1 mu_X2_at [rf g o_state_kinds, .int y1] (Z, I13, L14) (some (.int v16)) (Z, I13, L14) ∧ (∃ (I18 : Nat → Nat → Int32) (L19 : Nat → Nat → Int64), Cl g 1 mu_X4_name [rf g o_mind, .int 4, .int v16] (Z, I13, L14) none (Z, I18, L19) ∧ (∃ (I21 : Nat → Nat → Int32) (L22 : Nat → Nat → Int64), Cl g 1 mu_X4_name [rf g o_mind, .int 5, .int x3] (Z, I18, L19) none (Z, I21, L22) ∧ (r = none ∧ M' = (Z, I21, L22))))))))))))) : Cl g 2 mu_X3_lookAround [rf g o, .int x1, .int x2, .int x3] (Z, I, L) r M' := by
  refine cl_of (lv := [(0, rf g o), (1, .int x1), (2, .int x2), (3, .int x3)]) (by decide) (Nat.le_of_ble_eq_true rfl) rfl ?_
  refine fr_iload_n (i := 1) (q := 1) rfl dX3_lookAround_0 rfl ?_
  refine fr_iconst (v := 4) (by decide) dX3_lookAround_1 rfl ?_
  refine fr_idiv (by decide) dX3_lookAround_2 rfl ?_
  refine fr_topi (fun y1 hy1 => ?_)
  have h := h y1 hy1
  refine fr_istore (lv' := [(4, .int y1), (0, rf g o), (1, .int x1), (2, .int x2), (3, .int x3)]) dX3_lookAround_3 rfl (by decide) rfl ?_
  refine fr_aload_n (i := 0) (q := 1) rfl dX3_lookAround_5 rfl ?_
  refine fr_getR dX3_lookAround_6 rfl fl_X3_15 k_o r_o_mind ?_
  refine fr_iconst (v := 0) (by decide) dX3_lookAround_9 rfl ?_
  refine fr_iload_n (i := 2) (q := 3) rfl dX3_lookAround_10 rfl ?_
  obtain ⟨I2, L3, hc4, h⟩ := h
  refine fr_callV2 (ν := mu_X4_name) (st2 := []) (As := [.int 0, .int x2]) (st := []) (v := none) (M1 := (Z, I2, L3)) dX3_lookAround_11 rfl ml_X3_93 mo_X4_name mi_X4_name (ci := 4) rfl rfl k_o_mind (Nat.le_of_ble_eq_true rfl) rfl rfl (Nat.le_of_ble_eq_true rfl) hc4 rfl ?_
  refine fr_aload_n (i := 0) (q := 1) rfl dX3_lookAround_14 rfl ?_
  refine fr_getR dX3_lookAround_15 rfl fl_X3_15 k_o r_o_mind ?_
  refine fr_iconst (v := 1) (by decide) dX3_lookAround_18 rfl ?_
  refine fr_iload_n (i := 1) (q := 2) rfl dX3_lookAround_19 rfl ?_
  refine fr_iconst (v := 4) (by decide) dX3_lookAround_20 rfl ?_
  refine fr_irem (by decide) dX3_lookAround_21 rfl ?_
  obtain ⟨I5, L6, hc7, h⟩ := h
  refine fr_callV2 (ν := mu_X4_name) (st2 := []) (As := [.int 1, .int (x1 - x1 / 4 * 4)]) (st := []) (v := none) (M1 := (Z, I5, L6)) dX3_lookAround_22 rfl ml_X3_93 mo_X4_name mi_X4_name (ci := 4) rfl rfl k_o_mind (Nat.le_of_ble_eq_true rfl) rfl rfl (Nat.le_of_ble_eq_true rfl) hc7 rfl ?_
  refine fr_aload_n (i := 0) (q := 1) rfl dX3_lookAround_25 rfl ?_
  refine fr_getR dX3_lookAround_26 rfl fl_X3_15 k_o r_o_mind ?_
  refine fr_iconst (v := 2) (by decide) dX3_lookAround_29 rfl ?_
  refine fr_iload (q := 0) rfl dX3_lookAround_30 rfl ?_
  refine fr_aload_n (i := 0) (q := 1) rfl dX3_lookAround_32 rfl ?_
  refine fr_getR dX3_lookAround_33 rfl fl_X3_9 k_o r_o_state ?_
  refine fr_getI dX3_lookAround_36 rfl fl_X3_97 k_o_state ?_
  obtain ⟨hz8, h⟩ := h
  refine fr_irem hz8 dX3_lookAround_39 rfl ?_
  obtain ⟨I9, L10, hc11, h⟩ := h
  refine fr_callV2 (ν := mu_X4_name) (st2 := []) (As := [.int 2, .int (y1 - y1 / (I5 o_state 0) * (I5 o_state 0))]) (st := []) (v := none) (M1 := (Z, I9, L10)) dX3_lookAround_40 rfl ml_X3_93 mo_X4_name mi_X4_name (ci := 4) rfl rfl k_o_mind (Nat.le_of_ble_eq_true rfl) rfl rfl (Nat.le_of_ble_eq_true rfl) hc11 rfl ?_
  refine fr_aload_n (i := 0) (q := 1) rfl dX3_lookAround_43 rfl ?_
  refine fr_getR dX3_lookAround_44 rfl fl_X3_15 k_o r_o_mind ?_
  refine fr_iconst (v := 3) (by decide) dX3_lookAround_47 rfl ?_
  refine fr_iload (q := 0) rfl dX3_lookAround_48 rfl ?_
  refine fr_aload_n (i := 0) (q := 1) rfl dX3_lookAround_50 rfl ?_
  refine fr_getR dX3_lookAround_51 rfl fl_X3_9 k_o r_o_state ?_
  refine fr_getI dX3_lookAround_54 rfl fl_X3_97 k_o_state ?_
  obtain ⟨hz12, h⟩ := h
  refine fr_idiv hz12 dX3_lookAround_57 rfl ?_
  obtain ⟨I13, L14, hc15, h⟩ := h
  refine fr_callV2 (ν := mu_X4_name) (st2 := []) (As := [.int 3, .int (y1 / (I9 o_state 0))]) (st := []) (v := none) (M1 := (Z, I13, L14)) dX3_lookAround_58 rfl ml_X3_93 mo_X4_name mi_X4_name (ci := 4) rfl rfl k_o_mind (Nat.le_of_ble_eq_true rfl) rfl rfl (Nat.le_of_ble_eq_true rfl) hc15 rfl ?_
  refine fr_aload_n (i := 0) (q := 1) rfl dX3_lookAround_61 rfl ?_
  refine fr_getR dX3_lookAround_62 rfl fl_X3_15 k_o r_o_mind ?_
  refine fr_iconst (v := 4) (by decide) dX3_lookAround_65 rfl ?_
  refine fr_aload_n (i := 0) (q := 1) rfl dX3_lookAround_66 rfl ?_
  refine fr_getR dX3_lookAround_67 rfl fl_X3_9 k_o r_o_state ?_
  refine fr_getR dX3_lookAround_70 rfl fl_X3_47 k_o_state r_o_state_kinds ?_
  refine fr_iload (q := 0) rfl dX3_lookAround_73 rfl ?_
  obtain ⟨v16, hc17, h⟩ := h
  refine fr_callV2 (ν := mu_X2_at) (st2 := [.int v16, .int 4, rf g o_mind]) (As := [.int y1]) (st := [.int 4, rf g o_mind]) (v := (some (.int v16))) (M1 := (Z, I13, L14)) dX3_lookAround_75 rfl ml_X3_51 mo_X2_at mi_X2_at (ci := 2) rfl rfl k_o_state_kinds (Nat.le_of_ble_eq_true rfl) rfl rfl (Nat.le_of_ble_eq_true rfl) hc17 rfl ?_
  obtain ⟨I18, L19, hc20, h⟩ := h
  refine fr_callV2 (ν := mu_X4_name) (st2 := []) (As := [.int 4, .int v16]) (st := []) (v := none) (M1 := (Z, I18, L19)) dX3_lookAround_78 rfl ml_X3_93 mo_X4_name mi_X4_name (ci := 4) rfl rfl k_o_mind (Nat.le_of_ble_eq_true rfl) rfl rfl (Nat.le_of_ble_eq_true rfl) hc20 rfl ?_
  refine fr_aload_n (i := 0) (q := 1) rfl dX3_lookAround_81 rfl ?_
  refine fr_getR dX3_lookAround_82 rfl fl_X3_15 k_o r_o_mind ?_
  refine fr_iconst (v := 5) (by decide) dX3_lookAround_85 rfl ?_
  refine fr_iload_n (i := 3) (q := 4) rfl dX3_lookAround_86 rfl ?_
  obtain ⟨I21, L22, hc23, h⟩ := h
  refine fr_callV2 (ν := mu_X4_name) (st2 := []) (As := [.int 5, .int x3]) (st := []) (v := none) (M1 := (Z, I21, L22)) dX3_lookAround_87 rfl ml_X3_93 mo_X4_name mi_X4_name (ci := 4) rfl rfl k_o_mind (Nat.le_of_ble_eq_true rfl) rfl rfl (Nat.le_of_ble_eq_true rfl) hc23 rfl ?_
  exact fr_vret rfl dX3_lookAround_90 h.1 h.2
theorem cp_X3_cellAhead {g : GE} {Z : Zs} {I : Nat → Nat → Int32} {L : Nat → Nat → Int64} {r : Option Value} {M' : Mem} {o : Nat} {x1 : Int32} {o_state : Nat} (k_o : KM Z o 3) (r_o_state : Z.2.1 o 0 = some o_state) (k_o_state : KM Z o_state 8) (h : (¬ (I o_state 0) = 0 ∧ (∀ y2 : Int32, y2 = ((x1 / 4) - (x1 / 4) / (I o_state 0) * (I o_state 0)) → (¬ (I o_state 0) = 0 ∧ (∀ y4 : Int32, y4 = ((x1 / 4) / (I o_state 0)) → (((x1 - x1 / 4 * 4) < 0 ∨ 2 < (x1 - x1 / 4 * 4) → ((y2 ≤ 0 → (r = some (.int ((-1))) ∧ M' = (Z, I, L))) ∧ (¬ y2 ≤ 0 → (r = some (.int ((x1 / 4) - 1)) ∧ M' = (Z, I, L))))) ∧ ((x1 - x1 / 4 * 4) = 0 → ((y4 ≤ 0 → (r = some (.int ((-1))) ∧ M' = (Z, I, L))) ∧ (¬ y4 ≤ 0 → (r = some (.int ((x1 / 4) - (I o_state 0))) ∧ M' = (Z, I, L))))) ∧ ((x1 - x1 / 4 * 4) = 1 → ((((I o_state 0) - 1) ≤ y2 → (r = some (.int ((-1))) ∧ M' = (Z, I, L))) ∧ (¬ ((I o_state 0) - 1) ≤ y2 → (r = some (.int ((x1 / 4) + 1)) ∧ M' = (Z, I, L))))) ∧ ((x1 - x1 / 4 * 4) = 2 → ((((I o_state 1) - 1) ≤ y4 → (r = some (.int ((-1))) ∧ M' = (Z, I, L))) ∧ (¬ ((I o_state 1) - 1) ≤ y4 → (r = some (.int ((x1 / 4) + (I o_state 0))) ∧ M' = (Z, I, L))))))))))) : Cl g 1 mu_X3_cellAhead [rf g o, .int x1] (Z, I, L) r M' := by
  refine cl_of (lv := [(0, rf g o), (1, .int x1)]) (by decide) (Nat.le_of_ble_eq_true rfl) rfl ?_
  refine fr_iload_n (i := 1) (q := 1) rfl dX3_cellAhead_0 rfl ?_
  refine fr_iconst (v := 4) (by decide) dX3_cellAhead_1 rfl ?_
  refine fr_idiv (by decide) dX3_cellAhead_2 rfl ?_
  refine fr_aload_n (i := 0) (q := 0) rfl dX3_cellAhead_3 rfl ?_
  refine fr_getR dX3_cellAhead_4 rfl fl_X3_9 k_o r_o_state ?_
  refine fr_getI dX3_cellAhead_7 rfl fl_X3_97 k_o_state ?_
  obtain ⟨hz1, h⟩ := h
  refine fr_irem hz1 dX3_cellAhead_10 rfl ?_
  refine fr_topi (fun y2 hy2 => ?_)
  have h := h y2 hy2
  refine fr_istore_n (i := 2) (lv' := [(2, .int y2), (0, rf g o), (1, .int x1)]) dX3_cellAhead_11 rfl (by decide) rfl ?_
  refine fr_iload_n (i := 1) (q := 2) rfl dX3_cellAhead_12 rfl ?_
  refine fr_iconst (v := 4) (by decide) dX3_cellAhead_13 rfl ?_
  refine fr_idiv (by decide) dX3_cellAhead_14 rfl ?_
  refine fr_aload_n (i := 0) (q := 1) rfl dX3_cellAhead_15 rfl ?_
  refine fr_getR dX3_cellAhead_16 rfl fl_X3_9 k_o r_o_state ?_
  refine fr_getI dX3_cellAhead_19 rfl fl_X3_97 k_o_state ?_
  obtain ⟨hz3, h⟩ := h
  refine fr_idiv hz3 dX3_cellAhead_22 rfl ?_
  refine fr_topi (fun y4 hy4 => ?_)
  have h := h y4 hy4
  refine fr_istore_n (i := 3) (lv' := [(3, .int y4), (2, .int y2), (0, rf g o), (1, .int x1)]) dX3_cellAhead_23 rfl (by decide) rfl ?_
  refine fr_iload_n (i := 1) (q := 3) rfl dX3_cellAhead_24 rfl ?_
  refine fr_iconst (v := 4) (by decide) dX3_cellAhead_25 rfl ?_
  refine fr_irem (by decide) dX3_cellAhead_26 rfl ?_
  rcases sw_cases (x := (x1 - x1 / 4 * 4)) (lo := 0) (hi := 2) (k := 2) (by decide) (by decide) with hs | ⟨kk, hkk, hs⟩
  · have h := h.1 hs
    refine fr_tabD (n := 124) dX3_cellAhead_27 hs (by decide) (by decide) (by decide) ?_
    refine fr_iload_n (i := 2) (q := 1) rfl dX3_cellAhead_124 rfl ?_
    refine fr_if_le (tgt := 136) dX3_cellAhead_125 (by decide) rfl (fun hc => ?_) (fun hc => ?_)
    · have h := h.1 hc
      refine fr_iconst (v := (-1)) (by decide) dX3_cellAhead_136 rfl ?_
      exact fr_iret rfl dX3_cellAhead_137 h.1 h.2
    · have h := h.2 hc
      refine fr_iload_n (i := 1) (q := 3) rfl dX3_cellAhead_128 rfl ?_
      refine fr_iconst (v := 4) (by decide) dX3_cellAhead_129 rfl ?_
      refine fr_idiv (by decide) dX3_cellAhead_130 rfl ?_
      refine fr_iconst (v := 1) (by decide) dX3_cellAhead_131 rfl ?_
      refine fr_isub dX3_cellAhead_132 rfl ?_
      refine fr_goto (n := 137) dX3_cellAhead_133 (by decide) ?_
      exact fr_iret rfl dX3_cellAhead_137 h.1 h.2
  · have h := h.2
    match kk, hkk, hs with
    | 0, _, hs =>
      have hs : (x1 - x1 / 4 * 4) = 0 := hs.trans (by decide)
      have h := h.1 hs
      refine fr_tabK (n := 52) (y := 0) hs dX3_cellAhead_27 (by decide) (by decide) rfl (by decide) ?_
      refine fr_iload_n (i := 3) (q := 0) rfl dX3_cellAhead_52 rfl ?_
      refine fr_if_le (tgt := 70) dX3_cellAhead_53 (by decide) rfl (fun hc => ?_) (fun hc => ?_)
      · have h := h.1 hc
        refine fr_iconst (v := (-1)) (by decide) dX3_cellAhead_70 rfl ?_
        exact fr_iret rfl dX3_cellAhead_71 h.1 h.2
      · have h := h.2 hc
        refine fr_iload_n (i := 1) (q := 3) rfl dX3_cellAhead_56 rfl ?_
        refine fr_iconst (v := 4) (by decide) dX3_cellAhead_57 rfl ?_
        refine fr_idiv (by decide) dX3_cellAhead_58 rfl ?_
        refine fr_aload_n (i := 0) (q := 2) rfl dX3_cellAhead_59 rfl ?_
        refine fr_getR dX3_cellAhead_60 rfl fl_X3_9 k_o r_o_state ?_
        refine fr_getI dX3_cellAhead_63 rfl fl_X3_97 k_o_state ?_
        refine fr_isub dX3_cellAhead_66 rfl ?_
        refine fr_goto (n := 71) dX3_cellAhead_67 (by decide) ?_
        exact fr_iret rfl dX3_cellAhead_71 h.1 h.2
    | 1, _, hs =>
      have hs : (x1 - x1 / 4 * 4) = 1 := hs.trans (by decide)
      have h := h.2.1 hs
      refine fr_tabK (n := 72) (y := 1) hs dX3_cellAhead_27 (by decide) (by decide) rfl (by decide) ?_
      refine fr_iload_n (i := 2) (q := 1) rfl dX3_cellAhead_72 rfl ?_
      refine fr_aload_n (i := 0) (q := 2) rfl dX3_cellAhead_73 rfl ?_
      refine fr_getR dX3_cellAhead_74 rfl fl_X3_9 k_o r_o_state ?_
      refine fr_getI dX3_cellAhead_77 rfl fl_X3_97 k_o_state ?_
      refine fr_iconst (v := 1) (by decide) dX3_cellAhead_80 rfl ?_
      refine fr_isub dX3_cellAhead_81 rfl ?_
      refine fr_icmp_ge (tgt := 93) dX3_cellAhead_82 (by decide) rfl (fun hc => ?_) (fun hc => ?_)
      · have h := h.1 hc
        refine fr_iconst (v := (-1)) (by decide) dX3_cellAhead_93 rfl ?_
        exact fr_iret rfl dX3_cellAhead_94 h.1 h.2
      · have h := h.2 hc
        refine fr_iload_n (i := 1) (q := 3) rfl dX3_cellAhead_85 rfl ?_
        refine fr_iconst (v := 4) (by decide) dX3_cellAhead_86 rfl ?_
        refine fr_idiv (by decide) dX3_cellAhead_87 rfl ?_
        refine fr_iconst (v := 1) (by decide) dX3_cellAhead_88 rfl ?_
        refine fr_iadd dX3_cellAhead_89 rfl ?_
        refine fr_goto (n := 94) dX3_cellAhead_90 (by decide) ?_
        exact fr_iret rfl dX3_cellAhead_94 h.1 h.2
    | 2, _, hs =>
      have hs : (x1 - x1 / 4 * 4) = 2 := hs.trans (by decide)
      have h := h.2.2 hs
      refine fr_tabK (n := 95) (y := 2) hs dX3_cellAhead_27 (by decide) (by decide) rfl (by decide) ?_
      refine fr_iload_n (i := 3) (q := 0) rfl dX3_cellAhead_95 rfl ?_
      refine fr_aload_n (i := 0) (q := 2) rfl dX3_cellAhead_96 rfl ?_
      refine fr_getR dX3_cellAhead_97 rfl fl_X3_9 k_o r_o_state ?_
      refine fr_getI dX3_cellAhead_100 rfl fl_X3_100 k_o_state ?_
      refine fr_iconst (v := 1) (by decide) dX3_cellAhead_103 rfl ?_
      refine fr_isub dX3_cellAhead_104 rfl ?_
      refine fr_icmp_ge (tgt := 122) dX3_cellAhead_105 (by decide) rfl (fun hc => ?_) (fun hc => ?_)
      · have h := h.1 hc
        refine fr_iconst (v := (-1)) (by decide) dX3_cellAhead_122 rfl ?_
        exact fr_iret rfl dX3_cellAhead_123 h.1 h.2
      · have h := h.2 hc
        refine fr_iload_n (i := 1) (q := 3) rfl dX3_cellAhead_108 rfl ?_
        refine fr_iconst (v := 4) (by decide) dX3_cellAhead_109 rfl ?_
        refine fr_idiv (by decide) dX3_cellAhead_110 rfl ?_
        refine fr_aload_n (i := 0) (q := 2) rfl dX3_cellAhead_111 rfl ?_
        refine fr_getR dX3_cellAhead_112 rfl fl_X3_9 k_o r_o_state ?_
        refine fr_getI dX3_cellAhead_115 rfl fl_X3_97 k_o_state ?_
        refine fr_iadd dX3_cellAhead_118 rfl ?_
        refine fr_goto (n := 123) dX3_cellAhead_119 (by decide) ?_
        exact fr_iret rfl dX3_cellAhead_123 h.1 h.2
    | kk + 3, hkk, _ => exact absurd hkk (by omega)
theorem cp_X3_plainDeed {g : GE} {Z : Zs} {I : Nat → Nat → Int32} {L : Nat → Nat → Int64} {r : Option Value} {M' : Mem} {x0 : Int32}  (h : ((¬ x0 = 3 → (r = some (.int (x0 + 1)) ∧ M' = (Z, I, L))) ∧ (x0 = 3 → (r = some (.int 0) ∧ M' = (Z, I, L))))) : Cl g 1 mu_X3_plainDeed [.int x0] (Z, I, L) r M' := by
  refine cl_of (lv := [(0, .int x0)]) (by decide) (Nat.le_of_ble_eq_true rfl) rfl ?_
  refine fr_iload_n (i := 0) (q := 0) rfl dX3_plainDeed_0 rfl ?_
  refine fr_iconst (v := 3) (by decide) dX3_plainDeed_1 rfl ?_
  refine fr_icmp_ne (tgt := 9) dX3_plainDeed_2 (by decide) rfl (fun hc => ?_) (fun hc => ?_)
  · have h := h.1 hc
    refine fr_iload_n (i := 0) (q := 0) rfl dX3_plainDeed_9 rfl ?_
    refine fr_iconst (v := 1) (by decide) dX3_plainDeed_10 rfl ?_
    refine fr_iadd dX3_plainDeed_11 rfl ?_
    exact fr_iret rfl dX3_plainDeed_12 h.1 h.2
  · have h := h.2 hc
    refine fr_iconst (v := 0) (by decide) dX3_plainDeed_5 rfl ?_
    refine fr_goto (n := 12) dX3_plainDeed_6 (by decide) ?_
    exact fr_iret rfl dX3_plainDeed_12 h.1 h.2
theorem cp_X3_turned {g : GE} {Z : Zs} {I : Nat → Nat → Int32} {L : Nat → Nat → Int64} {r : Option Value} {M' : Mem} {x0 : Int32} {x1 : Int32}  (h : (r = some (.int (((x0 / 4) * 4) + (((x0 - x0 / 4 * 4) + x1) - ((x0 - x0 / 4 * 4) + x1) / 4 * 4))) ∧ M' = (Z, I, L))) : Cl g 1 mu_X3_turned [.int x0, .int x1] (Z, I, L) r M' := by
  refine cl_of (lv := [(0, .int x0), (1, .int x1)]) (by decide) (Nat.le_of_ble_eq_true rfl) rfl ?_
  refine fr_iload_n (i := 0) (q := 0) rfl dX3_turned_0 rfl ?_
  refine fr_iconst (v := 4) (by decide) dX3_turned_1 rfl ?_
  refine fr_idiv (by decide) dX3_turned_2 rfl ?_
  refine fr_iconst (v := 4) (by decide) dX3_turned_3 rfl ?_
  refine fr_imul dX3_turned_4 rfl ?_
  refine fr_iload_n (i := 0) (q := 0) rfl dX3_turned_5 rfl ?_
  refine fr_iconst (v := 4) (by decide) dX3_turned_6 rfl ?_
  refine fr_irem (by decide) dX3_turned_7 rfl ?_
  refine fr_iload_n (i := 1) (q := 1) rfl dX3_turned_8 rfl ?_
  refine fr_iadd dX3_turned_9 rfl ?_
  refine fr_iconst (v := 4) (by decide) dX3_turned_10 rfl ?_
  refine fr_irem (by decide) dX3_turned_11 rfl ?_
  refine fr_iadd dX3_turned_12 rfl ?_
  exact fr_iret rfl dX3_turned_13 h.1 h.2
