abbrev Lp_X12_copy_2 (g : GE) (d : Nat) (a0 : Nat) (a1 : Nat) (u2 : Int32) (M : Mem) (r : Option Value) (M' : Mem) : Prop := Fr g d mu_X12_copy 2 [(0, rf g a0), (1, rf g a1), (2, .int u2)] [] M r M'
theorem cp_X12_copy {g : GE} {Z : Zs} {I : Nat → Nat → Int32} {L : Nat → Nat → Int64} {r : Option Value} {M' : Mem} {a0 : Nat} {a1 : Nat} (k_a0 : KM Z a0 13) (k_a1 : KM Z a1 13) (h : Lp_X12_copy_2 g 1 a0 a1 0 (Z, I, L) r M') : Cl g 1 mu_X12_copy [rf g a0, rf g a1] (Z, I, L) r M' := by
  refine cl_of (lv := [(0, rf g a0), (1, rf g a1)]) (by decide) (Nat.le_of_ble_eq_true rfl) rfl ?_
  refine fr_iconst (v := 0) (by decide) dX12_copy_0 rfl ?_
  refine fr_istore_n (i := 2) (lv' := [(2, .int 0), (0, rf g a0), (1, rf g a1)]) dX12_copy_1 rfl (by decide) rfl ?_
  exact fr_sub [1, 2, 0] rfl h
theorem wp_X12_copy_2 {g : GE} {Z : Zs} {I : Nat → Nat → Int32} {L : Nat → Nat → Int64} {r : Option Value} {M' : Mem} {a0 : Nat} {a1 : Nat} {u2 : Int32} (k_a0 : KM Z a0 13) (k_a1 : KM Z a1 13) (h : ((205 ≤ u2 → (r = none ∧ M' = (Z, I, L))) ∧ (¬ 205 ≤ u2 → (vp_in u2 (Z.2.2.1 a0) ∧ (vp_in u2 (Z.2.2.1 a1) ∧ (∀ I3 : Nat → Nat → Int32, I3 = rw1 I a1 (upd (I a1) u2.toNatClampNeg (I a0 u2.toNatClampNeg)) → (∀ y4 : Int32, y4 = (u2 + 1) → Lp_X12_copy_2 g 1 a0 a1 y4 (Z, I3, L) r M'))))))) : Lp_X12_copy_2 g 1 a0 a1 u2 (Z, I, L) r M' := by
  refine fr_iload_n (i := 2) (q := 2) rfl dX12_copy_2 rfl ?_
  refine fr_sipush (v := 205) (by decide) dX12_copy_3 rfl ?_
  refine fr_icmp_ge (tgt := 21) dX12_copy_6 (by decide) rfl (fun hc => ?_) (fun hc => ?_)
  · have h := h.1 hc
    exact fr_vret rfl dX12_copy_21 h.1 h.2
  · have h := h.2 hc
    refine fr_aload_n (i := 1) (q := 1) rfl dX12_copy_9 rfl ?_
    refine fr_iload_n (i := 2) (q := 2) rfl dX12_copy_10 rfl ?_
    refine fr_aload_n (i := 0) (q := 0) rfl dX12_copy_11 rfl ?_
    refine fr_iload_n (i := 2) (q := 2) rfl dX12_copy_12 rfl ?_
    obtain ⟨hz1, h⟩ := h
    refine fr_iald dX12_copy_13 rfl k_a0 hz1 ?_
    obtain ⟨hz2, h⟩ := h
    refine fr_iast dX12_copy_14 rfl k_a1 hz2 ?_
    refine fr_memI (fun I3 hI3 => ?_)
    have h := h I3 hI3
    obtain ⟨y4, hy4⟩ : ∃ y : Int32, y = u2 + 1 := ⟨_, rfl⟩
    have h := h y4 hy4
    refine fr_iinc (q := 2) (v := y4) (lv' := [(2, .int y4), (0, rf g a0), (1, rf g a1)]) rfl (by rw [hy4]; rfl) dX12_copy_15 rfl (by decide) rfl ?_
    refine fr_goto (n := 2) dX12_copy_18 (by decide) ?_
    exact fr_sub [1, 2, 0] rfl h
theorem cp_X12_isIn {g : GE} {Z : Zs} {I : Nat → Nat → Int32} {L : Nat → Nat → Int64} {r : Option Value} {M' : Mem} {x0 : Int32} {x1 : Int32} {x2 : Int32}  (h : ((x0 < x1 → (r = some (.int 0) ∧ M' = (Z, I, L))) ∧ (¬ x0 < x1 → ((x2 < x0 → (r = some (.int 0) ∧ M' = (Z, I, L))) ∧ (¬ x2 < x0 → (r = some (.int 1) ∧ M' = (Z, I, L))))))) : Cl g 1 mu_X12_isIn [.int x0, .int x1, .int x2] (Z, I, L) r M' := by
  refine cl_of (lv := [(0, .int x0), (1, .int x1), (2, .int x2)]) (by decide) (Nat.le_of_ble_eq_true rfl) rfl ?_
  refine fr_iload_n (i := 0) (q := 0) rfl dX12_isIn_0 rfl ?_
  refine fr_iload_n (i := 1) (q := 1) rfl dX12_isIn_1 rfl ?_
  refine fr_icmp_lt (tgt := 14) dX12_isIn_2 (by decide) rfl (fun hc => ?_) (fun hc => ?_)
  · have h := h.1 hc
    refine fr_iconst (v := 0) (by decide) dX12_isIn_14 rfl ?_
    exact fr_zret (by decide) rfl dX12_isIn_15 h.1 h.2
  · have h := h.2 hc
    refine fr_iload_n (i := 0) (q := 0) rfl dX12_isIn_5 rfl ?_
    refine fr_iload_n (i := 2) (q := 2) rfl dX12_isIn_6 rfl ?_
    refine fr_icmp_gt (tgt := 14) dX12_isIn_7 (by decide) rfl (fun hc => ?_) (fun hc => ?_)
    · have h := h.1 hc
      refine fr_iconst (v := 0) (by decide) dX12_isIn_14 rfl ?_
      exact fr_zret (by decide) rfl dX12_isIn_15 h.1 h.2
    · have h := h.2 hc
      refine fr_iconst (v := 1) (by decide) dX12_isIn_10 rfl ?_
      refine fr_goto (n := 15) dX12_isIn_11 (by decide) ?_
      exact fr_zret (by decide) rfl dX12_isIn_15 h.1 h.2
theorem cp_X12_isCell {g : GE} {Z : Zs} {I : Nat → Nat → Int32} {L : Nat → Nat → Int64} {r : Option Value} {M' : Mem} {o : Nat} {x1 : Int32} (k_o : KM Z o 12) (h : (∃ (v1 : Int32), Cl g 1 mu_X12_isIn [.int x1, .int 0, .int (((I o 2) * (I o 3)) - 1)] (Z, I, L) (some (.int v1)) (Z, I, L) ∧ ((v1 = 0 ∨ v1 = 1) ∧ r = some (.int v1) ∧ M' = (Z, I, L)))) : Cl g 2 mu_X12_isCell [rf g o, .int x1] (Z, I, L) r M' := by
  refine cl_of (lv := [(0, rf g o), (1, .int x1)]) (by decide) (Nat.le_of_ble_eq_true rfl) rfl ?_
  refine fr_iload_n (i := 1) (q := 1) rfl dX12_isCell_0 rfl ?_
  refine fr_iconst (v := 0) (by decide) dX12_isCell_1 rfl ?_
  refine fr_aload_n (i := 0) (q := 0) rfl dX12_isCell_2 rfl ?_
  refine fr_getI dX12_isCell_3 rfl fl_X12_85 k_o ?_
  refine fr_aload_n (i := 0) (q := 0) rfl dX12_isCell_6 rfl ?_
  refine fr_getI dX12_isCell_7 rfl fl_X12_88 k_o ?_
  refine fr_imul dX12_isCell_10 rfl ?_
  refine fr_iconst (v := 1) (by decide) dX12_isCell_11 rfl ?_
  refine fr_isub dX12_isCell_12 rfl ?_
  obtain ⟨v1, hc2, h⟩ := h
  refine fr_callS2 (ν := mu_X12_isIn) (st2 := [.int v1]) (As := [.int x1, .int 0, .int (((I o 2) * (I o 3)) - 1)]) (st := []) (v := (some (.int v1))) (M1 := (Z, I, L)) dX12_isCell_13 rfl ml_X12_95 mo_X12_isIn ms_X12_isIn (Nat.le_of_ble_eq_true rfl) rfl rfl (Nat.le_of_ble_eq_true rfl) hc2 rfl ?_
  exact fr_zret h.1 rfl dX12_isCell_16 h.2.1 h.2.2
theorem cp_X12_isWall {g : GE} {Z : Zs} {I : Nat → Nat → Int32} {L : Nat → Nat → Int64} {r : Option Value} {M' : Mem} {o : Nat} {x1 : Int32} {o_a : Nat} (k_o : KM Z o 12) (r_o_a : Z.2.1 o 0 = some o_a) (k_o_a : KM Z o_a 13) (h : (vp_in (10 + x1) (Z.2.2.1 o_a) ∧ ((¬ (I o_a (10 + x1).toNatClampNeg) = 1 → (r = some (.int 0) ∧ M' = (Z, I, L))) ∧ ((I o_a (10 + x1).toNatClampNeg) = 1 → (r = some (.int 1) ∧ M' = (Z, I, L)))))) : Cl g 1 mu_X12_isWall [rf g o, .int x1] (Z, I, L) r M' := by
  refine cl_of (lv := [(0, rf g o), (1, .int x1)]) (by decide) (Nat.le_of_ble_eq_true rfl) rfl ?_
  refine fr_aload_n (i := 0) (q := 0) rfl dX12_isWall_0 rfl ?_
  refine fr_getR dX12_isWall_1 rfl fl_X12_7 k_o r_o_a ?_
  refine fr_bipush (v := 10) (by decide) dX12_isWall_4 rfl ?_
  refine fr_iload_n (i := 1) (q := 1) rfl dX12_isWall_6 rfl ?_
  refine fr_iadd dX12_isWall_7 rfl ?_
  obtain ⟨hz1, h⟩ := h
  refine fr_iald dX12_isWall_8 rfl k_o_a hz1 ?_
  refine fr_iconst (v := 1) (by decide) dX12_isWall_9 rfl ?_
  refine fr_icmp_ne (tgt := 17) dX12_isWall_10 (by decide) rfl (fun hc => ?_) (fun hc => ?_)
  · have h := h.1 hc
    refine fr_iconst (v := 0) (by decide) dX12_isWall_17 rfl ?_
    exact fr_zret (by decide) rfl dX12_isWall_18 h.1 h.2
  · have h := h.2 hc
    refine fr_iconst (v := 1) (by decide) dX12_isWall_13 rfl ?_
    refine fr_goto (n := 18) dX12_isWall_14 (by decide) ?_
    exact fr_zret (by decide) rfl dX12_isWall_18 h.1 h.2
theorem cp_X12_isPose {g : GE} {Z : Zs} {I : Nat → Nat → Int32} {L : Nat → Nat → Int64} {r : Option Value} {M' : Mem} {o : Nat} {x1 : Int32} (k_o : KM Z o 12) (h : (∃ (v1 : Int32), Cl g 1 mu_X12_isIn [.int x1, .int 0, .int (((4 * (I o 2)) * (I o 3)) - 1)] (Z, I, L) (some (.int v1)) (Z, I, L) ∧ ((v1 = 0 → (r = some (.int 0) ∧ M' = (Z, I, L))) ∧ (¬ v1 = 0 → (∃ (v3 : Int32), Cl g 1 mu_X12_isWall [rf g o, .int (x1 / 4)] (Z, I, L) (some (.int v3)) (Z, I, L) ∧ ((¬ v3 = 0 → (r = some (.int 0) ∧ M' = (Z, I, L))) ∧ (v3 = 0 → (r = some (.int 1) ∧ M' = (Z, I, L))))))))) : Cl g 2 mu_X12_isPose [rf g o, .int x1] (Z, I, L) r M' := by
  refine cl_of (lv := [(0, rf g o), (1, .int x1)]) (by decide) (Nat.le_of_ble_eq_true rfl) rfl ?_
  refine fr_iload_n (i := 1) (q := 1) rfl dX12_isPose_0 rfl ?_
  refine fr_iconst (v := 0) (by decide) dX12_isPose_1 rfl ?_
  refine fr_iconst (v := 4) (by decide) dX12_isPose_2 rfl ?_
  refine fr_aload_n (i := 0) (q := 0) rfl dX12_isPose_3 rfl ?_
  refine fr_getI dX12_isPose_4 rfl fl_X12_85 k_o ?_
  refine fr_imul dX12_isPose_7 rfl ?_
  refine fr_aload_n (i := 0) (q := 0) rfl dX12_isPose_8 rfl ?_
  refine fr_getI dX12_isPose_9 rfl fl_X12_88 k_o ?_
  refine fr_imul dX12_isPose_12 rfl ?_
  refine fr_iconst (v := 1) (by decide) dX12_isPose_13 rfl ?_
  refine fr_isub dX12_isPose_14 rfl ?_
  obtain ⟨v1, hc2, h⟩ := h
  refine fr_callS2 (ν := mu_X12_isIn) (st2 := [.int v1]) (As := [.int x1, .int 0, .int (((4 * (I o 2)) * (I o 3)) - 1)]) (st := []) (v := (some (.int v1))) (M1 := (Z, I, L)) dX12_isPose_15 rfl ml_X12_95 mo_X12_isIn ms_X12_isIn (Nat.le_of_ble_eq_true rfl) rfl rfl (Nat.le_of_ble_eq_true rfl) hc2 rfl ?_
  refine fr_if_eq (tgt := 35) dX12_isPose_18 (by decide) rfl (fun hc => ?_) (fun hc => ?_)
  · have h := h.1 hc
    refine fr_iconst (v := 0) (by decide) dX12_isPose_35 rfl ?_
    exact fr_zret (by decide) rfl dX12_isPose_36 h.1 h.2
  · have h := h.2 hc
    refine fr_aload_n (i := 0) (q := 0) rfl dX12_isPose_21 rfl ?_
    refine fr_iload_n (i := 1) (q := 1) rfl dX12_isPose_22 rfl ?_
    refine fr_iconst (v := 4) (by decide) dX12_isPose_23 rfl ?_
    refine fr_idiv (by decide) dX12_isPose_24 rfl ?_
    obtain ⟨v3, hc4, h⟩ := h
    refine fr_callV2 (ν := mu_X12_isWall) (st2 := [.int v3]) (As := [.int (x1 / 4)]) (st := []) (v := (some (.int v3))) (M1 := (Z, I, L)) dX12_isPose_25 rfl ml_X12_99 mo_X12_isWall mi_X12_isWall (ci := 12) rfl rfl k_o (Nat.le_of_ble_eq_true rfl) rfl rfl (Nat.le_of_ble_eq_true rfl) hc4 rfl ?_
    refine fr_if_ne (tgt := 35) dX12_isPose_28 (by decide) rfl (fun hc => ?_) (fun hc => ?_)
    · have h := h.1 hc
      refine fr_iconst (v := 0) (by decide) dX12_isPose_35 rfl ?_
      exact fr_zret (by decide) rfl dX12_isPose_36 h.1 h.2
    · have h := h.2 hc
      refine fr_iconst (v := 1) (by decide) dX12_isPose_31 rfl ?_
      refine fr_goto (n := 36) dX12_isPose_32 (by decide) ?_
      exact fr_zret (by decide) rfl dX12_isPose_36 h.1 h.2
theorem cp_X12_isText {g : GE} {Z : Zs} {I : Nat → Nat → Int32} {L : Nat → Nat → Int64} {r : Option Value} {M' : Mem} {o : Nat} {x1 : Int32} {o_a : Nat} (k_o : KM Z o 12) (r_o_a : Z.2.1 o 0 = some o_a) (k_o_a : KM Z o_a 13) (h : (vp_in 1 (Z.2.2.1 o_a) ∧ (∃ (v2 : Int32), Cl g 1 mu_X12_isIn [.int x1, .int 0, .int ((I o_a (1 : Int32).toNatClampNeg) - 1)] (Z, I, L) (some (.int v2)) (Z, I, L) ∧ ((v2 = 0 ∨ v2 = 1) ∧ r = some (.int v2) ∧ M' = (Z, I, L))))) : Cl g 2 mu_X12_isText [rf g o, .int x1] (Z, I, L) r M' := by
  refine cl_of (lv := [(0, rf g o), (1, .int x1)]) (by decide) (Nat.le_of_ble_eq_true rfl) rfl ?_
  refine fr_iload_n (i := 1) (q := 1) rfl dX12_isText_0 rfl ?_
  refine fr_iconst (v := 0) (by decide) dX12_isText_1 rfl ?_
  refine fr_aload_n (i := 0) (q := 0) rfl dX12_isText_2 rfl ?_
  refine fr_getR dX12_isText_3 rfl fl_X12_7 k_o r_o_a ?_
  refine fr_iconst (v := 1) (by decide) dX12_isText_6 rfl ?_
  obtain ⟨hz1, h⟩ := h
  refine fr_iald dX12_isText_7 rfl k_o_a hz1 ?_
  refine fr_iconst (v := 1) (by decide) dX12_isText_8 rfl ?_
  refine fr_isub dX12_isText_9 rfl ?_
  obtain ⟨v2, hc3, h⟩ := h
  refine fr_callS2 (ν := mu_X12_isIn) (st2 := [.int v2]) (As := [.int x1, .int 0, .int ((I o_a (1 : Int32).toNatClampNeg) - 1)]) (st := []) (v := (some (.int v2))) (M1 := (Z, I, L)) dX12_isText_10 rfl ml_X12_95 mo_X12_isIn ms_X12_isIn (Nat.le_of_ble_eq_true rfl) rfl rfl (Nat.le_of_ble_eq_true rfl) hc3 rfl ?_
  exact fr_zret h.1 rfl dX12_isText_13 h.2.1 h.2.2
theorem cp_X12_isPair {g : GE} {Z : Zs} {I : Nat → Nat → Int32} {L : Nat → Nat → Int64} {r : Option Value} {M' : Mem} {o : Nat} {x1 : Int32} {o_a : Nat} (k_o : KM Z o 12) (r_o_a : Z.2.1 o 0 = some o_a) (k_o_a : KM Z o_a 13) (h : (vp_in 0 (Z.2.2.1 o_a) ∧ (∃ (v2 : Int32), Cl g 1 mu_X12_isIn [.int x1, .int 0, .int ((I o_a (0 : Int32).toNatClampNeg) - 1)] (Z, I, L) (some (.int v2)) (Z, I, L) ∧ ((v2 = 0 ∨ v2 = 1) ∧ r = some (.int v2) ∧ M' = (Z, I, L))))) : Cl g 2 mu_X12_isPair [rf g o, .int x1] (Z, I, L) r M' := by
  refine cl_of (lv := [(0, rf g o), (1, .int x1)]) (by decide) (Nat.le_of_ble_eq_true rfl) rfl ?_
  refine fr_iload_n (i := 1) (q := 1) rfl dX12_isPair_0 rfl ?_
  refine fr_iconst (v := 0) (by decide) dX12_isPair_1 rfl ?_
  refine fr_aload_n (i := 0) (q := 0) rfl dX12_isPair_2 rfl ?_
  refine fr_getR dX12_isPair_3 rfl fl_X12_7 k_o r_o_a ?_
  refine fr_iconst (v := 0) (by decide) dX12_isPair_6 rfl ?_
  obtain ⟨hz1, h⟩ := h
  refine fr_iald dX12_isPair_7 rfl k_o_a hz1 ?_
  refine fr_iconst (v := 1) (by decide) dX12_isPair_8 rfl ?_
  refine fr_isub dX12_isPair_9 rfl ?_
  obtain ⟨v2, hc3, h⟩ := h
  refine fr_callS2 (ν := mu_X12_isIn) (st2 := [.int v2]) (As := [.int x1, .int 0, .int ((I o_a (0 : Int32).toNatClampNeg) - 1)]) (st := []) (v := (some (.int v2))) (M1 := (Z, I, L)) dX12_isPair_10 rfl ml_X12_95 mo_X12_isIn ms_X12_isIn (Nat.le_of_ble_eq_true rfl) rfl rfl (Nat.le_of_ble_eq_true rfl) hc3 rfl ?_
  exact fr_zret h.1 rfl dX12_isPair_13 h.2.1 h.2.2
theorem cp_X12_poseOf {g : GE} {Z : Zs} {I : Nat → Nat → Int32} {L : Nat → Nat → Int64} {r : Option Value} {M' : Mem} {o : Nat} {x1 : Int32} {o_a : Nat} (k_o : KM Z o 12) (r_o_a : Z.2.1 o 0 = some o_a) (k_o_a : KM Z o_a 13) (h : (vp_in (35 + (2 * x1)) (Z.2.2.1 o_a) ∧ (r = some (.int (I o_a (35 + (2 * x1)).toNatClampNeg)) ∧ M' = (Z, I, L)))) : Cl g 1 mu_X12_poseOf [rf g o, .int x1] (Z, I, L) r M' := by
  refine cl_of (lv := [(0, rf g o), (1, .int x1)]) (by decide) (Nat.le_of_ble_eq_true rfl) rfl ?_
  refine fr_aload_n (i := 0) (q := 0) rfl dX12_poseOf_0 rfl ?_
  refine fr_getR dX12_poseOf_1 rfl fl_X12_7 k_o r_o_a ?_
  refine fr_bipush (v := 35) (by decide) dX12_poseOf_4 rfl ?_
  refine fr_iconst (v := 2) (by decide) dX12_poseOf_6 rfl ?_
  refine fr_iload_n (i := 1) (q := 1) rfl dX12_poseOf_7 rfl ?_
  refine fr_imul dX12_poseOf_8 rfl ?_
  refine fr_iadd dX12_poseOf_9 rfl ?_
  obtain ⟨hz1, h⟩ := h
  refine fr_iald dX12_poseOf_10 rfl k_o_a hz1 ?_
  exact fr_iret rfl dX12_poseOf_11 h.1 h.2
theorem cp_X12_habitOf {g : GE} {Z : Zs} {I : Nat → Nat → Int32} {L : Nat → Nat → Int64} {r : Option Value} {M' : Mem} {o : Nat} {x1 : Int32} {o_a : Nat} (k_o : KM Z o 12) (r_o_a : Z.2.1 o 0 = some o_a) (k_o_a : KM Z o_a 13) (h : (vp_in ((35 + (2 * x1)) + 1) (Z.2.2.1 o_a) ∧ (r = some (.int (I o_a ((35 + (2 * x1)) + 1).toNatClampNeg)) ∧ M' = (Z, I, L)))) : Cl g 1 mu_X12_habitOf [rf g o, .int x1] (Z, I, L) r M' := by
  refine cl_of (lv := [(0, rf g o), (1, .int x1)]) (by decide) (Nat.le_of_ble_eq_true rfl) rfl ?_
  refine fr_aload_n (i := 0) (q := 0) rfl dX12_habitOf_0 rfl ?_
  refine fr_getR dX12_habitOf_1 rfl fl_X12_7 k_o r_o_a ?_
  refine fr_bipush (v := 35) (by decide) dX12_habitOf_4 rfl ?_
  refine fr_iconst (v := 2) (by decide) dX12_habitOf_6 rfl ?_
  refine fr_iload_n (i := 1) (q := 1) rfl dX12_habitOf_7 rfl ?_
  refine fr_imul dX12_habitOf_8 rfl ?_
  refine fr_iadd dX12_habitOf_9 rfl ?_
  refine fr_iconst (v := 1) (by decide) dX12_habitOf_10 rfl ?_
  refine fr_iadd dX12_habitOf_11 rfl ?_
  obtain ⟨hz1, h⟩ := h
  refine fr_iald dX12_habitOf_12 rfl k_o_a hz1 ?_
  exact fr_iret rfl dX12_habitOf_13 h.1 h.2
theorem cp_X12_ahead {g : GE} {Z : Zs} {I : Nat → Nat → Int32} {L : Nat → Nat → Int64} {r : Option Value} {M' : Mem} {o : Nat} {x1 : Int32} (k_o : KM Z o 12) (h : (¬ (I o 2) = 0 ∧ (∀ y2 : Int32, y2 = ((x1 / 4) - (x1 / 4) / (I o 2) * (I o 2)) → (¬ (I o 2) = 0 ∧ (∀ y4 : Int32, y4 = ((x1 / 4) / (I o 2)) → (∀ y5 : Int32, y5 = (x1 - x1 / 4 * 4) → ((¬ y5 = 0 → ((¬ y5 = 1 → ((¬ y5 = 2 → ((¬ y2 = 0 → (r = some (.int ((x1 / 4) - 1)) ∧ M' = (Z, I, L))) ∧ (y2 = 0 → (r = some (.int ((-1))) ∧ M' = (Z, I, L))))) ∧ (y5 = 2 → ((¬ y4 = ((I o 3) - 1) → (r = some (.int ((x1 / 4) + (I o 2))) ∧ M' = (Z, I, L))) ∧ (y4 = ((I o 3) - 1) → (r = some (.int ((-1))) ∧ M' = (Z, I, L))))))) ∧ (y5 = 1 → ((¬ y2 = ((I o 2) - 1) → (r = some (.int ((x1 / 4) + 1)) ∧ M' = (Z, I, L))) ∧ (y2 = ((I o 2) - 1) → (r = some (.int ((-1))) ∧ M' = (Z, I, L))))))) ∧ (y5 = 0 → ((¬ y4 = 0 → (r = some (.int ((x1 / 4) - (I o 2))) ∧ M' = (Z, I, L))) ∧ (y4 = 0 → (r = some (.int ((-1))) ∧ M' = (Z, I, L)))))))))))) : Cl g 1 mu_X12_ahead [rf g o, .int x1] (Z, I, L) r M' := by
  refine cl_of (lv := [(0, rf g o), (1, .int x1)]) (by decide) (Nat.le_of_ble_eq_true rfl) rfl ?_
  refine fr_iload_n (i := 1) (q := 1) rfl dX12_ahead_0 rfl ?_
  refine fr_iconst (v := 4) (by decide) dX12_ahead_1 rfl ?_
  refine fr_idiv (by decide) dX12_ahead_2 rfl ?_
  refine fr_aload_n (i := 0) (q := 0) rfl dX12_ahead_3 rfl ?_
  refine fr_getI dX12_ahead_4 rfl fl_X12_85 k_o ?_
  obtain ⟨hz1, h⟩ := h
  refine fr_irem hz1 dX12_ahead_7 rfl ?_
  refine fr_topi (fun y2 hy2 => ?_)
  have h := h y2 hy2
  refine fr_istore_n (i := 2) (lv' := [(2, .int y2), (0, rf g o), (1, .int x1)]) dX12_ahead_8 rfl (by decide) rfl ?_
  refine fr_iload_n (i := 1) (q := 2) rfl dX12_ahead_9 rfl ?_
  refine fr_iconst (v := 4) (by decide) dX12_ahead_10 rfl ?_
  refine fr_idiv (by decide) dX12_ahead_11 rfl ?_
  refine fr_aload_n (i := 0) (q := 1) rfl dX12_ahead_12 rfl ?_
  refine fr_getI dX12_ahead_13 rfl fl_X12_85 k_o ?_
  obtain ⟨hz3, h⟩ := h
  refine fr_idiv hz3 dX12_ahead_16 rfl ?_
  refine fr_topi (fun y4 hy4 => ?_)
  have h := h y4 hy4
  refine fr_istore_n (i := 3) (lv' := [(3, .int y4), (2, .int y2), (0, rf g o), (1, .int x1)]) dX12_ahead_17 rfl (by decide) rfl ?_
  refine fr_iload_n (i := 1) (q := 3) rfl dX12_ahead_18 rfl ?_
  refine fr_iconst (v := 4) (by decide) dX12_ahead_19 rfl ?_
  refine fr_irem (by decide) dX12_ahead_20 rfl ?_
  refine fr_topi (fun y5 hy5 => ?_)
  have h := h y5 hy5
  refine fr_istore (lv' := [(4, .int y5), (3, .int y4), (2, .int y2), (0, rf g o), (1, .int x1)]) dX12_ahead_21 rfl (by decide) rfl ?_
  refine fr_iload (q := 0) rfl dX12_ahead_23 rfl ?_
  refine fr_if_ne (tgt := 45) dX12_ahead_25 (by decide) rfl (fun hc => ?_) (fun hc => ?_)
  · have h := h.1 hc
    refine fr_iload (q := 0) rfl dX12_ahead_45 rfl ?_
    refine fr_iconst (v := 1) (by decide) dX12_ahead_47 rfl ?_
    refine fr_icmp_ne (tgt := 71) dX12_ahead_48 (by decide) rfl (fun hc => ?_) (fun hc => ?_)
    · have h := h.1 hc
      refine fr_iload (q := 0) rfl dX12_ahead_71 rfl ?_
      refine fr_iconst (v := 2) (by decide) dX12_ahead_73 rfl ?_
      refine fr_icmp_ne (tgt := 100) dX12_ahead_74 (by decide) rfl (fun hc => ?_) (fun hc => ?_)
      · have h := h.1 hc
        refine fr_iload_n (i := 2) (q := 2) rfl dX12_ahead_100 rfl ?_
        refine fr_if_ne (tgt := 108) dX12_ahead_101 (by decide) rfl (fun hc => ?_) (fun hc => ?_)
        · have h := h.1 hc
          refine fr_iload_n (i := 1) (q := 4) rfl dX12_ahead_108 rfl ?_
          refine fr_iconst (v := 4) (by decide) dX12_ahead_109 rfl ?_
          refine fr_idiv (by decide) dX12_ahead_110 rfl ?_
          refine fr_iconst (v := 1) (by decide) dX12_ahead_111 rfl ?_
          refine fr_isub dX12_ahead_112 rfl ?_
          exact fr_iret rfl dX12_ahead_113 h.1 h.2
        · have h := h.2 hc
          refine fr_iconst (v := (-1)) (by decide) dX12_ahead_104 rfl ?_
          refine fr_goto (n := 113) dX12_ahead_105 (by decide) ?_
          exact fr_iret rfl dX12_ahead_113 h.1 h.2
      · have h := h.2 hc
        refine fr_iload_n (i := 3) (q := 1) rfl dX12_ahead_77 rfl ?_
        refine fr_aload_n (i := 0) (q := 3) rfl dX12_ahead_78 rfl ?_
        refine fr_getI dX12_ahead_79 rfl fl_X12_88 k_o ?_
        refine fr_iconst (v := 1) (by decide) dX12_ahead_82 rfl ?_
        refine fr_isub dX12_ahead_83 rfl ?_
        refine fr_icmp_ne (tgt := 91) dX12_ahead_84 (by decide) rfl (fun hc => ?_) (fun hc => ?_)
        · have h := h.1 hc
          refine fr_iload_n (i := 1) (q := 4) rfl dX12_ahead_91 rfl ?_
          refine fr_iconst (v := 4) (by decide) dX12_ahead_92 rfl ?_
          refine fr_idiv (by decide) dX12_ahead_93 rfl ?_
          refine fr_aload_n (i := 0) (q := 3) rfl dX12_ahead_94 rfl ?_
          refine fr_getI dX12_ahead_95 rfl fl_X12_85 k_o ?_
          refine fr_iadd dX12_ahead_98 rfl ?_
          exact fr_iret rfl dX12_ahead_99 h.1 h.2
        · have h := h.2 hc
          refine fr_iconst (v := (-1)) (by decide) dX12_ahead_87 rfl ?_
          refine fr_goto (n := 99) dX12_ahead_88 (by decide) ?_
          exact fr_iret rfl dX12_ahead_99 h.1 h.2
    · have h := h.2 hc
      refine fr_iload_n (i := 2) (q := 2) rfl dX12_ahead_51 rfl ?_
      refine fr_aload_n (i := 0) (q := 3) rfl dX12_ahead_52 rfl ?_
      refine fr_getI dX12_ahead_53 rfl fl_X12_85 k_o ?_
      refine fr_iconst (v := 1) (by decide) dX12_ahead_56 rfl ?_
      refine fr_isub dX12_ahead_57 rfl ?_
      refine fr_icmp_ne (tgt := 65) dX12_ahead_58 (by decide) rfl (fun hc => ?_) (fun hc => ?_)
      · have h := h.1 hc
        refine fr_iload_n (i := 1) (q := 4) rfl dX12_ahead_65 rfl ?_
        refine fr_iconst (v := 4) (by decide) dX12_ahead_66 rfl ?_
        refine fr_idiv (by decide) dX12_ahead_67 rfl ?_
        refine fr_iconst (v := 1) (by decide) dX12_ahead_68 rfl ?_
        refine fr_iadd dX12_ahead_69 rfl ?_
        exact fr_iret rfl dX12_ahead_70 h.1 h.2
      · have h := h.2 hc
        refine fr_iconst (v := (-1)) (by decide) dX12_ahead_61 rfl ?_
        refine fr_goto (n := 70) dX12_ahead_62 (by decide) ?_
        exact fr_iret rfl dX12_ahead_70 h.1 h.2
  · have h := h.2 hc
    refine fr_iload_n (i := 3) (q := 1) rfl dX12_ahead_28 rfl ?_
    refine fr_if_ne (tgt := 36) dX12_ahead_29 (by decide) rfl (fun hc => ?_) (fun hc => ?_)
    · have h := h.1 hc
      refine fr_iload_n (i := 1) (q := 4) rfl dX12_ahead_36 rfl ?_
      refine fr_iconst (v := 4) (by decide) dX12_ahead_37 rfl ?_
      refine fr_idiv (by decide) dX12_ahead_38 rfl ?_
      refine fr_aload_n (i := 0) (q := 3) rfl dX12_ahead_39 rfl ?_
      refine fr_getI dX12_ahead_40 rfl fl_X12_85 k_o ?_
      refine fr_isub dX12_ahead_43 rfl ?_
      exact fr_iret rfl dX12_ahead_44 h.1 h.2
    · have h := h.2 hc
      refine fr_iconst (v := (-1)) (by decide) dX12_ahead_32 rfl ?_
      refine fr_goto (n := 44) dX12_ahead_33 (by decide) ?_
      exact fr_iret rfl dX12_ahead_44 h.1 h.2
abbrev Lp_X12_cell_21 (g : GE) (d : Nat) (o : Nat) (u1 : Int32) (u2 : Int32) (u3 : Int32) (M : Mem) (r : Option Value) (M' : Mem) : Prop := Fr g d mu_X12_cell 21 [(0, rf g o), (1, .int u1), (2, .int u2), (3, .int u3)] [] M r M'
theorem cp_X12_cell {g : GE} {Z : Zs} {I : Nat → Nat → Int32} {L : Nat → Nat → Int64} {r : Option Value} {M' : Mem} {o : Nat} {x1 : Int32} {x2 : Int32} (k_o : KM Z o 12) (h : (∃ (v1 : Int32), Cl g 2 mu_X12_isCell [rf g o, .int x1] (Z, I, L) (some (.int v1)) (Z, I, L) ∧ ((v1 = 0 → (r = some (.int 0) ∧ M' = (Z, I, L))) ∧ (¬ v1 = 0 → (∃ (v3 : Int32), Cl g 1 mu_X12_isIn [.int x2, .int 0, .int 3] (Z, I, L) (some (.int v3)) (Z, I, L) ∧ ((¬ v3 = 0 → Lp_X12_cell_21 g 3 o x1 x2 0 (Z, I, L) r M') ∧ (v3 = 0 → (r = some (.int 0) ∧ M' = (Z, I, L))))))))) : Cl g 3 mu_X12_cell [rf g o, .int x1, .int x2] (Z, I, L) r M' := by
  refine cl_of (lv := [(0, rf g o), (1, .int x1), (2, .int x2)]) (by decide) (Nat.le_of_ble_eq_true rfl) rfl ?_
  refine fr_aload_n (i := 0) (q := 0) rfl dX12_cell_0 rfl ?_
  refine fr_iload_n (i := 1) (q := 1) rfl dX12_cell_1 rfl ?_
  obtain ⟨v1, hc2, h⟩ := h
  refine fr_callV2 (ν := mu_X12_isCell) (st2 := [.int v1]) (As := [.int x1]) (st := []) (v := (some (.int v1))) (M1 := (Z, I, L)) dX12_cell_2 rfl ml_X12_103 mo_X12_isCell mi_X12_isCell (ci := 12) rfl rfl k_o (Nat.le_of_ble_eq_true rfl) rfl rfl (Nat.le_of_ble_eq_true rfl) hc2 rfl ?_
  refine fr_if_eq (tgt := 17) dX12_cell_5 (by decide) rfl (fun hc => ?_) (fun hc => ?_)
  · have h := h.1 hc
    refine fr_iconst (v := 0) (by decide) dX12_cell_17 rfl ?_
    exact fr_zret (by decide) rfl dX12_cell_18 h.1 h.2
  · have h := h.2 hc
    refine fr_iload_n (i := 2) (q := 2) rfl dX12_cell_8 rfl ?_
    refine fr_iconst (v := 0) (by decide) dX12_cell_9 rfl ?_
    refine fr_iconst (v := 3) (by decide) dX12_cell_10 rfl ?_
    obtain ⟨v3, hc4, h⟩ := h
    refine fr_callS2 (ν := mu_X12_isIn) (st2 := [.int v3]) (As := [.int x2, .int 0, .int 3]) (st := []) (v := (some (.int v3))) (M1 := (Z, I, L)) dX12_cell_11 rfl ml_X12_95 mo_X12_isIn ms_X12_isIn (Nat.le_of_ble_eq_true rfl) rfl rfl (Nat.le_of_ble_eq_true rfl) hc4 rfl ?_
    refine fr_if_ne (tgt := 19) dX12_cell_14 (by decide) rfl (fun hc => ?_) (fun hc => ?_)
    · have h := h.1 hc
      refine fr_iconst (v := 0) (by decide) dX12_cell_19 rfl ?_
      refine fr_istore_n (i := 3) (lv' := [(3, .int 0), (0, rf g o), (1, .int x1), (2, .int x2)]) dX12_cell_20 rfl (by decide) rfl ?_
      exact fr_sub [1, 2, 3, 0] rfl h
    · have h := h.2 hc
      refine fr_iconst (v := 0) (by decide) dX12_cell_17 rfl ?_
      exact fr_zret (by decide) rfl dX12_cell_18 h.1 h.2
theorem wp_X12_cell_21 {g : GE} {Z : Zs} {I : Nat → Nat → Int32} {L : Nat → Nat → Int64} {r : Option Value} {M' : Mem} {o : Nat} {u1 : Int32} {u2 : Int32} {u3 : Int32} {o_a : Nat} (k_o : KM Z o 12) (r_o_a : Z.2.1 o 0 = some o_a) (k_o_a : KM Z o_a 13) (h : (vp_in 0 (Z.2.2.1 o_a) ∧ (((I o_a (0 : Int32).toNatClampNeg) ≤ u3 → (vp_in (10 + u1) (Z.2.2.1 o_a) ∧ (∀ I3 : Nat → Nat → Int32, I3 = rw1 I o_a (upd (I o_a) (10 + u1).toNatClampNeg u2) → (vp_in 3 (Z.2.2.1 o_a) ∧ (∀ I5 : Nat → Nat → Int32, I5 = rw1 I3 o_a (upd (I3 o_a) (3 : Int32).toNatClampNeg 0) → (r = some (.int 1) ∧ M' = (Z, I5, L))))))) ∧ (¬ (I o_a (0 : Int32).toNatClampNeg) ≤ u3 → ((¬ u2 = 1 → (∀ y6 : Int32, y6 = (u3 + 1) → Lp_X12_cell_21 g 3 o u1 u2 y6 (Z, I, L) r M')) ∧ (u2 = 1 → (∃ (v7 : Int32), Cl g 1 mu_X12_poseOf [rf g o, .int u3] (Z, I, L) (some (.int v7)) (Z, I, L) ∧ ((¬ (v7 / 4) = u1 → (∀ y9 : Int32, y9 = (u3 + 1) → Lp_X12_cell_21 g 3 o u1 u2 y9 (Z, I, L) r M')) ∧ ((v7 / 4) = u1 → (r = some (.int 0) ∧ M' = (Z, I, L))))))))))) : Lp_X12_cell_21 g 3 o u1 u2 u3 (Z, I, L) r M' := by
  refine fr_iload_n (i := 3) (q := 3) rfl dX12_cell_21 rfl ?_
  refine fr_aload_n (i := 0) (q := 0) rfl dX12_cell_22 rfl ?_
  refine fr_getR dX12_cell_23 rfl fl_X12_7 k_o r_o_a ?_
  refine fr_iconst (v := 0) (by decide) dX12_cell_26 rfl ?_
  obtain ⟨hz1, h⟩ := h
  refine fr_iald dX12_cell_27 rfl k_o_a hz1 ?_
  refine fr_icmp_ge (tgt := 55) dX12_cell_28 (by decide) rfl (fun hc => ?_) (fun hc => ?_)
  · have h := h.1 hc
    refine fr_aload_n (i := 0) (q := 0) rfl dX12_cell_55 rfl ?_
    refine fr_getR dX12_cell_56 rfl fl_X12_7 k_o r_o_a ?_
    refine fr_bipush (v := 10) (by decide) dX12_cell_59 rfl ?_
    refine fr_iload_n (i := 1) (q := 1) rfl dX12_cell_61 rfl ?_
    refine fr_iadd dX12_cell_62 rfl ?_
    refine fr_iload_n (i := 2) (q := 2) rfl dX12_cell_63 rfl ?_
    obtain ⟨hz2, h⟩ := h
    refine fr_iast dX12_cell_64 rfl k_o_a hz2 ?_
    refine fr_memI (fun I3 hI3 => ?_)
    have h := h I3 hI3
    refine fr_aload_n (i := 0) (q := 0) rfl dX12_cell_65 rfl ?_
    refine fr_getR dX12_cell_66 rfl fl_X12_7 k_o r_o_a ?_
    refine fr_iconst (v := 3) (by decide) dX12_cell_69 rfl ?_
    refine fr_iconst (v := 0) (by decide) dX12_cell_70 rfl ?_
    obtain ⟨hz4, h⟩ := h
    refine fr_iast dX12_cell_71 rfl k_o_a hz4 ?_
    refine fr_memI (fun I5 hI5 => ?_)
    have h := h I5 hI5
    refine fr_iconst (v := 1) (by decide) dX12_cell_72 rfl ?_
    exact fr_zret (by decide) rfl dX12_cell_73 h.1 h.2
  · have h := h.2 hc
    refine fr_iload_n (i := 2) (q := 2) rfl dX12_cell_31 rfl ?_
    refine fr_iconst (v := 1) (by decide) dX12_cell_32 rfl ?_
    refine fr_icmp_ne (tgt := 49) dX12_cell_33 (by decide) rfl (fun hc => ?_) (fun hc => ?_)
    · have h := h.1 hc
      obtain ⟨y6, hy6⟩ : ∃ y : Int32, y = u3 + 1 := ⟨_, rfl⟩
      have h := h y6 hy6
      refine fr_iinc (q := 3) (v := y6) (lv' := [(3, .int y6), (0, rf g o), (1, .int u1), (2, .int u2)]) rfl (by rw [hy6]; rfl) dX12_cell_49 rfl (by decide) rfl ?_
      refine fr_goto (n := 21) dX12_cell_52 (by decide) ?_
      exact fr_sub [1, 2, 3, 0] rfl h
    · have h := h.2 hc
      refine fr_aload_n (i := 0) (q := 0) rfl dX12_cell_36 rfl ?_
      refine fr_iload_n (i := 3) (q := 3) rfl dX12_cell_37 rfl ?_
      obtain ⟨v7, hc8, h⟩ := h
      refine fr_callV2 (ν := mu_X12_poseOf) (st2 := [.int v7]) (As := [.int u3]) (st := []) (v := (some (.int v7))) (M1 := (Z, I, L)) dX12_cell_38 rfl ml_X12_106 mo_X12_poseOf mi_X12_poseOf (ci := 12) rfl rfl k_o (Nat.le_of_ble_eq_true rfl) rfl rfl (Nat.le_of_ble_eq_true rfl) hc8 rfl ?_
      refine fr_iconst (v := 4) (by decide) dX12_cell_41 rfl ?_
      refine fr_idiv (by decide) dX12_cell_42 rfl ?_
      refine fr_iload_n (i := 1) (q := 1) rfl dX12_cell_43 rfl ?_
      refine fr_icmp_ne (tgt := 49) dX12_cell_44 (by decide) rfl (fun hc => ?_) (fun hc => ?_)
      · have h := h.1 hc
        obtain ⟨y9, hy9⟩ : ∃ y : Int32, y = u3 + 1 := ⟨_, rfl⟩
        have h := h y9 hy9
        refine fr_iinc (q := 3) (v := y9) (lv' := [(3, .int y9), (0, rf g o), (1, .int u1), (2, .int u2)]) rfl (by rw [hy9]; rfl) dX12_cell_49 rfl (by decide) rfl ?_
        refine fr_goto (n := 21) dX12_cell_52 (by decide) ?_
        exact fr_sub [1, 2, 3, 0] rfl h
      · have h := h.2 hc
        refine fr_iconst (v := 0) (by decide) dX12_cell_47 rfl ?_
        exact fr_zret (by decide) rfl dX12_cell_48 h.1 h.2
theorem cp_X12_pair {g : GE} {Z : Zs} {I : Nat → Nat → Int32} {L : Nat → Nat → Int64} {r : Option Value} {M' : Mem} {o : Nat} {x1 : Int32} {x2 : Int32} {o_a : Nat} (k_o : KM Z o 12) (r_o_a : Z.2.1 o 0 = some o_a) (k_o_a : KM Z o_a 13) (h : (∃ (v1 : Int32), Cl g 2 mu_X12_isPose [rf g o, .int x1] (Z, I, L) (some (.int v1)) (Z, I, L) ∧ ((v1 = 0 → (r = some (.int ((-1))) ∧ M' = (Z, I, L))) ∧ (¬ v1 = 0 → (∃ (v3 : Int32), Cl g 2 mu_X12_isText [rf g o, .int x2] (Z, I, L) (some (.int v3)) (Z, I, L) ∧ ((v3 = 0 → (r = some (.int ((-1))) ∧ M' = (Z, I, L))) ∧ (¬ v3 = 0 → (vp_in 0 (Z.2.2.1 o_a) ∧ ((¬ (I o_a (0 : Int32).toNatClampNeg) = 6 → (vp_in 0 (Z.2.2.1 o_a) ∧ (vp_in (35 + (2 * (I o_a (0 : Int32).toNatClampNeg))) (Z.2.2.1 o_a) ∧ (∀ I8 : Nat → Nat → Int32, I8 = rw1 I o_a (upd (I o_a) (35 + (2 * (I o_a (0 : Int32).toNatClampNeg))).toNatClampNeg x1) → (vp_in 0 (Z.2.2.1 o_a) ∧ (vp_in ((35 + (2 * (I8 o_a (0 : Int32).toNatClampNeg))) + 1) (Z.2.2.1 o_a) ∧ (∀ I11 : Nat → Nat → Int32, I11 = rw1 I8 o_a (upd (I8 o_a) ((35 + (2 * (I8 o_a (0 : Int32).toNatClampNeg))) + 1).toNatClampNeg x2) → (vp_in 0 (Z.2.2.1 o_a) ∧ (vp_in 0 (Z.2.2.1 o_a) ∧ (∀ I14 : Nat → Nat → Int32, I14 = rw1 I11 o_a (upd (I11 o_a) (0 : Int32).toNatClampNeg ((I11 o_a (0 : Int32).toNatClampNeg) + 1)) → (vp_in 0 (Z.2.2.1 o_a) ∧ (r = some (.int ((I14 o_a (0 : Int32).toNatClampNeg) - 1)) ∧ M' = (Z, I14, L))))))))))))) ∧ ((I o_a (0 : Int32).toNatClampNeg) = 6 → (r = some (.int ((-1))) ∧ M' = (Z, I, L)))))))))))) : Cl g 3 mu_X12_pair [rf g o, .int x1, .int x2] (Z, I, L) r M' := by
  refine cl_of (lv := [(0, rf g o), (1, .int x1), (2, .int x2)]) (by decide) (Nat.le_of_ble_eq_true rfl) rfl ?_
  refine fr_aload_n (i := 0) (q := 0) rfl dX12_pair_0 rfl ?_
  refine fr_iload_n (i := 1) (q := 1) rfl dX12_pair_1 rfl ?_
  obtain ⟨v1, hc2, h⟩ := h
  refine fr_callV2 (ν := mu_X12_isPose) (st2 := [.int v1]) (As := [.int x1]) (st := []) (v := (some (.int v1))) (M1 := (Z, I, L)) dX12_pair_2 rfl ml_X12_110 mo_X12_isPose mi_X12_isPose (ci := 12) rfl rfl k_o (Nat.le_of_ble_eq_true rfl) rfl rfl (Nat.le_of_ble_eq_true rfl) hc2 rfl ?_
  refine fr_if_eq (tgt := 27) dX12_pair_5 (by decide) rfl (fun hc => ?_) (fun hc => ?_)
  · have h := h.1 hc
    refine fr_iconst (v := (-1)) (by decide) dX12_pair_27 rfl ?_
    exact fr_iret rfl dX12_pair_28 h.1 h.2
  · have h := h.2 hc
    refine fr_aload_n (i := 0) (q := 0) rfl dX12_pair_8 rfl ?_
    refine fr_iload_n (i := 2) (q := 2) rfl dX12_pair_9 rfl ?_
    obtain ⟨v3, hc4, h⟩ := h
    refine fr_callV2 (ν := mu_X12_isText) (st2 := [.int v3]) (As := [.int x2]) (st := []) (v := (some (.int v3))) (M1 := (Z, I, L)) dX12_pair_10 rfl ml_X12_113 mo_X12_isText mi_X12_isText (ci := 12) rfl rfl k_o (Nat.le_of_ble_eq_true rfl) rfl rfl (Nat.le_of_ble_eq_true rfl) hc4 rfl ?_
    refine fr_if_eq (tgt := 27) dX12_pair_13 (by decide) rfl (fun hc => ?_) (fun hc => ?_)
    · have h := h.1 hc
      refine fr_iconst (v := (-1)) (by decide) dX12_pair_27 rfl ?_
      exact fr_iret rfl dX12_pair_28 h.1 h.2
    · have h := h.2 hc
      refine fr_aload_n (i := 0) (q := 0) rfl dX12_pair_16 rfl ?_
      refine fr_getR dX12_pair_17 rfl fl_X12_7 k_o r_o_a ?_
      refine fr_iconst (v := 0) (by decide) dX12_pair_20 rfl ?_
      obtain ⟨hz5, h⟩ := h
      refine fr_iald dX12_pair_21 rfl k_o_a hz5 ?_
      refine fr_bipush (v := 6) (by decide) dX12_pair_22 rfl ?_
      refine fr_icmp_ne (tgt := 29) dX12_pair_24 (by decide) rfl (fun hc => ?_) (fun hc => ?_)
      · have h := h.1 hc
        refine fr_aload_n (i := 0) (q := 0) rfl dX12_pair_29 rfl ?_
        refine fr_getR dX12_pair_30 rfl fl_X12_7 k_o r_o_a ?_
        refine fr_bipush (v := 35) (by decide) dX12_pair_33 rfl ?_
        refine fr_iconst (v := 2) (by decide) dX12_pair_35 rfl ?_
        refine fr_aload_n (i := 0) (q := 0) rfl dX12_pair_36 rfl ?_
        refine fr_getR dX12_pair_37 rfl fl_X12_7 k_o r_o_a ?_
        refine fr_iconst (v := 0) (by decide) dX12_pair_40 rfl ?_
        obtain ⟨hz6, h⟩ := h
        refine fr_iald dX12_pair_41 rfl k_o_a hz6 ?_
        refine fr_imul dX12_pair_42 rfl ?_
        refine fr_iadd dX12_pair_43 rfl ?_
        refine fr_iload_n (i := 1) (q := 1) rfl dX12_pair_44 rfl ?_
        obtain ⟨hz7, h⟩ := h
        refine fr_iast dX12_pair_45 rfl k_o_a hz7 ?_
        refine fr_memI (fun I8 hI8 => ?_)
        have h := h I8 hI8
        refine fr_aload_n (i := 0) (q := 0) rfl dX12_pair_46 rfl ?_
        refine fr_getR dX12_pair_47 rfl fl_X12_7 k_o r_o_a ?_
        refine fr_bipush (v := 35) (by decide) dX12_pair_50 rfl ?_
        refine fr_iconst (v := 2) (by decide) dX12_pair_52 rfl ?_
        refine fr_aload_n (i := 0) (q := 0) rfl dX12_pair_53 rfl ?_
        refine fr_getR dX12_pair_54 rfl fl_X12_7 k_o r_o_a ?_
        refine fr_iconst (v := 0) (by decide) dX12_pair_57 rfl ?_
        obtain ⟨hz9, h⟩ := h
        refine fr_iald dX12_pair_58 rfl k_o_a hz9 ?_
        refine fr_imul dX12_pair_59 rfl ?_
        refine fr_iadd dX12_pair_60 rfl ?_
        refine fr_iconst (v := 1) (by decide) dX12_pair_61 rfl ?_
        refine fr_iadd dX12_pair_62 rfl ?_
        refine fr_iload_n (i := 2) (q := 2) rfl dX12_pair_63 rfl ?_
        obtain ⟨hz10, h⟩ := h
        refine fr_iast dX12_pair_64 rfl k_o_a hz10 ?_
        refine fr_memI (fun I11 hI11 => ?_)
        have h := h I11 hI11
        refine fr_aload_n (i := 0) (q := 0) rfl dX12_pair_65 rfl ?_
        refine fr_getR dX12_pair_66 rfl fl_X12_7 k_o r_o_a ?_
        refine fr_iconst (v := 0) (by decide) dX12_pair_69 rfl ?_
        refine fr_dup2 rfl rfl dX12_pair_70 rfl ?_
        obtain ⟨hz12, h⟩ := h
        refine fr_iald dX12_pair_71 rfl k_o_a hz12 ?_
        refine fr_iconst (v := 1) (by decide) dX12_pair_72 rfl ?_
        refine fr_iadd dX12_pair_73 rfl ?_
        obtain ⟨hz13, h⟩ := h
        refine fr_iast dX12_pair_74 rfl k_o_a hz13 ?_
        refine fr_memI (fun I14 hI14 => ?_)
        have h := h I14 hI14
        refine fr_aload_n (i := 0) (q := 0) rfl dX12_pair_75 rfl ?_
        refine fr_getR dX12_pair_76 rfl fl_X12_7 k_o r_o_a ?_
        refine fr_iconst (v := 0) (by decide) dX12_pair_79 rfl ?_
        obtain ⟨hz15, h⟩ := h
        refine fr_iald dX12_pair_80 rfl k_o_a hz15 ?_
        refine fr_iconst (v := 1) (by decide) dX12_pair_81 rfl ?_
        refine fr_isub dX12_pair_82 rfl ?_
        exact fr_iret rfl dX12_pair_83 h.1 h.2
      · have h := h.2 hc
        refine fr_iconst (v := (-1)) (by decide) dX12_pair_27 rfl ?_
        exact fr_iret rfl dX12_pair_28 h.1 h.2
theorem cp_X12_rider {g : GE} {Z : Zs} {I : Nat → Nat → Int32} {L : Nat → Nat → Int64} {r : Option Value} {M' : Mem} {o : Nat} {x1 : Int32} {o_a : Nat} (k_o : KM Z o 12) (r_o_a : Z.2.1 o 0 = some o_a) (k_o_a : KM Z o_a 13) (h : (∃ (v1 : Int32), Cl g 1 mu_X12_isIn [.int x1, .int 0, .int 9] (Z, I, L) (some (.int v1)) (Z, I, L) ∧ ((v1 = 0 → (r = some (.int ((-1))) ∧ M' = (Z, I, L))) ∧ (¬ v1 = 0 → (vp_in 5 (Z.2.2.1 o_a) ∧ ((¬ (I o_a (5 : Int32).toNatClampNeg) = 6 → (vp_in 5 (Z.2.2.1 o_a) ∧ (vp_in (190 + (I o_a (5 : Int32).toNatClampNeg)) (Z.2.2.1 o_a) ∧ (∀ I6 : Nat → Nat → Int32, I6 = rw1 I o_a (upd (I o_a) (190 + (I o_a (5 : Int32).toNatClampNeg)).toNatClampNeg x1) → (vp_in 5 (Z.2.2.1 o_a) ∧ (vp_in 5 (Z.2.2.1 o_a) ∧ (∀ I9 : Nat → Nat → Int32, I9 = rw1 I6 o_a (upd (I6 o_a) (5 : Int32).toNatClampNeg ((I6 o_a (5 : Int32).toNatClampNeg) + 1)) → (vp_in 5 (Z.2.2.1 o_a) ∧ (r = some (.int (I9 o_a (5 : Int32).toNatClampNeg)) ∧ M' = (Z, I9, L)))))))))) ∧ ((I o_a (5 : Int32).toNatClampNeg) = 6 → (r = some (.int ((-1))) ∧ M' = (Z, I, L))))))))) : Cl g 2 mu_X12_rider [rf g o, .int x1] (Z, I, L) r M' := by
  refine cl_of (lv := [(0, rf g o), (1, .int x1)]) (by decide) (Nat.le_of_ble_eq_true rfl) rfl ?_
  refine fr_iload_n (i := 1) (q := 1) rfl dX12_rider_0 rfl ?_
  refine fr_iconst (v := 0) (by decide) dX12_rider_1 rfl ?_
  refine fr_bipush (v := 9) (by decide) dX12_rider_2 rfl ?_
  obtain ⟨v1, hc2, h⟩ := h
  refine fr_callS2 (ν := mu_X12_isIn) (st2 := [.int v1]) (As := [.int x1, .int 0, .int 9]) (st := []) (v := (some (.int v1))) (M1 := (Z, I, L)) dX12_rider_4 rfl ml_X12_95 mo_X12_isIn ms_X12_isIn (Nat.le_of_ble_eq_true rfl) rfl rfl (Nat.le_of_ble_eq_true rfl) hc2 rfl ?_
  refine fr_if_eq (tgt := 21) dX12_rider_7 (by decide) rfl (fun hc => ?_) (fun hc => ?_)
  · have h := h.1 hc
    refine fr_iconst (v := (-1)) (by decide) dX12_rider_21 rfl ?_
    exact fr_iret rfl dX12_rider_22 h.1 h.2
  · have h := h.2 hc
    refine fr_aload_n (i := 0) (q := 0) rfl dX12_rider_10 rfl ?_
    refine fr_getR dX12_rider_11 rfl fl_X12_7 k_o r_o_a ?_
    refine fr_iconst (v := 5) (by decide) dX12_rider_14 rfl ?_
    obtain ⟨hz3, h⟩ := h
    refine fr_iald dX12_rider_15 rfl k_o_a hz3 ?_
    refine fr_bipush (v := 6) (by decide) dX12_rider_16 rfl ?_
    refine fr_icmp_ne (tgt := 23) dX12_rider_18 (by decide) rfl (fun hc => ?_) (fun hc => ?_)
    · have h := h.1 hc
      refine fr_aload_n (i := 0) (q := 0) rfl dX12_rider_23 rfl ?_
      refine fr_getR dX12_rider_24 rfl fl_X12_7 k_o r_o_a ?_
      refine fr_sipush (v := 190) (by decide) dX12_rider_27 rfl ?_
      refine fr_aload_n (i := 0) (q := 0) rfl dX12_rider_30 rfl ?_
      refine fr_getR dX12_rider_31 rfl fl_X12_7 k_o r_o_a ?_
      refine fr_iconst (v := 5) (by decide) dX12_rider_34 rfl ?_
      obtain ⟨hz4, h⟩ := h
      refine fr_iald dX12_rider_35 rfl k_o_a hz4 ?_
      refine fr_iadd dX12_rider_36 rfl ?_
      refine fr_iload_n (i := 1) (q := 1) rfl dX12_rider_37 rfl ?_
      obtain ⟨hz5, h⟩ := h
      refine fr_iast dX12_rider_38 rfl k_o_a hz5 ?_
      refine fr_memI (fun I6 hI6 => ?_)
      have h := h I6 hI6
      refine fr_aload_n (i := 0) (q := 0) rfl dX12_rider_39 rfl ?_
      refine fr_getR dX12_rider_40 rfl fl_X12_7 k_o r_o_a ?_
      refine fr_iconst (v := 5) (by decide) dX12_rider_43 rfl ?_
      refine fr_dup2 rfl rfl dX12_rider_44 rfl ?_
      obtain ⟨hz7, h⟩ := h
      refine fr_iald dX12_rider_45 rfl k_o_a hz7 ?_
      refine fr_iconst (v := 1) (by decide) dX12_rider_46 rfl ?_
      refine fr_iadd dX12_rider_47 rfl ?_
      obtain ⟨hz8, h⟩ := h
      refine fr_iast dX12_rider_48 rfl k_o_a hz8 ?_
      refine fr_memI (fun I9 hI9 => ?_)
      have h := h I9 hI9
      refine fr_aload_n (i := 0) (q := 0) rfl dX12_rider_49 rfl ?_
      refine fr_getR dX12_rider_50 rfl fl_X12_7 k_o r_o_a ?_
      refine fr_iconst (v := 5) (by decide) dX12_rider_53 rfl ?_
      obtain ⟨hz10, h⟩ := h
      refine fr_iald dX12_rider_54 rfl k_o_a hz10 ?_
      exact fr_iret rfl dX12_rider_55 h.1 h.2
    · have h := h.2 hc
      refine fr_iconst (v := (-1)) (by decide) dX12_rider_21 rfl ?_
      exact fr_iret rfl dX12_rider_22 h.1 h.2
theorem cp_X12_carrier {g : GE} {Z : Zs} {I : Nat → Nat → Int32} {L : Nat → Nat → Int64} {r : Option Value} {M' : Mem} {o : Nat} {x1 : Int32} {o_a : Nat} (k_o : KM Z o 12) (r_o_a : Z.2.1 o 0 = some o_a) (k_o_a : KM Z o_a 13) (h : (∃ (v1 : Int32), Cl g 1 mu_X12_isIn [.int x1, .int 0, .int 9] (Z, I, L) (some (.int v1)) (Z, I, L) ∧ ((v1 = 0 → (r = some (.int ((-1))) ∧ M' = (Z, I, L))) ∧ (¬ v1 = 0 → (vp_in 6 (Z.2.2.1 o_a) ∧ ((¬ (I o_a (6 : Int32).toNatClampNeg) = 6 → (vp_in 6 (Z.2.2.1 o_a) ∧ (vp_in (196 + (I o_a (6 : Int32).toNatClampNeg)) (Z.2.2.1 o_a) ∧ (∀ I6 : Nat → Nat → Int32, I6 = rw1 I o_a (upd (I o_a) (196 + (I o_a (6 : Int32).toNatClampNeg)).toNatClampNeg x1) → (vp_in 6 (Z.2.2.1 o_a) ∧ (vp_in 6 (Z.2.2.1 o_a) ∧ (∀ I9 : Nat → Nat → Int32, I9 = rw1 I6 o_a (upd (I6 o_a) (6 : Int32).toNatClampNeg ((I6 o_a (6 : Int32).toNatClampNeg) + 1)) → (vp_in 6 (Z.2.2.1 o_a) ∧ (r = some (.int (I9 o_a (6 : Int32).toNatClampNeg)) ∧ M' = (Z, I9, L)))))))))) ∧ ((I o_a (6 : Int32).toNatClampNeg) = 6 → (r = some (.int ((-1))) ∧ M' = (Z, I, L))))))))) : Cl g 2 mu_X12_carrier [rf g o, .int x1] (Z, I, L) r M' := by
  refine cl_of (lv := [(0, rf g o), (1, .int x1)]) (by decide) (Nat.le_of_ble_eq_true rfl) rfl ?_
  refine fr_iload_n (i := 1) (q := 1) rfl dX12_carrier_0 rfl ?_
  refine fr_iconst (v := 0) (by decide) dX12_carrier_1 rfl ?_
  refine fr_bipush (v := 9) (by decide) dX12_carrier_2 rfl ?_
  obtain ⟨v1, hc2, h⟩ := h
  refine fr_callS2 (ν := mu_X12_isIn) (st2 := [.int v1]) (As := [.int x1, .int 0, .int 9]) (st := []) (v := (some (.int v1))) (M1 := (Z, I, L)) dX12_carrier_4 rfl ml_X12_95 mo_X12_isIn ms_X12_isIn (Nat.le_of_ble_eq_true rfl) rfl rfl (Nat.le_of_ble_eq_true rfl) hc2 rfl ?_
  refine fr_if_eq (tgt := 22) dX12_carrier_7 (by decide) rfl (fun hc => ?_) (fun hc => ?_)
  · have h := h.1 hc
    refine fr_iconst (v := (-1)) (by decide) dX12_carrier_22 rfl ?_
    exact fr_iret rfl dX12_carrier_23 h.1 h.2
  · have h := h.2 hc
    refine fr_aload_n (i := 0) (q := 0) rfl dX12_carrier_10 rfl ?_
    refine fr_getR dX12_carrier_11 rfl fl_X12_7 k_o r_o_a ?_
    refine fr_bipush (v := 6) (by decide) dX12_carrier_14 rfl ?_
    obtain ⟨hz3, h⟩ := h
    refine fr_iald dX12_carrier_16 rfl k_o_a hz3 ?_
    refine fr_bipush (v := 6) (by decide) dX12_carrier_17 rfl ?_
    refine fr_icmp_ne (tgt := 24) dX12_carrier_19 (by decide) rfl (fun hc => ?_) (fun hc => ?_)
    · have h := h.1 hc
      refine fr_aload_n (i := 0) (q := 0) rfl dX12_carrier_24 rfl ?_
      refine fr_getR dX12_carrier_25 rfl fl_X12_7 k_o r_o_a ?_
      refine fr_sipush (v := 196) (by decide) dX12_carrier_28 rfl ?_
      refine fr_aload_n (i := 0) (q := 0) rfl dX12_carrier_31 rfl ?_
      refine fr_getR dX12_carrier_32 rfl fl_X12_7 k_o r_o_a ?_
      refine fr_bipush (v := 6) (by decide) dX12_carrier_35 rfl ?_
      obtain ⟨hz4, h⟩ := h
      refine fr_iald dX12_carrier_37 rfl k_o_a hz4 ?_
      refine fr_iadd dX12_carrier_38 rfl ?_
      refine fr_iload_n (i := 1) (q := 1) rfl dX12_carrier_39 rfl ?_
      obtain ⟨hz5, h⟩ := h
      refine fr_iast dX12_carrier_40 rfl k_o_a hz5 ?_
      refine fr_memI (fun I6 hI6 => ?_)
      have h := h I6 hI6
      refine fr_aload_n (i := 0) (q := 0) rfl dX12_carrier_41 rfl ?_
      refine fr_getR dX12_carrier_42 rfl fl_X12_7 k_o r_o_a ?_
      refine fr_bipush (v := 6) (by decide) dX12_carrier_45 rfl ?_
      refine fr_dup2 rfl rfl dX12_carrier_47 rfl ?_
      obtain ⟨hz7, h⟩ := h
      refine fr_iald dX12_carrier_48 rfl k_o_a hz7 ?_
      refine fr_iconst (v := 1) (by decide) dX12_carrier_49 rfl ?_
      refine fr_iadd dX12_carrier_50 rfl ?_
      obtain ⟨hz8, h⟩ := h
      refine fr_iast dX12_carrier_51 rfl k_o_a hz8 ?_
      refine fr_memI (fun I9 hI9 => ?_)
      have h := h I9 hI9
      refine fr_aload_n (i := 0) (q := 0) rfl dX12_carrier_52 rfl ?_
      refine fr_getR dX12_carrier_53 rfl fl_X12_7 k_o r_o_a ?_
      refine fr_bipush (v := 6) (by decide) dX12_carrier_56 rfl ?_
      obtain ⟨hz10, h⟩ := h
      refine fr_iald dX12_carrier_58 rfl k_o_a hz10 ?_
      exact fr_iret rfl dX12_carrier_59 h.1 h.2
    · have h := h.2 hc
      refine fr_iconst (v := (-1)) (by decide) dX12_carrier_22 rfl ?_
      exact fr_iret rfl dX12_carrier_23 h.1 h.2
abbrev Lp_X12_four_3 (g : GE) (d : Nat) (o : Nat) (u1 : Int32) (u2 : Int32) (M : Mem) (r : Option Value) (M' : Mem) : Prop := Fr g d mu_X12_four 3 [(0, rf g o), (1, .int u1), (2, .int u2)] [] M r M'
theorem cp_X12_four {g : GE} {Z : Zs} {I : Nat → Nat → Int32} {L : Nat → Nat → Int64} {r : Option Value} {M' : Mem} {o : Nat} {x1 : Int32} (k_o : KM Z o 12) (h : Lp_X12_four_3 g 1 o x1 24 (Z, I, L) r M') : Cl g 1 mu_X12_four [rf g o, .int x1] (Z, I, L) r M' := by
  refine cl_of (lv := [(0, rf g o), (1, .int x1)]) (by decide) (Nat.le_of_ble_eq_true rfl) rfl ?_
  refine fr_bipush (v := 24) (by decide) dX12_four_0 rfl ?_
  refine fr_istore_n (i := 2) (lv' := [(2, .int 24), (0, rf g o), (1, .int x1)]) dX12_four_2 rfl (by decide) rfl ?_
  exact fr_sub [1, 2, 0] rfl h
theorem wp_X12_four_3 {g : GE} {Z : Zs} {I : Nat → Nat → Int32} {L : Nat → Nat → Int64} {r : Option Value} {M' : Mem} {o : Nat} {u1 : Int32} {u2 : Int32} {o_tape : Nat} (k_o : KM Z o 12) (r_o_tape : Z.2.1 o 5 = some o_tape) (k_o_tape : KM Z o_tape 13) (h : ((u2 < 0 → (r = none ∧ M' = (Z, I, L))) ∧ (¬ u2 < 0 → (vp_in (I o 6) (Z.2.2.1 o_tape) ∧ (∀ I2 : Nat → Nat → Int32, I2 = rw1 I o_tape (upd (I o_tape) (I o 6).toNatClampNeg ((u1 >>> (u2 &&& 31)) &&& 255)) → (∀ I3 : Nat → Nat → Int32, I3 = rw1 I2 o (upd (I2 o) 6 ((I2 o 6) + 1)) → (∀ y4 : Int32, y4 = (u2 + (-8)) → Lp_X12_four_3 g 1 o u1 y4 (Z, I3, L) r M'))))))) : Lp_X12_four_3 g 1 o u1 u2 (Z, I, L) r M' := by
  refine fr_iload_n (i := 2) (q := 2) rfl dX12_four_3 rfl ?_
  refine fr_if_lt (tgt := 39) dX12_four_4 (by decide) rfl (fun hc => ?_) (fun hc => ?_)
  · have h := h.1 hc
    exact fr_vret rfl dX12_four_39 h.1 h.2
  · have h := h.2 hc
    refine fr_aload_n (i := 0) (q := 0) rfl dX12_four_7 rfl ?_
    refine fr_getR dX12_four_8 rfl fl_X12_19 k_o r_o_tape ?_
    refine fr_aload_n (i := 0) (q := 0) rfl dX12_four_11 rfl ?_
    refine fr_getI dX12_four_12 rfl fl_X12_116 k_o ?_
    refine fr_iload_n (i := 1) (q := 1) rfl dX12_four_15 rfl ?_
    refine fr_iload_n (i := 2) (q := 2) rfl dX12_four_16 rfl ?_
    refine fr_ishr dX12_four_17 rfl ?_
    refine fr_sipush (v := 255) (by decide) dX12_four_18 rfl ?_
    refine fr_iand dX12_four_21 rfl ?_
    obtain ⟨hz1, h⟩ := h
    refine fr_iast dX12_four_22 rfl k_o_tape hz1 ?_
    refine fr_memI (fun I2 hI2 => ?_)
    have h := h I2 hI2
    refine fr_aload_n (i := 0) (q := 0) rfl dX12_four_23 rfl ?_
    refine fr_dup rfl dX12_four_24 rfl ?_
    refine fr_getI dX12_four_25 rfl fl_X12_116 k_o ?_
    refine fr_iconst (v := 1) (by decide) dX12_four_28 rfl ?_
    refine fr_iadd dX12_four_29 rfl ?_
    refine fr_putI dX12_four_30 rfl fp_X12_116 k_o ?_
    refine fr_memI (fun I3 hI3 => ?_)
    have h := h I3 hI3
    obtain ⟨y4, hy4⟩ : ∃ y : Int32, y = u2 + (-8) := ⟨_, rfl⟩
    have h := h y4 hy4
    refine fr_iinc (q := 2) (v := y4) (lv' := [(2, .int y4), (0, rf g o), (1, .int u1)]) rfl (by rw [hy4]; rfl) dX12_four_33 rfl (by decide) rfl ?_
    refine fr_goto (n := 3) dX12_four_36 (by decide) ?_
    exact fr_sub [1, 2, 0] rfl h
theorem cp_X12_feed {g : GE} {Z : Zs} {I : Nat → Nat → Int32} {L : Nat → Nat → Int64} {r : Option Value} {M' : Mem} {o : Nat} {x1 : Int32} {x2 : Int32} {x3 : Int32} {x4 : Int32} {x5 : Int32} (k_o : KM Z o 12) (h : ((((I o 6) + 20) ≤ 300 → (∃ (I1 : Nat → Nat → Int32) (L2 : Nat → Nat → Int64), Cl g 1 mu_X12_four [rf g o, .int x1] (Z, I, L) none (Z, I1, L2) ∧ (∃ (I4 : Nat → Nat → Int32) (L5 : Nat → Nat → Int64), Cl g 1 mu_X12_four [rf g o, .int x2] (Z, I1, L2) none (Z, I4, L5) ∧ (∃ (I7 : Nat → Nat → Int32) (L8 : Nat → Nat → Int64), Cl g 1 mu_X12_four [rf g o, .int x3] (Z, I4, L5) none (Z, I7, L8) ∧ (∃ (I10 : Nat → Nat → Int32) (L11 : Nat → Nat → Int64), Cl g 1 mu_X12_four [rf g o, .int x4] (Z, I7, L8) none (Z, I10, L11) ∧ (∃ (I13 : Nat → Nat → Int32) (L14 : Nat → Nat → Int64), Cl g 1 mu_X12_four [rf g o, .int x5] (Z, I10, L11) none (Z, I13, L14) ∧ (r = some (.int (I13 o 6)) ∧ M' = (Z, I13, L14)))))))) ∧ (¬ ((I o 6) + 20) ≤ 300 → (r = some (.int ((-1))) ∧ M' = (Z, I, L))))) : Cl g 2 mu_X12_feed [rf g o, .int x1, .int x2, .int x3, .int x4, .int x5] (Z, I, L) r M' := by
  refine cl_of (lv := [(0, rf g o), (1, .int x1), (2, .int x2), (3, .int x3), (4, .int x4), (5, .int x5)]) (by decide) (Nat.le_of_ble_eq_true rfl) rfl ?_
  refine fr_aload_n (i := 0) (q := 0) rfl dX12_feed_0 rfl ?_
  refine fr_getI dX12_feed_1 rfl fl_X12_116 k_o ?_
  refine fr_bipush (v := 20) (by decide) dX12_feed_4 rfl ?_
  refine fr_iadd dX12_feed_6 rfl ?_
  refine fr_sipush (v := 300) (by decide) dX12_feed_7 rfl ?_
  refine fr_icmp_le (tgt := 15) dX12_feed_10 (by decide) rfl (fun hc => ?_) (fun hc => ?_)
  · have h := h.1 hc
    refine fr_aload_n (i := 0) (q := 0) rfl dX12_feed_15 rfl ?_
    refine fr_iload_n (i := 1) (q := 1) rfl dX12_feed_16 rfl ?_
    obtain ⟨I1, L2, hc3, h⟩ := h
    refine fr_callV2 (ν := mu_X12_four) (st2 := []) (As := [.int x1]) (st := []) (v := none) (M1 := (Z, I1, L2)) dX12_feed_17 rfl ml_X12_119 mo_X12_four mi_X12_four (ci := 12) rfl rfl k_o (Nat.le_of_ble_eq_true rfl) rfl rfl (Nat.le_of_ble_eq_true rfl) hc3 rfl ?_
    refine fr_aload_n (i := 0) (q := 0) rfl dX12_feed_20 rfl ?_
    refine fr_iload_n (i := 2) (q := 2) rfl dX12_feed_21 rfl ?_
    obtain ⟨I4, L5, hc6, h⟩ := h
    refine fr_callV2 (ν := mu_X12_four) (st2 := []) (As := [.int x2]) (st := []) (v := none) (M1 := (Z, I4, L5)) dX12_feed_22 rfl ml_X12_119 mo_X12_four mi_X12_four (ci := 12) rfl rfl k_o (Nat.le_of_ble_eq_true rfl) rfl rfl (Nat.le_of_ble_eq_true rfl) hc6 rfl ?_
    refine fr_aload_n (i := 0) (q := 0) rfl dX12_feed_25 rfl ?_
    refine fr_iload_n (i := 3) (q := 3) rfl dX12_feed_26 rfl ?_
    obtain ⟨I7, L8, hc9, h⟩ := h
    refine fr_callV2 (ν := mu_X12_four) (st2 := []) (As := [.int x3]) (st := []) (v := none) (M1 := (Z, I7, L8)) dX12_feed_27 rfl ml_X12_119 mo_X12_four mi_X12_four (ci := 12) rfl rfl k_o (Nat.le_of_ble_eq_true rfl) rfl rfl (Nat.le_of_ble_eq_true rfl) hc9 rfl ?_
    refine fr_aload_n (i := 0) (q := 0) rfl dX12_feed_30 rfl ?_
    refine fr_iload (q := 4) rfl dX12_feed_31 rfl ?_
    obtain ⟨I10, L11, hc12, h⟩ := h
    refine fr_callV2 (ν := mu_X12_four) (st2 := []) (As := [.int x4]) (st := []) (v := none) (M1 := (Z, I10, L11)) dX12_feed_33 rfl ml_X12_119 mo_X12_four mi_X12_four (ci := 12) rfl rfl k_o (Nat.le_of_ble_eq_true rfl) rfl rfl (Nat.le_of_ble_eq_true rfl) hc12 rfl ?_
    refine fr_aload_n (i := 0) (q := 0) rfl dX12_feed_36 rfl ?_
    refine fr_iload (q := 5) rfl dX12_feed_37 rfl ?_
    obtain ⟨I13, L14, hc15, h⟩ := h
    refine fr_callV2 (ν := mu_X12_four) (st2 := []) (As := [.int x5]) (st := []) (v := none) (M1 := (Z, I13, L14)) dX12_feed_39 rfl ml_X12_119 mo_X12_four mi_X12_four (ci := 12) rfl rfl k_o (Nat.le_of_ble_eq_true rfl) rfl rfl (Nat.le_of_ble_eq_true rfl) hc15 rfl ?_
    refine fr_aload_n (i := 0) (q := 0) rfl dX12_feed_42 rfl ?_
    refine fr_getI dX12_feed_43 rfl fl_X12_116 k_o ?_
    exact fr_iret rfl dX12_feed_46 h.1 h.2
  · have h := h.2 hc
    refine fr_iconst (v := (-1)) (by decide) dX12_feed_13 rfl ?_
    exact fr_iret rfl dX12_feed_14 h.1 h.2
theorem cp_X12_end {g : GE} {Z : Zs} {I : Nat → Nat → Int32} {L : Nat → Nat → Int64} {r : Option Value} {M' : Mem} {o : Nat} {x1 : Int32} (k_o : KM Z o 12) (h : (∃ (v1 : Int32), Cl g 1 mu_X12_isIn [.int x1, .int 0, .int (I o 6)] (Z, I, L) (some (.int v1)) (Z, I, L) ∧ ((¬ v1 = 0 → (∀ I3 : Nat → Nat → Int32, I3 = rw1 I o (upd (I o) 6 x1) → (r = some (.int x1) ∧ M' = (Z, I3, L)))) ∧ (v1 = 0 → (r = some (.int ((-1))) ∧ M' = (Z, I, L)))))) : Cl g 2 mu_X12_end [rf g o, .int x1] (Z, I, L) r M' := by
  refine cl_of (lv := [(0, rf g o), (1, .int x1)]) (by decide) (Nat.le_of_ble_eq_true rfl) rfl ?_
  refine fr_iload_n (i := 1) (q := 1) rfl dX12_end_0 rfl ?_
  refine fr_iconst (v := 0) (by decide) dX12_end_1 rfl ?_
  refine fr_aload_n (i := 0) (q := 0) rfl dX12_end_2 rfl ?_
  refine fr_getI dX12_end_3 rfl fl_X12_116 k_o ?_
  obtain ⟨v1, hc2, h⟩ := h
  refine fr_callS2 (ν := mu_X12_isIn) (st2 := [.int v1]) (As := [.int x1, .int 0, .int (I o 6)]) (st := []) (v := (some (.int v1))) (M1 := (Z, I, L)) dX12_end_6 rfl ml_X12_95 mo_X12_isIn ms_X12_isIn (Nat.le_of_ble_eq_true rfl) rfl rfl (Nat.le_of_ble_eq_true rfl) hc2 rfl ?_
  refine fr_if_ne (tgt := 14) dX12_end_9 (by decide) rfl (fun hc => ?_) (fun hc => ?_)
  · have h := h.1 hc
    refine fr_aload_n (i := 0) (q := 0) rfl dX12_end_14 rfl ?_
    refine fr_iload_n (i := 1) (q := 1) rfl dX12_end_15 rfl ?_
    refine fr_putI dX12_end_16 rfl fp_X12_116 k_o ?_
    refine fr_memI (fun I3 hI3 => ?_)
    have h := h I3 hI3
    refine fr_iload_n (i := 1) (q := 1) rfl dX12_end_19 rfl ?_
    exact fr_iret rfl dX12_end_20 h.1 h.2
  · have h := h.2 hc
    refine fr_iconst (v := (-1)) (by decide) dX12_end_12 rfl ?_
    exact fr_iret rfl dX12_end_13 h.1 h.2
theorem cp_X12_byteAt {g : GE} {Z : Zs} {I : Nat → Nat → Int32} {L : Nat → Nat → Int64} {r : Option Value} {M' : Mem} {o : Nat} {x1 : Int32} {o_tape : Nat} (k_o : KM Z o 12) (r_o_tape : Z.2.1 o 5 = some o_tape) (k_o_tape : KM Z o_tape 13) (h : (((I o 6) ≤ x1 → (r = some (.int ((-1))) ∧ M' = (Z, I, L))) ∧ (¬ (I o 6) ≤ x1 → (vp_in x1 (Z.2.2.1 o_tape) ∧ (r = some (.int (I o_tape x1.toNatClampNeg)) ∧ M' = (Z, I, L)))))) : Cl g 1 mu_X12_byteAt [rf g o, .int x1] (Z, I, L) r M' := by
  refine cl_of (lv := [(0, rf g o), (1, .int x1)]) (by decide) (Nat.le_of_ble_eq_true rfl) rfl ?_
  refine fr_iload_n (i := 1) (q := 1) rfl dX12_byteAt_0 rfl ?_
  refine fr_aload_n (i := 0) (q := 0) rfl dX12_byteAt_1 rfl ?_
  refine fr_getI dX12_byteAt_2 rfl fl_X12_116 k_o ?_
  refine fr_icmp_ge (tgt := 17) dX12_byteAt_5 (by decide) rfl (fun hc => ?_) (fun hc => ?_)
  · have h := h.1 hc
    refine fr_iconst (v := (-1)) (by decide) dX12_byteAt_17 rfl ?_
    exact fr_iret rfl dX12_byteAt_18 h.1 h.2
  · have h := h.2 hc
    refine fr_aload_n (i := 0) (q := 0) rfl dX12_byteAt_8 rfl ?_
    refine fr_getR dX12_byteAt_9 rfl fl_X12_19 k_o r_o_tape ?_
    refine fr_iload_n (i := 1) (q := 1) rfl dX12_byteAt_12 rfl ?_
    obtain ⟨hz1, h⟩ := h
    refine fr_iald dX12_byteAt_13 rfl k_o_tape hz1 ?_
    refine fr_goto (n := 18) dX12_byteAt_14 (by decide) ?_
    exact fr_iret rfl dX12_byteAt_18 h.1 h.2
theorem cp_X12_isLetter {g : GE} {Z : Zs} {I : Nat → Nat → Int32} {L : Nat → Nat → Int64} {r : Option Value} {M' : Mem} {x0 : Int32}  (h : (∃ (v1 : Int32), Cl g 1 mu_X12_isIn [.int x0, .int 97, .int 122] (Z, I, L) (some (.int v1)) (Z, I, L) ∧ ((¬ v1 = 0 → (r = some (.int 1) ∧ M' = (Z, I, L))) ∧ (v1 = 0 → (∃ (v3 : Int32), Cl g 1 mu_X12_isIn [.int x0, .int 65, .int 90] (Z, I, L) (some (.int v3)) (Z, I, L) ∧ ((v3 = 0 → (r = some (.int 0) ∧ M' = (Z, I, L))) ∧ (¬ v3 = 0 → (r = some (.int 1) ∧ M' = (Z, I, L))))))))) : Cl g 2 mu_X12_isLetter [.int x0] (Z, I, L) r M' := by
  refine cl_of (lv := [(0, .int x0)]) (by decide) (Nat.le_of_ble_eq_true rfl) rfl ?_
  refine fr_iload_n (i := 0) (q := 0) rfl dX12_isLetter_0 rfl ?_
  refine fr_bipush (v := 97) (by decide) dX12_isLetter_1 rfl ?_
  refine fr_bipush (v := 122) (by decide) dX12_isLetter_3 rfl ?_
  obtain ⟨v1, hc2, h⟩ := h
  refine fr_callS2 (ν := mu_X12_isIn) (st2 := [.int v1]) (As := [.int x0, .int 97, .int 122]) (st := []) (v := (some (.int v1))) (M1 := (Z, I, L)) dX12_isLetter_5 rfl ml_X12_95 mo_X12_isIn ms_X12_isIn (Nat.le_of_ble_eq_true rfl) rfl rfl (Nat.le_of_ble_eq_true rfl) hc2 rfl ?_
  refine fr_if_ne (tgt := 22) dX12_isLetter_8 (by decide) rfl (fun hc => ?_) (fun hc => ?_)
  · have h := h.1 hc
    refine fr_iconst (v := 1) (by decide) dX12_isLetter_22 rfl ?_
    refine fr_goto (n := 27) dX12_isLetter_23 (by decide) ?_
    exact fr_zret (by decide) rfl dX12_isLetter_27 h.1 h.2
  · have h := h.2 hc
    refine fr_iload_n (i := 0) (q := 0) rfl dX12_isLetter_11 rfl ?_
    refine fr_bipush (v := 65) (by decide) dX12_isLetter_12 rfl ?_
    refine fr_bipush (v := 90) (by decide) dX12_isLetter_14 rfl ?_
    obtain ⟨v3, hc4, h⟩ := h
    refine fr_callS2 (ν := mu_X12_isIn) (st2 := [.int v3]) (As := [.int x0, .int 65, .int 90]) (st := []) (v := (some (.int v3))) (M1 := (Z, I, L)) dX12_isLetter_16 rfl ml_X12_95 mo_X12_isIn ms_X12_isIn (Nat.le_of_ble_eq_true rfl) rfl rfl (Nat.le_of_ble_eq_true rfl) hc4 rfl ?_
    refine fr_if_eq (tgt := 26) dX12_isLetter_19 (by decide) rfl (fun hc => ?_) (fun hc => ?_)
    · have h := h.1 hc
      refine fr_iconst (v := 0) (by decide) dX12_isLetter_26 rfl ?_
      exact fr_zret (by decide) rfl dX12_isLetter_27 h.1 h.2
    · have h := h.2 hc
      refine fr_iconst (v := 1) (by decide) dX12_isLetter_22 rfl ?_
      refine fr_goto (n := 27) dX12_isLetter_23 (by decide) ?_
      exact fr_zret (by decide) rfl dX12_isLetter_27 h.1 h.2
theorem cp_X12_isDigit {g : GE} {Z : Zs} {I : Nat → Nat → Int32} {L : Nat → Nat → Int64} {r : Option Value} {M' : Mem} {x0 : Int32}  (h : (∃ (v1 : Int32), Cl g 1 mu_X12_isIn [.int x0, .int 48, .int 57] (Z, I, L) (some (.int v1)) (Z, I, L) ∧ ((v1 = 0 ∨ v1 = 1) ∧ r = some (.int v1) ∧ M' = (Z, I, L)))) : Cl g 2 mu_X12_isDigit [.int x0] (Z, I, L) r M' := by
  refine cl_of (lv := [(0, .int x0)]) (by decide) (Nat.le_of_ble_eq_true rfl) rfl ?_
  refine fr_iload_n (i := 0) (q := 0) rfl dX12_isDigit_0 rfl ?_
  refine fr_bipush (v := 48) (by decide) dX12_isDigit_1 rfl ?_
  refine fr_bipush (v := 57) (by decide) dX12_isDigit_3 rfl ?_
  obtain ⟨v1, hc2, h⟩ := h
  refine fr_callS2 (ν := mu_X12_isIn) (st2 := [.int v1]) (As := [.int x0, .int 48, .int 57]) (st := []) (v := (some (.int v1))) (M1 := (Z, I, L)) dX12_isDigit_5 rfl ml_X12_95 mo_X12_isIn ms_X12_isIn (Nat.le_of_ble_eq_true rfl) rfl rfl (Nat.le_of_ble_eq_true rfl) hc2 rfl ?_
  exact fr_zret h.1 rfl dX12_isDigit_8 h.2.1 h.2.2
abbrev Lp_X12_nextToken_0 (g : GE) (d : Nat) (o : Nat) (M : Mem) (r : Option Value) (M' : Mem) : Prop := Fr g d mu_X12_nextToken 0 [(0, rf g o)] [] M r M'
theorem cp_X12_nextToken {g : GE} {Z : Zs} {I : Nat → Nat → Int32} {L : Nat → Nat → Int64} {r : Option Value} {M' : Mem} {o : Nat} (k_o : KM Z o 12) (h : Lp_X12_nextToken_0 g 3 o (Z, I, L) r M') : Cl g 3 mu_X12_nextToken [rf g o] (Z, I, L) r M' := by
  refine cl_of (lv := [(0, rf g o)]) (by decide) (Nat.le_of_ble_eq_true rfl) rfl ?_
  exact fr_sub [0] rfl h
abbrev Lp_X12_nextToken_344 (g : GE) (d : Nat) (o : Nat) (u1 : Int32) (s0 : Int32) (M : Mem) (r : Option Value) (M' : Mem) : Prop := Fr g d mu_X12_nextToken 344 [(0, rf g o), (1, .int u1)] [.int s0] M r M'
abbrev Lp_X12_nextToken_161 (g : GE) (d : Nat) (o : Nat) (M : Mem) (r : Option Value) (M' : Mem) : Prop := Fr g d mu_X12_nextToken 161 [(0, rf g o)] [] M r M'
abbrev Lp_X12_nextToken_85 (g : GE) (d : Nat) (o : Nat) (M : Mem) (r : Option Value) (M' : Mem) : Prop := Fr g d mu_X12_nextToken 85 [(0, rf g o)] [] M r M'
theorem wp_X12_nextToken_0 {g : GE} {Z : Zs} {I : Nat → Nat → Int32} {L : Nat → Nat → Int64} {r : Option Value} {M' : Mem} {o : Nat} (k_o : KM Z o 12) (h : (∃ (v1 : Int32), Cl g 1 mu_X12_byteAt [rf g o, .int (I o 9)] (Z, I, L) (some (.int v1)) (Z, I, L) ∧ ((v1 = 32 → (∀ I3 : Nat → Nat → Int32, I3 = rw1 I o (upd (I o) 9 ((I o 9) + 1)) → Lp_X12_nextToken_0 g 3 o (Z, I3, L) r M')) ∧ (¬ v1 = 32 → (∃ (v4 : Int32), Cl g 1 mu_X12_byteAt [rf g o, .int (I o 9)] (Z, I, L) (some (.int v4)) (Z, I, L) ∧ ((¬ v4 = 10 → (∀ I6 : Nat → Nat → Int32, I6 = rw1 I o (upd (I o) 10 (I o 9)) → (∃ (v7 : Int32), Cl g 1 mu_X12_byteAt [rf g o, .int (I6 o 9)] (Z, I6, L) (some (.int v7)) (Z, I6, L) ∧ ((0 ≤ v7 → (∃ (v9 : Int32), Cl g 2 mu_X12_isDigit [.int v7] (Z, I6, L) (some (.int v9)) (Z, I6, L) ∧ ((v9 = 0 → (∃ (v11 : Int32), Cl g 2 mu_X12_isLetter [.int v7] (Z, I6, L) (some (.int v11)) (Z, I6, L) ∧ ((v11 = 0 → (∀ I13 : Nat → Nat → Int32, I13 = rw1 I6 o (upd (I6 o) 9 ((I6 o 9) + 1)) → ((v7 = 60 → Lp_X12_nextToken_344 g 3 o v7 1 (Z, I13, L) r M') ∧ (¬ v7 = 60 → ((v7 = 62 → Lp_X12_nextToken_344 g 3 o v7 1 (Z, I13, L) r M') ∧ (¬ v7 = 62 → ((v7 = 61 → Lp_X12_nextToken_344 g 3 o v7 1 (Z, I13, L) r M') ∧ (¬ v7 = 61 → ((v7 = 35 → Lp_X12_nextToken_344 g 3 o v7 1 (Z, I13, L) r M') ∧ (¬ v7 = 35 → ((v7 = 43 → Lp_X12_nextToken_344 g 3 o v7 1 (Z, I13, L) r M') ∧ (¬ v7 = 43 → ((v7 = 45 → Lp_X12_nextToken_344 g 3 o v7 1 (Z, I13, L) r M') ∧ (¬ v7 = 45 → ((v7 = 42 → Lp_X12_nextToken_344 g 3 o v7 1 (Z, I13, L) r M') ∧ (¬ v7 = 42 → ((v7 = 47 → Lp_X12_nextToken_344 g 3 o v7 1 (Z, I13, L) r M') ∧ (¬ v7 = 47 → ((v7 = 40 → Lp_X12_nextToken_344 g 3 o v7 1 (Z, I13, L) r M') ∧ (¬ v7 = 40 → ((v7 = 41 → Lp_X12_nextToken_344 g 3 o v7 1 (Z, I13, L) r M') ∧ (¬ v7 = 41 → ((v7 = 59 → Lp_X12_nextToken_344 g 3 o v7 1 (Z, I13, L) r M') ∧ (¬ v7 = 59 → ((v7 = 44 → Lp_X12_nextToken_344 g 3 o v7 1 (Z, I13, L) r M') ∧ (¬ v7 = 44 → ((v7 = 63 → Lp_X12_nextToken_344 g 3 o v7 1 (Z, I13, L) r M') ∧ (¬ v7 = 63 → ((¬ v7 = 58 → Lp_X12_nextToken_344 g 3 o v7 0 (Z, I13, L) r M') ∧ (v7 = 58 → Lp_X12_nextToken_344 g 3 o v7 1 (Z, I13, L) r M')))))))))))))))))))))))))))))) ∧ (¬ v11 = 0 → (∀ I14 : Nat → Nat → Int32, I14 = rw1 I6 o (upd (I6 o) 11 2) → (∀ L15 : Nat → Nat → Int64, L15 = rw1 L o (vp_updL (L o) 13 0) → Lp_X12_nextToken_161 g 3 o (Z, I14, L15) r M')))))) ∧ (¬ v9 = 0 → (∀ I16 : Nat → Nat → Int32, I16 = rw1 I6 o (upd (I6 o) 11 1) → (∀ I17 : Nat → Nat → Int32, I17 = rw1 I16 o (upd (I16 o) 12 0) → Lp_X12_nextToken_85 g 3 o (Z, I17, L) r M')))))) ∧ (¬ 0 ≤ v7 → (∀ I18 : Nat → Nat → Int32, I18 = rw1 I6 o (upd (I6 o) 11 0) → (r = none ∧ M' = (Z, I18, L)))))))) ∧ (v4 = 10 → (∀ I19 : Nat → Nat → Int32, I19 = rw1 I o (upd (I o) 9 ((I o 9) + 1)) → Lp_X12_nextToken_0 g 3 o (Z, I19, L) r M')))))))) : Lp_X12_nextToken_0 g 3 o (Z, I, L) r M' := by
  refine fr_aload_n (i := 0) (q := 0) rfl dX12_nextToken_0 rfl ?_
  refine fr_aload_n (i := 0) (q := 0) rfl dX12_nextToken_1 rfl ?_
  refine fr_getI dX12_nextToken_2 rfl fl_X12_123 k_o ?_
  obtain ⟨v1, hc2, h⟩ := h
  refine fr_callV2 (ν := mu_X12_byteAt) (st2 := [.int v1]) (As := [.int (I o 9)]) (st := []) (v := (some (.int v1))) (M1 := (Z, I, L)) dX12_nextToken_5 rfl ml_X12_126 mo_X12_byteAt mi_X12_byteAt (ci := 12) rfl rfl k_o (Nat.le_of_ble_eq_true rfl) rfl rfl (Nat.le_of_ble_eq_true rfl) hc2 rfl ?_
  refine fr_bipush (v := 32) (by decide) dX12_nextToken_8 rfl ?_
  refine fr_icmp_eq (tgt := 26) dX12_nextToken_10 (by decide) rfl (fun hc => ?_) (fun hc => ?_)
  · have h := h.1 hc
    refine fr_aload_n (i := 0) (q := 0) rfl dX12_nextToken_26 rfl ?_
    refine fr_dup rfl dX12_nextToken_27 rfl ?_
    refine fr_getI dX12_nextToken_28 rfl fl_X12_123 k_o ?_
    refine fr_iconst (v := 1) (by decide) dX12_nextToken_31 rfl ?_
    refine fr_iadd dX12_nextToken_32 rfl ?_
    refine fr_putI dX12_nextToken_33 rfl fp_X12_123 k_o ?_
    refine fr_memI (fun I3 hI3 => ?_)
    have h := h I3 hI3
    refine fr_goto (n := 0) dX12_nextToken_36 (by decide) ?_
    exact fr_sub [0] rfl h
  · have h := h.2 hc
    refine fr_aload_n (i := 0) (q := 0) rfl dX12_nextToken_13 rfl ?_
    refine fr_aload_n (i := 0) (q := 0) rfl dX12_nextToken_14 rfl ?_
    refine fr_getI dX12_nextToken_15 rfl fl_X12_123 k_o ?_
    obtain ⟨v4, hc5, h⟩ := h
    refine fr_callV2 (ν := mu_X12_byteAt) (st2 := [.int v4]) (As := [.int (I o 9)]) (st := []) (v := (some (.int v4))) (M1 := (Z, I, L)) dX12_nextToken_18 rfl ml_X12_126 mo_X12_byteAt mi_X12_byteAt (ci := 12) rfl rfl k_o (Nat.le_of_ble_eq_true rfl) rfl rfl (Nat.le_of_ble_eq_true rfl) hc5 rfl ?_
    refine fr_bipush (v := 10) (by decide) dX12_nextToken_21 rfl ?_
    refine fr_icmp_ne (tgt := 39) dX12_nextToken_23 (by decide) rfl (fun hc => ?_) (fun hc => ?_)
    · have h := h.1 hc
      refine fr_aload_n (i := 0) (q := 0) rfl dX12_nextToken_39 rfl ?_
      refine fr_aload_n (i := 0) (q := 0) rfl dX12_nextToken_40 rfl ?_
      refine fr_getI dX12_nextToken_41 rfl fl_X12_123 k_o ?_
      refine fr_putI dX12_nextToken_44 rfl fp_X12_129 k_o ?_
      refine fr_memI (fun I6 hI6 => ?_)
      have h := h I6 hI6
      refine fr_aload_n (i := 0) (q := 0) rfl dX12_nextToken_47 rfl ?_
      refine fr_aload_n (i := 0) (q := 0) rfl dX12_nextToken_48 rfl ?_
      refine fr_getI dX12_nextToken_49 rfl fl_X12_123 k_o ?_
      obtain ⟨v7, hc8, h⟩ := h
      refine fr_callV2 (ν := mu_X12_byteAt) (st2 := [.int v7]) (As := [.int (I6 o 9)]) (st := []) (v := (some (.int v7))) (M1 := (Z, I6, L)) dX12_nextToken_52 rfl ml_X12_126 mo_X12_byteAt mi_X12_byteAt (ci := 12) rfl rfl k_o (Nat.le_of_ble_eq_true rfl) rfl rfl (Nat.le_of_ble_eq_true rfl) hc8 rfl ?_
      refine fr_istore_n (i := 1) (lv' := [(1, .int v7), (0, rf g o)]) dX12_nextToken_55 rfl (by decide) rfl ?_
      refine fr_iload_n (i := 1) (q := 0) rfl dX12_nextToken_56 rfl ?_
      refine fr_if_ge (tgt := 68) dX12_nextToken_57 (by decide) rfl (fun hc => ?_) (fun hc => ?_)
      · have h := h.1 hc
        refine fr_iload_n (i := 1) (q := 0) rfl dX12_nextToken_68 rfl ?_
        obtain ⟨v9, hc10, h⟩ := h
        refine fr_callS2 (ν := mu_X12_isDigit) (st2 := [.int v9]) (As := [.int v7]) (st := []) (v := (some (.int v9))) (M1 := (Z, I6, L)) dX12_nextToken_69 rfl ml_X12_135 mo_X12_isDigit ms_X12_isDigit (Nat.le_of_ble_eq_true rfl) rfl rfl (Nat.le_of_ble_eq_true rfl) hc10 rfl ?_
        refine fr_if_eq (tgt := 144) dX12_nextToken_72 (by decide) rfl (fun hc => ?_) (fun hc => ?_)
        · have h := h.1 hc
          refine fr_iload_n (i := 1) (q := 0) rfl dX12_nextToken_144 rfl ?_
          obtain ⟨v11, hc12, h⟩ := h
          refine fr_callS2 (ν := mu_X12_isLetter) (st2 := [.int v11]) (As := [.int v7]) (st := []) (v := (some (.int v11))) (M1 := (Z, I6, L)) dX12_nextToken_145 rfl ml_X12_142 mo_X12_isLetter ms_X12_isLetter (Nat.le_of_ble_eq_true rfl) rfl rfl (Nat.le_of_ble_eq_true rfl) hc12 rfl ?_
          refine fr_if_eq (tgt := 245) dX12_nextToken_148 (by decide) rfl (fun hc => ?_) (fun hc => ?_)
          · have h := h.1 hc
            refine fr_aload_n (i := 0) (q := 1) rfl dX12_nextToken_245 rfl ?_
            refine fr_dup rfl dX12_nextToken_246 rfl ?_
            refine fr_getI dX12_nextToken_247 rfl fl_X12_123 k_o ?_
            refine fr_iconst (v := 1) (by decide) dX12_nextToken_250 rfl ?_
            refine fr_iadd dX12_nextToken_251 rfl ?_
            refine fr_putI dX12_nextToken_252 rfl fp_X12_123 k_o ?_
            refine fr_memI (fun I13 hI13 => ?_)
            have h := h I13 hI13
            refine fr_iload_n (i := 1) (q := 0) rfl dX12_nextToken_255 rfl ?_
            refine fr_bipush (v := 60) (by decide) dX12_nextToken_256 rfl ?_
            refine fr_icmp_eq (tgt := 339) dX12_nextToken_258 (by decide) rfl (fun hc => ?_) (fun hc => ?_)
            · have h := h.1 hc
              refine fr_iconst (v := 1) (by decide) dX12_nextToken_339 rfl ?_
              refine fr_goto (n := 344) dX12_nextToken_340 (by decide) ?_
              exact fr_sub [1, 0] rfl h
            · have h := h.2 hc
              refine fr_iload_n (i := 1) (q := 0) rfl dX12_nextToken_261 rfl ?_
              refine fr_bipush (v := 62) (by decide) dX12_nextToken_262 rfl ?_
              refine fr_icmp_eq (tgt := 339) dX12_nextToken_264 (by decide) rfl (fun hc => ?_) (fun hc => ?_)
              · have h := h.1 hc
                refine fr_iconst (v := 1) (by decide) dX12_nextToken_339 rfl ?_
                refine fr_goto (n := 344) dX12_nextToken_340 (by decide) ?_
                exact fr_sub [1, 0] rfl h
              · have h := h.2 hc
                refine fr_iload_n (i := 1) (q := 0) rfl dX12_nextToken_267 rfl ?_
                refine fr_bipush (v := 61) (by decide) dX12_nextToken_268 rfl ?_
                refine fr_icmp_eq (tgt := 339) dX12_nextToken_270 (by decide) rfl (fun hc => ?_) (fun hc => ?_)
                · have h := h.1 hc
                  refine fr_iconst (v := 1) (by decide) dX12_nextToken_339 rfl ?_
                  refine fr_goto (n := 344) dX12_nextToken_340 (by decide) ?_
                  exact fr_sub [1, 0] rfl h
                · have h := h.2 hc
                  refine fr_iload_n (i := 1) (q := 0) rfl dX12_nextToken_273 rfl ?_
                  refine fr_bipush (v := 35) (by decide) dX12_nextToken_274 rfl ?_
                  refine fr_icmp_eq (tgt := 339) dX12_nextToken_276 (by decide) rfl (fun hc => ?_) (fun hc => ?_)
                  · have h := h.1 hc
                    refine fr_iconst (v := 1) (by decide) dX12_nextToken_339 rfl ?_
                    refine fr_goto (n := 344) dX12_nextToken_340 (by decide) ?_
                    exact fr_sub [1, 0] rfl h
                  · have h := h.2 hc
                    refine fr_iload_n (i := 1) (q := 0) rfl dX12_nextToken_279 rfl ?_
                    refine fr_bipush (v := 43) (by decide) dX12_nextToken_280 rfl ?_
                    refine fr_icmp_eq (tgt := 339) dX12_nextToken_282 (by decide) rfl (fun hc => ?_) (fun hc => ?_)
                    · have h := h.1 hc
                      refine fr_iconst (v := 1) (by decide) dX12_nextToken_339 rfl ?_
                      refine fr_goto (n := 344) dX12_nextToken_340 (by decide) ?_
                      exact fr_sub [1, 0] rfl h
                    · have h := h.2 hc
                      refine fr_iload_n (i := 1) (q := 0) rfl dX12_nextToken_285 rfl ?_
                      refine fr_bipush (v := 45) (by decide) dX12_nextToken_286 rfl ?_
                      refine fr_icmp_eq (tgt := 339) dX12_nextToken_288 (by decide) rfl (fun hc => ?_) (fun hc => ?_)
                      · have h := h.1 hc
                        refine fr_iconst (v := 1) (by decide) dX12_nextToken_339 rfl ?_
                        refine fr_goto (n := 344) dX12_nextToken_340 (by decide) ?_
                        exact fr_sub [1, 0] rfl h
                      · have h := h.2 hc
                        refine fr_iload_n (i := 1) (q := 0) rfl dX12_nextToken_291 rfl ?_
                        refine fr_bipush (v := 42) (by decide) dX12_nextToken_292 rfl ?_
                        refine fr_icmp_eq (tgt := 339) dX12_nextToken_294 (by decide) rfl (fun hc => ?_) (fun hc => ?_)
                        · have h := h.1 hc
                          refine fr_iconst (v := 1) (by decide) dX12_nextToken_339 rfl ?_
                          refine fr_goto (n := 344) dX12_nextToken_340 (by decide) ?_
                          exact fr_sub [1, 0] rfl h
                        · have h := h.2 hc
                          refine fr_iload_n (i := 1) (q := 0) rfl dX12_nextToken_297 rfl ?_
                          refine fr_bipush (v := 47) (by decide) dX12_nextToken_298 rfl ?_
                          refine fr_icmp_eq (tgt := 339) dX12_nextToken_300 (by decide) rfl (fun hc => ?_) (fun hc => ?_)
                          · have h := h.1 hc
                            refine fr_iconst (v := 1) (by decide) dX12_nextToken_339 rfl ?_
                            refine fr_goto (n := 344) dX12_nextToken_340 (by decide) ?_
                            exact fr_sub [1, 0] rfl h
                          · have h := h.2 hc
                            refine fr_iload_n (i := 1) (q := 0) rfl dX12_nextToken_303 rfl ?_
                            refine fr_bipush (v := 40) (by decide) dX12_nextToken_304 rfl ?_
                            refine fr_icmp_eq (tgt := 339) dX12_nextToken_306 (by decide) rfl (fun hc => ?_) (fun hc => ?_)
                            · have h := h.1 hc
                              refine fr_iconst (v := 1) (by decide) dX12_nextToken_339 rfl ?_
                              refine fr_goto (n := 344) dX12_nextToken_340 (by decide) ?_
                              exact fr_sub [1, 0] rfl h
                            · have h := h.2 hc
                              refine fr_iload_n (i := 1) (q := 0) rfl dX12_nextToken_309 rfl ?_
                              refine fr_bipush (v := 41) (by decide) dX12_nextToken_310 rfl ?_
                              refine fr_icmp_eq (tgt := 339) dX12_nextToken_312 (by decide) rfl (fun hc => ?_) (fun hc => ?_)
                              · have h := h.1 hc
                                refine fr_iconst (v := 1) (by decide) dX12_nextToken_339 rfl ?_
                                refine fr_goto (n := 344) dX12_nextToken_340 (by decide) ?_
                                exact fr_sub [1, 0] rfl h
                              · have h := h.2 hc
                                refine fr_iload_n (i := 1) (q := 0) rfl dX12_nextToken_315 rfl ?_
                                refine fr_bipush (v := 59) (by decide) dX12_nextToken_316 rfl ?_
                                refine fr_icmp_eq (tgt := 339) dX12_nextToken_318 (by decide) rfl (fun hc => ?_) (fun hc => ?_)
                                · have h := h.1 hc
                                  refine fr_iconst (v := 1) (by decide) dX12_nextToken_339 rfl ?_
                                  refine fr_goto (n := 344) dX12_nextToken_340 (by decide) ?_
                                  exact fr_sub [1, 0] rfl h
                                · have h := h.2 hc
                                  refine fr_iload_n (i := 1) (q := 0) rfl dX12_nextToken_321 rfl ?_
                                  refine fr_bipush (v := 44) (by decide) dX12_nextToken_322 rfl ?_
                                  refine fr_icmp_eq (tgt := 339) dX12_nextToken_324 (by decide) rfl (fun hc => ?_) (fun hc => ?_)
                                  · have h := h.1 hc
                                    refine fr_iconst (v := 1) (by decide) dX12_nextToken_339 rfl ?_
                                    refine fr_goto (n := 344) dX12_nextToken_340 (by decide) ?_
                                    exact fr_sub [1, 0] rfl h
                                  · have h := h.2 hc
                                    refine fr_iload_n (i := 1) (q := 0) rfl dX12_nextToken_327 rfl ?_
                                    refine fr_bipush (v := 63) (by decide) dX12_nextToken_328 rfl ?_
                                    refine fr_icmp_eq (tgt := 339) dX12_nextToken_330 (by decide) rfl (fun hc => ?_) (fun hc => ?_)
                                    · have h := h.1 hc
                                      refine fr_iconst (v := 1) (by decide) dX12_nextToken_339 rfl ?_
                                      refine fr_goto (n := 344) dX12_nextToken_340 (by decide) ?_
                                      exact fr_sub [1, 0] rfl h
                                    · have h := h.2 hc
                                      refine fr_iload_n (i := 1) (q := 0) rfl dX12_nextToken_333 rfl ?_
                                      refine fr_bipush (v := 58) (by decide) dX12_nextToken_334 rfl ?_
                                      refine fr_icmp_ne (tgt := 343) dX12_nextToken_336 (by decide) rfl (fun hc => ?_) (fun hc => ?_)
                                      · have h := h.1 hc
                                        refine fr_iconst (v := 0) (by decide) dX12_nextToken_343 rfl ?_
                                        exact fr_sub [1, 0] rfl h
                                      · have h := h.2 hc
                                        refine fr_iconst (v := 1) (by decide) dX12_nextToken_339 rfl ?_
                                        refine fr_goto (n := 344) dX12_nextToken_340 (by decide) ?_
                                        exact fr_sub [1, 0] rfl h
          · have h := h.2 hc
            refine fr_aload_n (i := 0) (q := 1) rfl dX12_nextToken_151 rfl ?_
            refine fr_iconst (v := 2) (by decide) dX12_nextToken_152 rfl ?_
            refine fr_putI dX12_nextToken_153 rfl fp_X12_132 k_o ?_
            refine fr_memI (fun I14 hI14 => ?_)
            have h := h I14 hI14
            refine fr_aload_n (i := 0) (q := 1) rfl dX12_nextToken_156 rfl ?_
            refine fr_lconst (v := 0) (by decide) dX12_nextToken_157 rfl ?_
            refine fr_putL dX12_nextToken_158 rfl fp_X12_145 k_o ?_
            refine fr_memL (fun L15 hL15 => ?_)
            have h := h L15 hL15
            exact fr_sub [1] rfl h
        · have h := h.2 hc
          refine fr_aload_n (i := 0) (q := 1) rfl dX12_nextToken_75 rfl ?_
          refine fr_iconst (v := 1) (by decide) dX12_nextToken_76 rfl ?_
          refine fr_putI dX12_nextToken_77 rfl fp_X12_132 k_o ?_
          refine fr_memI (fun I16 hI16 => ?_)
          have h := h I16 hI16
          refine fr_aload_n (i := 0) (q := 1) rfl dX12_nextToken_80 rfl ?_
          refine fr_iconst (v := 0) (by decide) dX12_nextToken_81 rfl ?_
          refine fr_putI dX12_nextToken_82 rfl fp_X12_138 k_o ?_
          refine fr_memI (fun I17 hI17 => ?_)
          have h := h I17 hI17
          exact fr_sub [1] rfl h
      · have h := h.2 hc
        refine fr_aload_n (i := 0) (q := 1) rfl dX12_nextToken_60 rfl ?_
        refine fr_iconst (v := 0) (by decide) dX12_nextToken_61 rfl ?_
        refine fr_putI dX12_nextToken_62 rfl fp_X12_132 k_o ?_
        refine fr_memI (fun I18 hI18 => ?_)
        have h := h I18 hI18
        refine fr_goto (n := 408) dX12_nextToken_65 (by decide) ?_
        exact fr_vret rfl dX12_nextToken_408 h.1 h.2
    · have h := h.2 hc
      refine fr_aload_n (i := 0) (q := 0) rfl dX12_nextToken_26 rfl ?_
      refine fr_dup rfl dX12_nextToken_27 rfl ?_
      refine fr_getI dX12_nextToken_28 rfl fl_X12_123 k_o ?_
      refine fr_iconst (v := 1) (by decide) dX12_nextToken_31 rfl ?_
      refine fr_iadd dX12_nextToken_32 rfl ?_
      refine fr_putI dX12_nextToken_33 rfl fp_X12_123 k_o ?_
      refine fr_memI (fun I19 hI19 => ?_)
      have h := h I19 hI19
      refine fr_goto (n := 0) dX12_nextToken_36 (by decide) ?_
      exact fr_sub [0] rfl h
abbrev Lp_X12_nextToken_370 (g : GE) (d : Nat) (o : Nat) (u1 : Int32) (M : Mem) (r : Option Value) (M' : Mem) : Prop := Fr g d mu_X12_nextToken 370 [(0, rf g o), (1, .int u1)] [] M r M'
theorem wp_X12_nextToken_344 {g : GE} {Z : Zs} {I : Nat → Nat → Int32} {L : Nat → Nat → Int64} {r : Option Value} {M' : Mem} {o : Nat} {u1 : Int32} {s0 : Int32} (k_o : KM Z o 12) (h : ((s0 = 0 → (∀ I1 : Nat → Nat → Int32, I1 = rw1 I o (upd (I o) 11 3) → ((u1 = 60 → Lp_X12_nextToken_370 g 3 o u1 (Z, I1, L) r M') ∧ (¬ u1 = 60 → ((¬ u1 = 62 → (r = none ∧ M' = (Z, I1, L))) ∧ (u1 = 62 → Lp_X12_nextToken_370 g 3 o u1 (Z, I1, L) r M')))))) ∧ (¬ s0 = 0 → (∀ I2 : Nat → Nat → Int32, I2 = rw1 I o (upd (I o) 11 u1) → ((u1 = 60 → Lp_X12_nextToken_370 g 3 o u1 (Z, I2, L) r M') ∧ (¬ u1 = 60 → ((¬ u1 = 62 → (r = none ∧ M' = (Z, I2, L))) ∧ (u1 = 62 → Lp_X12_nextToken_370 g 3 o u1 (Z, I2, L) r M')))))))) : Lp_X12_nextToken_344 g 3 o u1 s0 (Z, I, L) r M' := by
  refine fr_istore_n (i := 2) (lv' := [(2, .int s0), (0, rf g o), (1, .int u1)]) dX12_nextToken_344 rfl (by decide) rfl ?_
  refine fr_aload_n (i := 0) (q := 1) rfl dX12_nextToken_345 rfl ?_
  refine fr_iload_n (i := 2) (q := 0) rfl dX12_nextToken_346 rfl ?_
  refine fr_if_eq (tgt := 354) dX12_nextToken_347 (by decide) rfl (fun hc => ?_) (fun hc => ?_)
  · have h := h.1 hc
    refine fr_iconst (v := 3) (by decide) dX12_nextToken_354 rfl ?_
    refine fr_putI dX12_nextToken_355 rfl fp_X12_132 k_o ?_
    refine fr_memI (fun I1 hI1 => ?_)
    have h := h I1 hI1
    refine fr_iload_n (i := 1) (q := 2) rfl dX12_nextToken_358 rfl ?_
    refine fr_bipush (v := 60) (by decide) dX12_nextToken_359 rfl ?_
    refine fr_icmp_eq (tgt := 370) dX12_nextToken_361 (by decide) rfl (fun hc => ?_) (fun hc => ?_)
    · have h := h.1 hc
      exact fr_sub [1, 2] rfl h
    · have h := h.2 hc
      refine fr_iload_n (i := 1) (q := 2) rfl dX12_nextToken_364 rfl ?_
      refine fr_bipush (v := 62) (by decide) dX12_nextToken_365 rfl ?_
      refine fr_icmp_ne (tgt := 408) dX12_nextToken_367 (by decide) rfl (fun hc => ?_) (fun hc => ?_)
      · have h := h.1 hc
        exact fr_vret rfl dX12_nextToken_408 h.1 h.2
      · have h := h.2 hc
        exact fr_sub [1, 2] rfl h
  · have h := h.2 hc
    refine fr_iload_n (i := 1) (q := 2) rfl dX12_nextToken_350 rfl ?_
    refine fr_goto (n := 355) dX12_nextToken_351 (by decide) ?_
    refine fr_putI dX12_nextToken_355 rfl fp_X12_132 k_o ?_
    refine fr_memI (fun I2 hI2 => ?_)
    have h := h I2 hI2
    refine fr_iload_n (i := 1) (q := 2) rfl dX12_nextToken_358 rfl ?_
    refine fr_bipush (v := 60) (by decide) dX12_nextToken_359 rfl ?_
    refine fr_icmp_eq (tgt := 370) dX12_nextToken_361 (by decide) rfl (fun hc => ?_) (fun hc => ?_)
    · have h := h.1 hc
      exact fr_sub [1, 2] rfl h
    · have h := h.2 hc
      refine fr_iload_n (i := 1) (q := 2) rfl dX12_nextToken_364 rfl ?_
      refine fr_bipush (v := 62) (by decide) dX12_nextToken_365 rfl ?_
      refine fr_icmp_ne (tgt := 408) dX12_nextToken_367 (by decide) rfl (fun hc => ?_) (fun hc => ?_)
      · have h := h.1 hc
        exact fr_vret rfl dX12_nextToken_408 h.1 h.2
      · have h := h.2 hc
        exact fr_sub [1, 2] rfl h
theorem wp_X12_nextToken_161 {g : GE} {Z : Zs} {I : Nat → Nat → Int32} {L : Nat → Nat → Int64} {r : Option Value} {M' : Mem} {o : Nat} (k_o : KM Z o 12) (h : (∃ (v1 : Int32), Cl g 1 mu_X12_byteAt [rf g o, .int (I o 9)] (Z, I, L) (some (.int v1)) (Z, I, L) ∧ (∃ (v3 : Int32), Cl g 2 mu_X12_isLetter [.int v1] (Z, I, L) (some (.int v3)) (Z, I, L) ∧ ((v3 = 0 → ((((I o 9) - (I o 10)) ≤ 7 → (r = none ∧ M' = (Z, I, L))) ∧ (¬ ((I o 9) - (I o 10)) ≤ 7 → (∀ L5 : Nat → Nat → Int64, L5 = rw1 L o (vp_updL (L o) 13 0) → (r = none ∧ M' = (Z, I, L5)))))) ∧ (¬ v3 = 0 → ((7 ≤ ((I o 9) - (I o 10)) → (∀ I6 : Nat → Nat → Int32, I6 = rw1 I o (upd (I o) 9 ((I o 9) + 1)) → Lp_X12_nextToken_161 g 3 o (Z, I6, L) r M')) ∧ (¬ 7 ≤ ((I o 9) - (I o 10)) → (∃ (v7 : Int32), Cl g 1 mu_X12_byteAt [rf g o, .int (I o 9)] (Z, I, L) (some (.int v7)) (Z, I, L) ∧ (∀ L9 : Nat → Nat → Int64, L9 = rw1 L o (vp_updL (L o) 13 (((L o 13) <<< ((8 : Int32).toInt64 &&& 63)) ||| v7.toInt64)) → (∀ I10 : Nat → Nat → Int32, I10 = rw1 I o (upd (I o) 9 ((I o 9) + 1)) → Lp_X12_nextToken_161 g 3 o (Z, I10, L9) r M')))))))))) : Lp_X12_nextToken_161 g 3 o (Z, I, L) r M' := by
  refine fr_aload_n (i := 0) (q := 0) rfl dX12_nextToken_161 rfl ?_
  refine fr_aload_n (i := 0) (q := 0) rfl dX12_nextToken_162 rfl ?_
  refine fr_getI dX12_nextToken_163 rfl fl_X12_123 k_o ?_
  obtain ⟨v1, hc2, h⟩ := h
  refine fr_callV2 (ν := mu_X12_byteAt) (st2 := [.int v1]) (As := [.int (I o 9)]) (st := []) (v := (some (.int v1))) (M1 := (Z, I, L)) dX12_nextToken_166 rfl ml_X12_126 mo_X12_byteAt mi_X12_byteAt (ci := 12) rfl rfl k_o (Nat.le_of_ble_eq_true rfl) rfl rfl (Nat.le_of_ble_eq_true rfl) hc2 rfl ?_
  obtain ⟨v3, hc4, h⟩ := h
  refine fr_callS2 (ν := mu_X12_isLetter) (st2 := [.int v3]) (As := [.int v1]) (st := []) (v := (some (.int v3))) (M1 := (Z, I, L)) dX12_nextToken_169 rfl ml_X12_142 mo_X12_isLetter ms_X12_isLetter (Nat.le_of_ble_eq_true rfl) rfl rfl (Nat.le_of_ble_eq_true rfl) hc4 rfl ?_
  refine fr_if_eq (tgt := 223) dX12_nextToken_172 (by decide) rfl (fun hc => ?_) (fun hc => ?_)
  · have h := h.1 hc
    refine fr_aload_n (i := 0) (q := 0) rfl dX12_nextToken_223 rfl ?_
    refine fr_getI dX12_nextToken_224 rfl fl_X12_123 k_o ?_
    refine fr_aload_n (i := 0) (q := 0) rfl dX12_nextToken_227 rfl ?_
    refine fr_getI dX12_nextToken_228 rfl fl_X12_129 k_o ?_
    refine fr_isub dX12_nextToken_231 rfl ?_
    refine fr_bipush (v := 7) (by decide) dX12_nextToken_232 rfl ?_
    refine fr_icmp_le (tgt := 408) dX12_nextToken_234 (by decide) rfl (fun hc => ?_) (fun hc => ?_)
    · have h := h.1 hc
      exact fr_vret rfl dX12_nextToken_408 h.1 h.2
    · have h := h.2 hc
      refine fr_aload_n (i := 0) (q := 0) rfl dX12_nextToken_237 rfl ?_
      refine fr_lconst (v := 0) (by decide) dX12_nextToken_238 rfl ?_
      refine fr_putL dX12_nextToken_239 rfl fp_X12_145 k_o ?_
      refine fr_memL (fun L5 hL5 => ?_)
      have h := h L5 hL5
      refine fr_goto (n := 408) dX12_nextToken_242 (by decide) ?_
      exact fr_vret rfl dX12_nextToken_408 h.1 h.2
  · have h := h.2 hc
    refine fr_aload_n (i := 0) (q := 0) rfl dX12_nextToken_175 rfl ?_
    refine fr_getI dX12_nextToken_176 rfl fl_X12_123 k_o ?_
    refine fr_aload_n (i := 0) (q := 0) rfl dX12_nextToken_179 rfl ?_
    refine fr_getI dX12_nextToken_180 rfl fl_X12_129 k_o ?_
    refine fr_isub dX12_nextToken_183 rfl ?_
    refine fr_bipush (v := 7) (by decide) dX12_nextToken_184 rfl ?_
    refine fr_icmp_ge (tgt := 210) dX12_nextToken_186 (by decide) rfl (fun hc => ?_) (fun hc => ?_)
    · have h := h.1 hc
      refine fr_aload_n (i := 0) (q := 0) rfl dX12_nextToken_210 rfl ?_
      refine fr_dup rfl dX12_nextToken_211 rfl ?_
      refine fr_getI dX12_nextToken_212 rfl fl_X12_123 k_o ?_
      refine fr_iconst (v := 1) (by decide) dX12_nextToken_215 rfl ?_
      refine fr_iadd dX12_nextToken_216 rfl ?_
      refine fr_putI dX12_nextToken_217 rfl fp_X12_123 k_o ?_
      refine fr_memI (fun I6 hI6 => ?_)
      have h := h I6 hI6
      refine fr_goto (n := 161) dX12_nextToken_220 (by decide) ?_
      exact fr_sub [0] rfl h
    · have h := h.2 hc
      refine fr_aload_n (i := 0) (q := 0) rfl dX12_nextToken_189 rfl ?_
      refine fr_aload_n (i := 0) (q := 0) rfl dX12_nextToken_190 rfl ?_
      refine fr_getL dX12_nextToken_191 rfl fl_X12_145 k_o ?_
      refine fr_bipush (v := 8) (by decide) dX12_nextToken_194 rfl ?_
      refine fr_lshl dX12_nextToken_196 rfl ?_
      refine fr_aload_n (i := 0) (q := 0) rfl dX12_nextToken_197 rfl ?_
      refine fr_aload_n (i := 0) (q := 0) rfl dX12_nextToken_198 rfl ?_
      refine fr_getI dX12_nextToken_199 rfl fl_X12_123 k_o ?_
      obtain ⟨v7, hc8, h⟩ := h
      refine fr_callV2 (ν := mu_X12_byteAt) (st2 := [.int v7, .long ((L o 13) <<< ((8 : Int32).toInt64 &&& 63)), rf g o]) (As := [.int (I o 9)]) (st := [.long ((L o 13) <<< ((8 : Int32).toInt64 &&& 63)), rf g o]) (v := (some (.int v7))) (M1 := (Z, I, L)) dX12_nextToken_202 rfl ml_X12_126 mo_X12_byteAt mi_X12_byteAt (ci := 12) rfl rfl k_o (Nat.le_of_ble_eq_true rfl) rfl rfl (Nat.le_of_ble_eq_true rfl) hc8 rfl ?_
      refine fr_i2l dX12_nextToken_205 rfl ?_
      refine fr_lor dX12_nextToken_206 rfl ?_
      refine fr_putL dX12_nextToken_207 rfl fp_X12_145 k_o ?_
      refine fr_memL (fun L9 hL9 => ?_)
      have h := h L9 hL9
      refine fr_aload_n (i := 0) (q := 0) rfl dX12_nextToken_210 rfl ?_
      refine fr_dup rfl dX12_nextToken_211 rfl ?_
      refine fr_getI dX12_nextToken_212 rfl fl_X12_123 k_o ?_
      refine fr_iconst (v := 1) (by decide) dX12_nextToken_215 rfl ?_
      refine fr_iadd dX12_nextToken_216 rfl ?_
      refine fr_putI dX12_nextToken_217 rfl fp_X12_123 k_o ?_
      refine fr_memI (fun I10 hI10 => ?_)
      have h := h I10 hI10
      refine fr_goto (n := 161) dX12_nextToken_220 (by decide) ?_
      exact fr_sub [0] rfl h
theorem wp_X12_nextToken_85 {g : GE} {Z : Zs} {I : Nat → Nat → Int32} {L : Nat → Nat → Int64} {r : Option Value} {M' : Mem} {o : Nat} (k_o : KM Z o 12) (h : (∃ (v1 : Int32), Cl g 1 mu_X12_byteAt [rf g o, .int (I o 9)] (Z, I, L) (some (.int v1)) (Z, I, L) ∧ (∃ (v3 : Int32), Cl g 2 mu_X12_isDigit [.int v1] (Z, I, L) (some (.int v3)) (Z, I, L) ∧ ((v3 = 0 → (r = none ∧ M' = (Z, I, L))) ∧ (¬ v3 = 0 → ((100000 ≤ (I o 12) → (∀ I5 : Nat → Nat → Int32, I5 = rw1 I o (upd (I o) 9 ((I o 9) + 1)) → Lp_X12_nextToken_85 g 3 o (Z, I5, L) r M')) ∧ (¬ 100000 ≤ (I o 12) → (∃ (v6 : Int32), Cl g 1 mu_X12_byteAt [rf g o, .int (I o 9)] (Z, I, L) (some (.int v6)) (Z, I, L) ∧ (∀ I8 : Nat → Nat → Int32, I8 = rw1 I o (upd (I o) 12 (((10 * (I o 12)) + v6) - 48)) → (∀ I9 : Nat → Nat → Int32, I9 = rw1 I8 o (upd (I8 o) 9 ((I8 o 9) + 1)) → Lp_X12_nextToken_85 g 3 o (Z, I9, L) r M')))))))))) : Lp_X12_nextToken_85 g 3 o (Z, I, L) r M' := by
  refine fr_aload_n (i := 0) (q := 0) rfl dX12_nextToken_85 rfl ?_
  refine fr_aload_n (i := 0) (q := 0) rfl dX12_nextToken_86 rfl ?_
  refine fr_getI dX12_nextToken_87 rfl fl_X12_123 k_o ?_
  obtain ⟨v1, hc2, h⟩ := h
  refine fr_callV2 (ν := mu_X12_byteAt) (st2 := [.int v1]) (As := [.int (I o 9)]) (st := []) (v := (some (.int v1))) (M1 := (Z, I, L)) dX12_nextToken_90 rfl ml_X12_126 mo_X12_byteAt mi_X12_byteAt (ci := 12) rfl rfl k_o (Nat.le_of_ble_eq_true rfl) rfl rfl (Nat.le_of_ble_eq_true rfl) hc2 rfl ?_
  obtain ⟨v3, hc4, h⟩ := h
  refine fr_callS2 (ν := mu_X12_isDigit) (st2 := [.int v3]) (As := [.int v1]) (st := []) (v := (some (.int v3))) (M1 := (Z, I, L)) dX12_nextToken_93 rfl ml_X12_135 mo_X12_isDigit ms_X12_isDigit (Nat.le_of_ble_eq_true rfl) rfl rfl (Nat.le_of_ble_eq_true rfl) hc4 rfl ?_
  refine fr_if_eq (tgt := 408) dX12_nextToken_96 (by decide) rfl (fun hc => ?_) (fun hc => ?_)
  · have h := h.1 hc
    exact fr_vret rfl dX12_nextToken_408 h.1 h.2
  · have h := h.2 hc
    refine fr_aload_n (i := 0) (q := 0) rfl dX12_nextToken_99 rfl ?_
    refine fr_getI dX12_nextToken_100 rfl fl_X12_138 k_o ?_
    refine fr_ldc (v := 100000) kc_X12_141 dX12_nextToken_103 rfl ?_
    refine fr_icmp_ge (tgt := 131) dX12_nextToken_105 (by decide) rfl (fun hc => ?_) (fun hc => ?_)
    · have h := h.1 hc
      refine fr_aload_n (i := 0) (q := 0) rfl dX12_nextToken_131 rfl ?_
      refine fr_dup rfl dX12_nextToken_132 rfl ?_
      refine fr_getI dX12_nextToken_133 rfl fl_X12_123 k_o ?_
      refine fr_iconst (v := 1) (by decide) dX12_nextToken_136 rfl ?_
      refine fr_iadd dX12_nextToken_137 rfl ?_
      refine fr_putI dX12_nextToken_138 rfl fp_X12_123 k_o ?_
      refine fr_memI (fun I5 hI5 => ?_)
      have h := h I5 hI5
      refine fr_goto (n := 85) dX12_nextToken_141 (by decide) ?_
      exact fr_sub [0] rfl h
    · have h := h.2 hc
      refine fr_aload_n (i := 0) (q := 0) rfl dX12_nextToken_108 rfl ?_
      refine fr_bipush (v := 10) (by decide) dX12_nextToken_109 rfl ?_
      refine fr_aload_n (i := 0) (q := 0) rfl dX12_nextToken_111 rfl ?_
      refine fr_getI dX12_nextToken_112 rfl fl_X12_138 k_o ?_
      refine fr_imul dX12_nextToken_115 rfl ?_
      refine fr_aload_n (i := 0) (q := 0) rfl dX12_nextToken_116 rfl ?_
      refine fr_aload_n (i := 0) (q := 0) rfl dX12_nextToken_117 rfl ?_
      refine fr_getI dX12_nextToken_118 rfl fl_X12_123 k_o ?_
      obtain ⟨v6, hc7, h⟩ := h
      refine fr_callV2 (ν := mu_X12_byteAt) (st2 := [.int v6, .int (10 * (I o 12)), rf g o]) (As := [.int (I o 9)]) (st := [.int (10 * (I o 12)), rf g o]) (v := (some (.int v6))) (M1 := (Z, I, L)) dX12_nextToken_121 rfl ml_X12_126 mo_X12_byteAt mi_X12_byteAt (ci := 12) rfl rfl k_o (Nat.le_of_ble_eq_true rfl) rfl rfl (Nat.le_of_ble_eq_true rfl) hc7 rfl ?_
      refine fr_iadd dX12_nextToken_124 rfl ?_
      refine fr_bipush (v := 48) (by decide) dX12_nextToken_125 rfl ?_
      refine fr_isub dX12_nextToken_127 rfl ?_
      refine fr_putI dX12_nextToken_128 rfl fp_X12_138 k_o ?_
      refine fr_memI (fun I8 hI8 => ?_)
      have h := h I8 hI8
      refine fr_aload_n (i := 0) (q := 0) rfl dX12_nextToken_131 rfl ?_
      refine fr_dup rfl dX12_nextToken_132 rfl ?_
      refine fr_getI dX12_nextToken_133 rfl fl_X12_123 k_o ?_
      refine fr_iconst (v := 1) (by decide) dX12_nextToken_136 rfl ?_
      refine fr_iadd dX12_nextToken_137 rfl ?_
      refine fr_putI dX12_nextToken_138 rfl fp_X12_123 k_o ?_
      refine fr_memI (fun I9 hI9 => ?_)
      have h := h I9 hI9
      refine fr_goto (n := 85) dX12_nextToken_141 (by decide) ?_
      exact fr_sub [0] rfl h
theorem wp_X12_nextToken_370 {g : GE} {Z : Zs} {I : Nat → Nat → Int32} {L : Nat → Nat → Int64} {r : Option Value} {M' : Mem} {o : Nat} {u1 : Int32} (k_o : KM Z o 12) (h : (∃ (v1 : Int32), Cl g 1 mu_X12_byteAt [rf g o, .int (I o 9)] (Z, I, L) (some (.int v1)) (Z, I, L) ∧ ((¬ v1 = 61 → (r = none ∧ M' = (Z, I, L))) ∧ (v1 = 61 → (∀ I3 : Nat → Nat → Int32, I3 = rw1 I o (upd (I o) 9 ((I o 9) + 1)) → ((¬ u1 = 60 → (∀ I4 : Nat → Nat → Int32, I4 = rw1 I3 o (upd (I3 o) 11 5) → (r = none ∧ M' = (Z, I4, L)))) ∧ (u1 = 60 → (∀ I5 : Nat → Nat → Int32, I5 = rw1 I3 o (upd (I3 o) 11 4) → (r = none ∧ M' = (Z, I5, L)))))))))) : Lp_X12_nextToken_370 g 3 o u1 (Z, I, L) r M' := by
  refine fr_aload_n (i := 0) (q := 0) rfl dX12_nextToken_370 rfl ?_
  refine fr_aload_n (i := 0) (q := 0) rfl dX12_nextToken_371 rfl ?_
  refine fr_getI dX12_nextToken_372 rfl fl_X12_123 k_o ?_
  obtain ⟨v1, hc2, h⟩ := h
  refine fr_callV2 (ν := mu_X12_byteAt) (st2 := [.int v1]) (As := [.int (I o 9)]) (st := []) (v := (some (.int v1))) (M1 := (Z, I, L)) dX12_nextToken_375 rfl ml_X12_126 mo_X12_byteAt mi_X12_byteAt (ci := 12) rfl rfl k_o (Nat.le_of_ble_eq_true rfl) rfl rfl (Nat.le_of_ble_eq_true rfl) hc2 rfl ?_
  refine fr_bipush (v := 61) (by decide) dX12_nextToken_378 rfl ?_
  refine fr_icmp_ne (tgt := 408) dX12_nextToken_380 (by decide) rfl (fun hc => ?_) (fun hc => ?_)
  · have h := h.1 hc
    exact fr_vret rfl dX12_nextToken_408 h.1 h.2
  · have h := h.2 hc
    refine fr_aload_n (i := 0) (q := 0) rfl dX12_nextToken_383 rfl ?_
    refine fr_dup rfl dX12_nextToken_384 rfl ?_
    refine fr_getI dX12_nextToken_385 rfl fl_X12_123 k_o ?_
    refine fr_iconst (v := 1) (by decide) dX12_nextToken_388 rfl ?_
    refine fr_iadd dX12_nextToken_389 rfl ?_
    refine fr_putI dX12_nextToken_390 rfl fp_X12_123 k_o ?_
    refine fr_memI (fun I3 hI3 => ?_)
    have h := h I3 hI3
    refine fr_aload_n (i := 0) (q := 0) rfl dX12_nextToken_393 rfl ?_
    refine fr_iload_n (i := 1) (q := 1) rfl dX12_nextToken_394 rfl ?_
    refine fr_bipush (v := 60) (by decide) dX12_nextToken_395 rfl ?_
    refine fr_icmp_ne (tgt := 404) dX12_nextToken_397 (by decide) rfl (fun hc => ?_) (fun hc => ?_)
    · have h := h.1 hc
      refine fr_iconst (v := 5) (by decide) dX12_nextToken_404 rfl ?_
      refine fr_putI dX12_nextToken_405 rfl fp_X12_132 k_o ?_
      refine fr_memI (fun I4 hI4 => ?_)
      have h := h I4 hI4
      exact fr_vret rfl dX12_nextToken_408 h.1 h.2
    · have h := h.2 hc
      refine fr_iconst (v := 4) (by decide) dX12_nextToken_400 rfl ?_
      refine fr_goto (n := 405) dX12_nextToken_401 (by decide) ?_
      refine fr_putI dX12_nextToken_405 rfl fp_X12_132 k_o ?_
      refine fr_memI (fun I5 hI5 => ?_)
      have h := h I5 hI5
      exact fr_vret rfl dX12_nextToken_408 h.1 h.2
theorem cp_X12_w3 {g : GE} {Z : Zs} {I : Nat → Nat → Int32} {L : Nat → Nat → Int64} {r : Option Value} {M' : Mem} {x0 : Int32} {x1 : Int32} {x2 : Int32}  (h : (r = some (.long ((((x0.toInt64 <<< ((8 : Int32).toInt64 &&& 63)) ||| x1.toInt64) <<< ((8 : Int32).toInt64 &&& 63)) ||| x2.toInt64)) ∧ M' = (Z, I, L))) : Cl g 1 mu_X12_w3 [.int x0, .int x1, .int x2] (Z, I, L) r M' := by
  refine cl_of (lv := [(0, .int x0), (1, .int x1), (2, .int x2)]) (by decide) (Nat.le_of_ble_eq_true rfl) rfl ?_
  refine fr_iload_n (i := 0) (q := 0) rfl dX12_w3_0 rfl ?_
  refine fr_i2l dX12_w3_1 rfl ?_
  refine fr_bipush (v := 8) (by decide) dX12_w3_2 rfl ?_
  refine fr_lshl dX12_w3_4 rfl ?_
  refine fr_iload_n (i := 1) (q := 1) rfl dX12_w3_5 rfl ?_
  refine fr_i2l dX12_w3_6 rfl ?_
  refine fr_lor dX12_w3_7 rfl ?_
  refine fr_bipush (v := 8) (by decide) dX12_w3_8 rfl ?_
  refine fr_lshl dX12_w3_10 rfl ?_
  refine fr_iload_n (i := 2) (q := 2) rfl dX12_w3_11 rfl ?_
  refine fr_i2l dX12_w3_12 rfl ?_
  refine fr_lor dX12_w3_13 rfl ?_
  exact fr_lret rfl dX12_w3_14 h.1 h.2
theorem cp_X12_w5 {g : GE} {Z : Zs} {I : Nat → Nat → Int32} {L : Nat → Nat → Int64} {r : Option Value} {M' : Mem} {x0 : Int32} {x1 : Int32} {x2 : Int32} {x3 : Int32} {x4 : Int32}  (h : (∃ (v1 : Int64), Cl g 1 mu_X12_w3 [.int x0, .int x1, .int x2] (Z, I, L) (some (.long v1)) (Z, I, L) ∧ (r = some (.long ((((v1 <<< ((8 : Int32).toInt64 &&& 63)) ||| x3.toInt64) <<< ((8 : Int32).toInt64 &&& 63)) ||| x4.toInt64)) ∧ M' = (Z, I, L)))) : Cl g 2 mu_X12_w5 [.int x0, .int x1, .int x2, .int x3, .int x4] (Z, I, L) r M' := by
  refine cl_of (lv := [(0, .int x0), (1, .int x1), (2, .int x2), (3, .int x3), (4, .int x4)]) (by decide) (Nat.le_of_ble_eq_true rfl) rfl ?_
  refine fr_iload_n (i := 0) (q := 0) rfl dX12_w5_0 rfl ?_
  refine fr_iload_n (i := 1) (q := 1) rfl dX12_w5_1 rfl ?_
  refine fr_iload_n (i := 2) (q := 2) rfl dX12_w5_2 rfl ?_
  obtain ⟨v1, hc2, h⟩ := h
  refine fr_callS2 (ν := mu_X12_w3) (st2 := [.long v1]) (As := [.int x0, .int x1, .int x2]) (st := []) (v := (some (.long v1))) (M1 := (Z, I, L)) dX12_w5_3 rfl ml_X12_149 mo_X12_w3 ms_X12_w3 (Nat.le_of_ble_eq_true rfl) rfl rfl (Nat.le_of_ble_eq_true rfl) hc2 rfl ?_
  refine fr_bipush (v := 8) (by decide) dX12_w5_6 rfl ?_
  refine fr_lshl dX12_w5_8 rfl ?_
  refine fr_iload_n (i := 3) (q := 3) rfl dX12_w5_9 rfl ?_
  refine fr_i2l dX12_w5_10 rfl ?_
  refine fr_lor dX12_w5_11 rfl ?_
  refine fr_bipush (v := 8) (by decide) dX12_w5_12 rfl ?_
  refine fr_lshl dX12_w5_14 rfl ?_
  refine fr_iload (q := 4) rfl dX12_w5_15 rfl ?_
  refine fr_i2l dX12_w5_17 rfl ?_
  refine fr_lor dX12_w5_18 rfl ?_
  exact fr_lret rfl dX12_w5_19 h.1 h.2
theorem cp_X12_w4 {g : GE} {Z : Zs} {I : Nat → Nat → Int32} {L : Nat → Nat → Int64} {r : Option Value} {M' : Mem} {x0 : Int32} {x1 : Int32} {x2 : Int32} {x3 : Int32}  (h : (∃ (v1 : Int64), Cl g 1 mu_X12_w3 [.int x0, .int x1, .int x2] (Z, I, L) (some (.long v1)) (Z, I, L) ∧ (r = some (.long ((v1 <<< ((8 : Int32).toInt64 &&& 63)) ||| x3.toInt64)) ∧ M' = (Z, I, L)))) : Cl g 2 mu_X12_w4 [.int x0, .int x1, .int x2, .int x3] (Z, I, L) r M' := by
  refine cl_of (lv := [(0, .int x0), (1, .int x1), (2, .int x2), (3, .int x3)]) (by decide) (Nat.le_of_ble_eq_true rfl) rfl ?_
  refine fr_iload_n (i := 0) (q := 0) rfl dX12_w4_0 rfl ?_
  refine fr_iload_n (i := 1) (q := 1) rfl dX12_w4_1 rfl ?_
  refine fr_iload_n (i := 2) (q := 2) rfl dX12_w4_2 rfl ?_
  obtain ⟨v1, hc2, h⟩ := h
  refine fr_callS2 (ν := mu_X12_w3) (st2 := [.long v1]) (As := [.int x0, .int x1, .int x2]) (st := []) (v := (some (.long v1))) (M1 := (Z, I, L)) dX12_w4_3 rfl ml_X12_149 mo_X12_w3 ms_X12_w3 (Nat.le_of_ble_eq_true rfl) rfl rfl (Nat.le_of_ble_eq_true rfl) hc2 rfl ?_
  refine fr_bipush (v := 8) (by decide) dX12_w4_6 rfl ?_
  refine fr_lshl dX12_w4_8 rfl ?_
  refine fr_iload_n (i := 3) (q := 3) rfl dX12_w4_9 rfl ?_
  refine fr_i2l dX12_w4_10 rfl ?_
  refine fr_lor dX12_w4_11 rfl ?_
  exact fr_lret rfl dX12_w4_12 h.1 h.2
theorem cp_X12_isWord {g : GE} {Z : Zs} {I : Nat → Nat → Int32} {L : Nat → Nat → Int64} {r : Option Value} {M' : Mem} {o : Nat} {x1 : Int64} (k_o : KM Z o 12) (h : ((¬ (I o 11) = 2 → (r = some (.int 0) ∧ M' = (Z, I, L))) ∧ ((I o 11) = 2 → ((¬ (lg_cmp (L o 13) x1) = 0 → (r = some (.int 0) ∧ M' = (Z, I, L))) ∧ ((lg_cmp (L o 13) x1) = 0 → (r = some (.int 1) ∧ M' = (Z, I, L))))))) : Cl g 1 mu_X12_isWord [rf g o, .long x1] (Z, I, L) r M' := by
  refine cl_of (lv := [(0, rf g o), (1, .long x1)]) (by decide) (Nat.le_of_ble_eq_true rfl) rfl ?_
  refine fr_aload_n (i := 0) (q := 0) rfl dX12_isWord_0 rfl ?_
  refine fr_getI dX12_isWord_1 rfl fl_X12_132 k_o ?_
  refine fr_iconst (v := 2) (by decide) dX12_isWord_4 rfl ?_
  refine fr_icmp_ne (tgt := 21) dX12_isWord_5 (by decide) rfl (fun hc => ?_) (fun hc => ?_)
  · have h := h.1 hc
    refine fr_iconst (v := 0) (by decide) dX12_isWord_21 rfl ?_
    exact fr_zret (by decide) rfl dX12_isWord_22 h.1 h.2
  · have h := h.2 hc
    refine fr_aload_n (i := 0) (q := 0) rfl dX12_isWord_8 rfl ?_
    refine fr_getL dX12_isWord_9 rfl fl_X12_145 k_o ?_
    refine fr_lload_n (i := 1) (q := 1) rfl dX12_isWord_12 rfl ?_
    refine fr_lcmp dX12_isWord_13 rfl ?_
    refine fr_if_ne (tgt := 21) dX12_isWord_14 (by decide) rfl (fun hc => ?_) (fun hc => ?_)
    · have h := h.1 hc
      refine fr_iconst (v := 0) (by decide) dX12_isWord_21 rfl ?_
      exact fr_zret (by decide) rfl dX12_isWord_22 h.1 h.2
    · have h := h.2 hc
      refine fr_iconst (v := 1) (by decide) dX12_isWord_17 rfl ?_
      refine fr_goto (n := 22) dX12_isWord_18 (by decide) ?_
      exact fr_zret (by decide) rfl dX12_isWord_22 h.1 h.2
theorem cp_X12_emit {g : GE} {Z : Zs} {I : Nat → Nat → Int32} {L : Nat → Nat → Int64} {r : Option Value} {M' : Mem} {o : Nat} {x1 : Int32} {x2 : Int32} {o_texts : Nat} (k_o : KM Z o 12) (r_o_texts : Z.2.1 o 4 = some o_texts) (k_o_texts : KM Z o_texts 13) (h : (vp_in (((I o 14) + 15) + (2 * (I o 16))) (Z.2.2.1 o_texts) ∧ (∀ I2 : Nat → Nat → Int32, I2 = rw1 I o_texts (upd (I o_texts) (((I o 14) + 15) + (2 * (I o 16))).toNatClampNeg x1) → (vp_in ((((I2 o 14) + 15) + (2 * (I2 o 16))) + 1) (Z.2.2.1 o_texts) ∧ (∀ I4 : Nat → Nat → Int32, I4 = rw1 I2 o_texts (upd (I2 o_texts) ((((I2 o 14) + 15) + (2 * (I2 o 16))) + 1).toNatClampNeg x2) → (∀ I5 : Nat → Nat → Int32, I5 = rw1 I4 o (upd (I4 o) 16 ((I4 o 16) + 1)) → (r = none ∧ M' = (Z, I5, L)))))))) : Cl g 1 mu_X12_emit [rf g o, .int x1, .int x2] (Z, I, L) r M' := by
  refine cl_of (lv := [(0, rf g o), (1, .int x1), (2, .int x2)]) (by decide) (Nat.le_of_ble_eq_true rfl) rfl ?_
  refine fr_aload_n (i := 0) (q := 0) rfl dX12_emit_0 rfl ?_
  refine fr_getR dX12_emit_1 rfl fl_X12_16 k_o r_o_texts ?_
  refine fr_aload_n (i := 0) (q := 0) rfl dX12_emit_4 rfl ?_
  refine fr_getI dX12_emit_5 rfl fl_X12_157 k_o ?_
  refine fr_bipush (v := 15) (by decide) dX12_emit_8 rfl ?_
  refine fr_iadd dX12_emit_10 rfl ?_
  refine fr_iconst (v := 2) (by decide) dX12_emit_11 rfl ?_
  refine fr_aload_n (i := 0) (q := 0) rfl dX12_emit_12 rfl ?_
  refine fr_getI dX12_emit_13 rfl fl_X12_160 k_o ?_
  refine fr_imul dX12_emit_16 rfl ?_
  refine fr_iadd dX12_emit_17 rfl ?_
  refine fr_iload_n (i := 1) (q := 1) rfl dX12_emit_18 rfl ?_
  obtain ⟨hz1, h⟩ := h
  refine fr_iast dX12_emit_19 rfl k_o_texts hz1 ?_
  refine fr_memI (fun I2 hI2 => ?_)
  have h := h I2 hI2
  refine fr_aload_n (i := 0) (q := 0) rfl dX12_emit_20 rfl ?_
  refine fr_getR dX12_emit_21 rfl fl_X12_16 k_o r_o_texts ?_
  refine fr_aload_n (i := 0) (q := 0) rfl dX12_emit_24 rfl ?_
  refine fr_getI dX12_emit_25 rfl fl_X12_157 k_o ?_
  refine fr_bipush (v := 15) (by decide) dX12_emit_28 rfl ?_
  refine fr_iadd dX12_emit_30 rfl ?_
  refine fr_iconst (v := 2) (by decide) dX12_emit_31 rfl ?_
  refine fr_aload_n (i := 0) (q := 0) rfl dX12_emit_32 rfl ?_
  refine fr_getI dX12_emit_33 rfl fl_X12_160 k_o ?_
  refine fr_imul dX12_emit_36 rfl ?_
  refine fr_iadd dX12_emit_37 rfl ?_
  refine fr_iconst (v := 1) (by decide) dX12_emit_38 rfl ?_
  refine fr_iadd dX12_emit_39 rfl ?_
  refine fr_iload_n (i := 2) (q := 2) rfl dX12_emit_40 rfl ?_
  obtain ⟨hz3, h⟩ := h
  refine fr_iast dX12_emit_41 rfl k_o_texts hz3 ?_
  refine fr_memI (fun I4 hI4 => ?_)
  have h := h I4 hI4
  refine fr_aload_n (i := 0) (q := 0) rfl dX12_emit_42 rfl ?_
  refine fr_dup rfl dX12_emit_43 rfl ?_
  refine fr_getI dX12_emit_44 rfl fl_X12_160 k_o ?_
  refine fr_iconst (v := 1) (by decide) dX12_emit_47 rfl ?_
  refine fr_iadd dX12_emit_48 rfl ?_
  refine fr_putI dX12_emit_49 rfl fp_X12_160 k_o ?_
  refine fr_memI (fun I5 hI5 => ?_)
  have h := h I5 hI5
  exact fr_vret rfl dX12_emit_52 h.1 h.2
theorem cp_X12_push {g : GE} {Z : Zs} {I : Nat → Nat → Int32} {L : Nat → Nat → Int64} {r : Option Value} {M' : Mem} {o : Nat} {x1 : Int32} {o_pile : Nat} (k_o : KM Z o 12) (r_o_pile : Z.2.1 o 18 = some o_pile) (k_o_pile : KM Z o_pile 13) (h : (vp_in (I o 19) (Z.2.2.1 o_pile) ∧ (∀ I2 : Nat → Nat → Int32, I2 = rw1 I o_pile (upd (I o_pile) (I o 19).toNatClampNeg x1) → (∀ I3 : Nat → Nat → Int32, I3 = rw1 I2 o (upd (I2 o) 19 ((I2 o 19) + 1)) → (r = none ∧ M' = (Z, I3, L)))))) : Cl g 1 mu_X12_push [rf g o, .int x1] (Z, I, L) r M' := by
  refine cl_of (lv := [(0, rf g o), (1, .int x1)]) (by decide) (Nat.le_of_ble_eq_true rfl) rfl ?_
  refine fr_aload_n (i := 0) (q := 0) rfl dX12_push_0 rfl ?_
  refine fr_getR dX12_push_1 rfl fl_X12_29 k_o r_o_pile ?_
  refine fr_aload_n (i := 0) (q := 0) rfl dX12_push_4 rfl ?_
  refine fr_getI dX12_push_5 rfl fl_X12_163 k_o ?_
  refine fr_iload_n (i := 1) (q := 1) rfl dX12_push_8 rfl ?_
  obtain ⟨hz1, h⟩ := h
  refine fr_iast dX12_push_9 rfl k_o_pile hz1 ?_
  refine fr_memI (fun I2 hI2 => ?_)
  have h := h I2 hI2
  refine fr_aload_n (i := 0) (q := 0) rfl dX12_push_10 rfl ?_
  refine fr_dup rfl dX12_push_11 rfl ?_
  refine fr_getI dX12_push_12 rfl fl_X12_163 k_o ?_
  refine fr_iconst (v := 1) (by decide) dX12_push_15 rfl ?_
  refine fr_iadd dX12_push_16 rfl ?_
  refine fr_putI dX12_push_17 rfl fp_X12_163 k_o ?_
  refine fr_memI (fun I3 hI3 => ?_)
  have h := h I3 hI3
  exact fr_vret rfl dX12_push_20 h.1 h.2
theorem cp_X12_rank {g : GE} {Z : Zs} {I : Nat → Nat → Int32} {L : Nat → Nat → Int64} {r : Option Value} {M' : Mem} {x0 : Int32}  (h : ((x0 < 40 → ((¬ x0 = 22 → ((¬ x0 = 21 → ((¬ x0 = 20 → ((x0 < 10 → ((¬ x0 = 2 → ((x0 < 5 → (r = some (.int 5) ∧ M' = (Z, I, L))) ∧ (¬ x0 < 5 → (r = some (.int 6) ∧ M' = (Z, I, L))))) ∧ (x0 = 2 → (r = some (.int 7) ∧ M' = (Z, I, L))))) ∧ (¬ x0 < 10 → (r = some (.int 4) ∧ M' = (Z, I, L))))) ∧ (x0 = 20 → (r = some (.int 3) ∧ M' = (Z, I, L))))) ∧ (x0 = 21 → (r = some (.int 2) ∧ M' = (Z, I, L))))) ∧ (x0 = 22 → (r = some (.int 1) ∧ M' = (Z, I, L))))) ∧ (¬ x0 < 40 → (r = some (.int 0) ∧ M' = (Z, I, L))))) : Cl g 1 mu_X12_rank [.int x0] (Z, I, L) r M' := by
  refine cl_of (lv := [(0, .int x0)]) (by decide) (Nat.le_of_ble_eq_true rfl) rfl ?_
  refine fr_iload_n (i := 0) (q := 0) rfl dX12_rank_0 rfl ?_
  refine fr_bipush (v := 40) (by decide) dX12_rank_1 rfl ?_
  refine fr_icmp_lt (tgt := 10) dX12_rank_3 (by decide) rfl (fun hc => ?_) (fun hc => ?_)
  · have h := h.1 hc
    refine fr_iload_n (i := 0) (q := 0) rfl dX12_rank_10 rfl ?_
    refine fr_bipush (v := 22) (by decide) dX12_rank_11 rfl ?_
    refine fr_icmp_ne (tgt := 20) dX12_rank_13 (by decide) rfl (fun hc => ?_) (fun hc => ?_)
    · have h := h.1 hc
      refine fr_iload_n (i := 0) (q := 0) rfl dX12_rank_20 rfl ?_
      refine fr_bipush (v := 21) (by decide) dX12_rank_21 rfl ?_
      refine fr_icmp_ne (tgt := 30) dX12_rank_23 (by decide) rfl (fun hc => ?_) (fun hc => ?_)
      · have h := h.1 hc
        refine fr_iload_n (i := 0) (q := 0) rfl dX12_rank_30 rfl ?_
        refine fr_bipush (v := 20) (by decide) dX12_rank_31 rfl ?_
        refine fr_icmp_ne (tgt := 40) dX12_rank_33 (by decide) rfl (fun hc => ?_) (fun hc => ?_)
        · have h := h.1 hc
          refine fr_iload_n (i := 0) (q := 0) rfl dX12_rank_40 rfl ?_
          refine fr_bipush (v := 10) (by decide) dX12_rank_41 rfl ?_
          refine fr_icmp_lt (tgt := 50) dX12_rank_43 (by decide) rfl (fun hc => ?_) (fun hc => ?_)
          · have h := h.1 hc
            refine fr_iload_n (i := 0) (q := 0) rfl dX12_rank_50 rfl ?_
            refine fr_iconst (v := 2) (by decide) dX12_rank_51 rfl ?_
            refine fr_icmp_ne (tgt := 60) dX12_rank_52 (by decide) rfl (fun hc => ?_) (fun hc => ?_)
            · have h := h.1 hc
              refine fr_iload_n (i := 0) (q := 0) rfl dX12_rank_60 rfl ?_
              refine fr_iconst (v := 5) (by decide) dX12_rank_61 rfl ?_
              refine fr_icmp_lt (tgt := 70) dX12_rank_62 (by decide) rfl (fun hc => ?_) (fun hc => ?_)
              · have h := h.1 hc
                refine fr_iconst (v := 5) (by decide) dX12_rank_70 rfl ?_
                exact fr_iret rfl dX12_rank_71 h.1 h.2
              · have h := h.2 hc
                refine fr_bipush (v := 6) (by decide) dX12_rank_65 rfl ?_
                refine fr_goto (n := 71) dX12_rank_67 (by decide) ?_
                exact fr_iret rfl dX12_rank_71 h.1 h.2
            · have h := h.2 hc
              refine fr_bipush (v := 7) (by decide) dX12_rank_55 rfl ?_
              refine fr_goto (n := 71) dX12_rank_57 (by decide) ?_
              exact fr_iret rfl dX12_rank_71 h.1 h.2
          · have h := h.2 hc
            refine fr_iconst (v := 4) (by decide) dX12_rank_46 rfl ?_
            refine fr_goto (n := 71) dX12_rank_47 (by decide) ?_
            exact fr_iret rfl dX12_rank_71 h.1 h.2
        · have h := h.2 hc
          refine fr_iconst (v := 3) (by decide) dX12_rank_36 rfl ?_
          refine fr_goto (n := 71) dX12_rank_37 (by decide) ?_
          exact fr_iret rfl dX12_rank_71 h.1 h.2
      · have h := h.2 hc
        refine fr_iconst (v := 2) (by decide) dX12_rank_26 rfl ?_
        refine fr_goto (n := 71) dX12_rank_27 (by decide) ?_
        exact fr_iret rfl dX12_rank_71 h.1 h.2
    · have h := h.2 hc
      refine fr_iconst (v := 1) (by decide) dX12_rank_16 rfl ?_
      refine fr_goto (n := 71) dX12_rank_17 (by decide) ?_
      exact fr_iret rfl dX12_rank_71 h.1 h.2
  · have h := h.2 hc
    refine fr_iconst (v := 0) (by decide) dX12_rank_6 rfl ?_
    refine fr_goto (n := 71) dX12_rank_7 (by decide) ?_
    exact fr_iret rfl dX12_rank_71 h.1 h.2
abbrev Lp_X12_settle_0 (g : GE) (d : Nat) (o : Nat) (u1 : Int32) (M : Mem) (r : Option Value) (M' : Mem) : Prop := Fr g d mu_X12_settle 0 [(0, rf g o), (1, .int u1)] [] M r M'
theorem cp_X12_settle {g : GE} {Z : Zs} {I : Nat → Nat → Int32} {L : Nat → Nat → Int64} {r : Option Value} {M' : Mem} {o : Nat} {x1 : Int32} (k_o : KM Z o 12) (h : Lp_X12_settle_0 g 2 o x1 (Z, I, L) r M') : Cl g 2 mu_X12_settle [rf g o, .int x1] (Z, I, L) r M' := by
  refine cl_of (lv := [(0, rf g o), (1, .int x1)]) (by decide) (Nat.le_of_ble_eq_true rfl) rfl ?_
  exact fr_sub [0, 1] rfl h
theorem wp_X12_settle_0 {g : GE} {Z : Zs} {I : Nat → Nat → Int32} {L : Nat → Nat → Int64} {r : Option Value} {M' : Mem} {o : Nat} {u1 : Int32} {o_pile : Nat} (k_o : KM Z o 12) (r_o_pile : Z.2.1 o 18 = some o_pile) (k_o_pile : KM Z o_pile 13) (h : (((I o 19) ≤ 0 → (r = none ∧ M' = (Z, I, L))) ∧ (¬ (I o 19) ≤ 0 → (vp_in ((I o 19) - 1) (Z.2.2.1 o_pile) ∧ (∃ (v2 : Int32), Cl g 1 mu_X12_rank [.int (I o_pile ((I o 19) - 1).toNatClampNeg)] (Z, I, L) (some (.int v2)) (Z, I, L) ∧ ((v2 < u1 → (r = none ∧ M' = (Z, I, L))) ∧ (¬ v2 < u1 → (∀ I4 : Nat → Nat → Int32, I4 = rw1 I o (upd (I o) 19 ((I o 19) - 1)) → (vp_in (I4 o 19) (Z.2.2.1 o_pile) ∧ (∃ (I6 : Nat → Nat → Int32) (L7 : Nat → Nat → Int64), Cl g 1 mu_X12_emit [rf g o, .int (I4 o_pile (I4 o 19).toNatClampNeg), .int 0] (Z, I4, L) none (Z, I6, L7) ∧ (vp_in (I6 o 19) (Z.2.2.1 o_pile) ∧ (((I6 o_pile (I6 o 19).toNatClampNeg) = 2 → (∀ I10 : Nat → Nat → Int32, I10 = rw1 I6 o (upd (I6 o) 20 ((I6 o 20) - 1)) → Lp_X12_settle_0 g 2 o u1 (Z, I10, L7) r M')) ∧ (¬ (I6 o_pile (I6 o 19).toNatClampNeg) = 2 → (vp_in (I6 o 19) (Z.2.2.1 o_pile) ∧ ((¬ (I6 o_pile (I6 o 19).toNatClampNeg) = 20 → Lp_X12_settle_0 g 2 o u1 (Z, I6, L7) r M') ∧ ((I6 o_pile (I6 o 19).toNatClampNeg) = 20 → (∀ I12 : Nat → Nat → Int32, I12 = rw1 I6 o (upd (I6 o) 20 ((I6 o 20) - 1)) → Lp_X12_settle_0 g 2 o u1 (Z, I12, L7) r M'))))))))))))))))) : Lp_X12_settle_0 g 2 o u1 (Z, I, L) r M' := by
  refine fr_aload_n (i := 0) (q := 0) rfl dX12_settle_0 rfl ?_
  refine fr_getI dX12_settle_1 rfl fl_X12_163 k_o ?_
  refine fr_if_le (tgt := 89) dX12_settle_4 (by decide) rfl (fun hc => ?_) (fun hc => ?_)
  · have h := h.1 hc
    exact fr_vret rfl dX12_settle_89 h.1 h.2
  · have h := h.2 hc
    refine fr_aload_n (i := 0) (q := 0) rfl dX12_settle_7 rfl ?_
    refine fr_getR dX12_settle_8 rfl fl_X12_29 k_o r_o_pile ?_
    refine fr_aload_n (i := 0) (q := 0) rfl dX12_settle_11 rfl ?_
    refine fr_getI dX12_settle_12 rfl fl_X12_163 k_o ?_
    refine fr_iconst (v := 1) (by decide) dX12_settle_15 rfl ?_
    refine fr_isub dX12_settle_16 rfl ?_
    obtain ⟨hz1, h⟩ := h
    refine fr_iald dX12_settle_17 rfl k_o_pile hz1 ?_
    obtain ⟨v2, hc3, h⟩ := h
    refine fr_callS2 (ν := mu_X12_rank) (st2 := [.int v2]) (As := [.int (I o_pile ((I o 19) - 1).toNatClampNeg)]) (st := []) (v := (some (.int v2))) (M1 := (Z, I, L)) dX12_settle_18 rfl ml_X12_166 mo_X12_rank ms_X12_rank (Nat.le_of_ble_eq_true rfl) rfl rfl (Nat.le_of_ble_eq_true rfl) hc3 rfl ?_
    refine fr_iload_n (i := 1) (q := 1) rfl dX12_settle_21 rfl ?_
    refine fr_icmp_lt (tgt := 89) dX12_settle_22 (by decide) rfl (fun hc => ?_) (fun hc => ?_)
    · have h := h.1 hc
      exact fr_vret rfl dX12_settle_89 h.1 h.2
    · have h := h.2 hc
      refine fr_aload_n (i := 0) (q := 0) rfl dX12_settle_25 rfl ?_
      refine fr_dup rfl dX12_settle_26 rfl ?_
      refine fr_getI dX12_settle_27 rfl fl_X12_163 k_o ?_
      refine fr_iconst (v := 1) (by decide) dX12_settle_30 rfl ?_
      refine fr_isub dX12_settle_31 rfl ?_
      refine fr_putI dX12_settle_32 rfl fp_X12_163 k_o ?_
      refine fr_memI (fun I4 hI4 => ?_)
      have h := h I4 hI4
      refine fr_aload_n (i := 0) (q := 0) rfl dX12_settle_35 rfl ?_
      refine fr_aload_n (i := 0) (q := 0) rfl dX12_settle_36 rfl ?_
      refine fr_getR dX12_settle_37 rfl fl_X12_29 k_o r_o_pile ?_
      refine fr_aload_n (i := 0) (q := 0) rfl dX12_settle_40 rfl ?_
      refine fr_getI dX12_settle_41 rfl fl_X12_163 k_o ?_
      obtain ⟨hz5, h⟩ := h
      refine fr_iald dX12_settle_44 rfl k_o_pile hz5 ?_
      refine fr_iconst (v := 0) (by decide) dX12_settle_45 rfl ?_
      obtain ⟨I6, L7, hc8, h⟩ := h
      refine fr_callV2 (ν := mu_X12_emit) (st2 := []) (As := [.int (I4 o_pile (I4 o 19).toNatClampNeg), .int 0]) (st := []) (v := none) (M1 := (Z, I6, L7)) dX12_settle_46 rfl ml_X12_169 mo_X12_emit mi_X12_emit (ci := 12) rfl rfl k_o (Nat.le_of_ble_eq_true rfl) rfl rfl (Nat.le_of_ble_eq_true rfl) hc8 rfl ?_
      refine fr_aload_n (i := 0) (q := 0) rfl dX12_settle_49 rfl ?_
      refine fr_getR dX12_settle_50 rfl fl_X12_29 k_o r_o_pile ?_
      refine fr_aload_n (i := 0) (q := 0) rfl dX12_settle_53 rfl ?_
      refine fr_getI dX12_settle_54 rfl fl_X12_163 k_o ?_
      obtain ⟨hz9, h⟩ := h
      refine fr_iald dX12_settle_57 rfl k_o_pile hz9 ?_
      refine fr_iconst (v := 2) (by decide) dX12_settle_58 rfl ?_
      refine fr_icmp_eq (tgt := 76) dX12_settle_59 (by decide) rfl (fun hc => ?_) (fun hc => ?_)
      · have h := h.1 hc
        refine fr_aload_n (i := 0) (q := 0) rfl dX12_settle_76 rfl ?_
        refine fr_dup rfl dX12_settle_77 rfl ?_
        refine fr_getI dX12_settle_78 rfl fl_X12_173 k_o ?_
        refine fr_iconst (v := 1) (by decide) dX12_settle_81 rfl ?_
        refine fr_isub dX12_settle_82 rfl ?_
        refine fr_putI dX12_settle_83 rfl fp_X12_173 k_o ?_
        refine fr_memI (fun I10 hI10 => ?_)
        have h := h I10 hI10
        refine fr_goto (n := 0) dX12_settle_86 (by decide) ?_
        exact fr_sub [0, 1] rfl h
      · have h := h.2 hc
        refine fr_aload_n (i := 0) (q := 0) rfl dX12_settle_62 rfl ?_
        refine fr_getR dX12_settle_63 rfl fl_X12_29 k_o r_o_pile ?_
        refine fr_aload_n (i := 0) (q := 0) rfl dX12_settle_66 rfl ?_
        refine fr_getI dX12_settle_67 rfl fl_X12_163 k_o ?_
        obtain ⟨hz11, h⟩ := h
        refine fr_iald dX12_settle_70 rfl k_o_pile hz11 ?_
        refine fr_bipush (v := 20) (by decide) dX12_settle_71 rfl ?_
        refine fr_icmp_ne (tgt := 0) dX12_settle_73 (by decide) rfl (fun hc => ?_) (fun hc => ?_)
        · have h := h.1 hc
          exact fr_sub [0, 1] rfl h
        · have h := h.2 hc
          refine fr_aload_n (i := 0) (q := 0) rfl dX12_settle_76 rfl ?_
          refine fr_dup rfl dX12_settle_77 rfl ?_
          refine fr_getI dX12_settle_78 rfl fl_X12_173 k_o ?_
          refine fr_iconst (v := 1) (by decide) dX12_settle_81 rfl ?_
          refine fr_isub dX12_settle_82 rfl ?_
          refine fr_putI dX12_settle_83 rfl fp_X12_173 k_o ?_
          refine fr_memI (fun I12 hI12 => ?_)
          have h := h I12 hI12
          refine fr_goto (n := 0) dX12_settle_86 (by decide) ?_
          exact fr_sub [0, 1] rfl h
theorem cp_X12_whole {g : GE} {Z : Zs} {I : Nat → Nat → Int32} {L : Nat → Nat → Int64} {r : Option Value} {M' : Mem} {o : Nat} (k_o : KM Z o 12) (h : (∀ I1 : Nat → Nat → Int32, I1 = rw1 I o (upd (I o) 21 1) → (∃ (I2 : Nat → Nat → Int32) (L3 : Nat → Nat → Int64), Cl g 2 mu_X12_settle [rf g o, .int 7] (Z, I1, L) none (Z, I2, L3) ∧ (r = none ∧ M' = (Z, I2, L3))))) : Cl g 3 mu_X12_whole [rf g o] (Z, I, L) r M' := by
  refine cl_of (lv := [(0, rf g o)]) (by decide) (Nat.le_of_ble_eq_true rfl) rfl ?_
  refine fr_aload_n (i := 0) (q := 0) rfl dX12_whole_0 rfl ?_
  refine fr_iconst (v := 1) (by decide) dX12_whole_1 rfl ?_
  refine fr_putZ (by decide) dX12_whole_2 rfl fp_X12_176 k_o ?_
  refine fr_memI (fun I1 hI1 => ?_)
  have h := h I1 hI1
  refine fr_aload_n (i := 0) (q := 0) rfl dX12_whole_5 rfl ?_
  refine fr_bipush (v := 7) (by decide) dX12_whole_6 rfl ?_
  obtain ⟨I2, L3, hc4, h⟩ := h
  refine fr_callV2 (ν := mu_X12_settle) (st2 := []) (As := [.int 7]) (st := []) (v := none) (M1 := (Z, I2, L3)) dX12_whole_8 rfl ml_X12_180 mo_X12_settle mi_X12_settle (ci := 12) rfl rfl k_o (Nat.le_of_ble_eq_true rfl) rfl rfl (Nat.le_of_ble_eq_true rfl) hc4 rfl ?_
  exact fr_vret rfl dX12_whole_11 h.1 h.2
abbrev Lp_X12_marker_7 (g : GE) (d : Nat) (o : Nat) (u1 : Int32) (M : Mem) (r : Option Value) (M' : Mem) : Prop := Fr g d mu_X12_marker 7 [(0, rf g o), (1, .int u1)] [] M r M'
theorem cp_X12_marker {g : GE} {Z : Zs} {I : Nat → Nat → Int32} {L : Nat → Nat → Int64} {r : Option Value} {M' : Mem} {o : Nat} (k_o : KM Z o 12) (h : (∀ y1 : Int32, y1 = ((I o 19) - 1) → Lp_X12_marker_7 g 1 o y1 (Z, I, L) r M')) : Cl g 1 mu_X12_marker [rf g o] (Z, I, L) r M' := by
  refine cl_of (lv := [(0, rf g o)]) (by decide) (Nat.le_of_ble_eq_true rfl) rfl ?_
  refine fr_aload_n (i := 0) (q := 0) rfl dX12_marker_0 rfl ?_
  refine fr_getI dX12_marker_1 rfl fl_X12_163 k_o ?_
  refine fr_iconst (v := 1) (by decide) dX12_marker_4 rfl ?_
  refine fr_isub dX12_marker_5 rfl ?_
  refine fr_topi (fun y1 hy1 => ?_)
  have h := h y1 hy1
  refine fr_istore_n (i := 1) (lv' := [(1, .int y1), (0, rf g o)]) dX12_marker_6 rfl (by decide) rfl ?_
  exact fr_sub [1, 0] rfl h
theorem wp_X12_marker_7 {g : GE} {Z : Zs} {I : Nat → Nat → Int32} {L : Nat → Nat → Int64} {r : Option Value} {M' : Mem} {o : Nat} {u1 : Int32} {o_pile : Nat} (k_o : KM Z o 12) (r_o_pile : Z.2.1 o 18 = some o_pile) (k_o_pile : KM Z o_pile 13) (h : ((u1 < 0 → (r = some (.int u1) ∧ M' = (Z, I, L))) ∧ (¬ u1 < 0 → (vp_in u1 (Z.2.2.1 o_pile) ∧ ((40 ≤ (I o_pile u1.toNatClampNeg) → (r = some (.int u1) ∧ M' = (Z, I, L))) ∧ (¬ 40 ≤ (I o_pile u1.toNatClampNeg) → (∀ y2 : Int32, y2 = (u1 + (-1)) → Lp_X12_marker_7 g 1 o y2 (Z, I, L) r M'))))))) : Lp_X12_marker_7 g 1 o u1 (Z, I, L) r M' := by
  refine fr_iload_n (i := 1) (q := 1) rfl dX12_marker_7 rfl ?_
  refine fr_if_lt (tgt := 28) dX12_marker_8 (by decide) rfl (fun hc => ?_) (fun hc => ?_)
  · have h := h.1 hc
    refine fr_iload_n (i := 1) (q := 1) rfl dX12_marker_28 rfl ?_
    exact fr_iret rfl dX12_marker_29 h.1 h.2
  · have h := h.2 hc
    refine fr_aload_n (i := 0) (q := 0) rfl dX12_marker_11 rfl ?_
    refine fr_getR dX12_marker_12 rfl fl_X12_29 k_o r_o_pile ?_
    refine fr_iload_n (i := 1) (q := 1) rfl dX12_marker_15 rfl ?_
    obtain ⟨hz1, h⟩ := h
    refine fr_iald dX12_marker_16 rfl k_o_pile hz1 ?_
    refine fr_bipush (v := 40) (by decide) dX12_marker_17 rfl ?_
    refine fr_icmp_ge (tgt := 28) dX12_marker_19 (by decide) rfl (fun hc => ?_) (fun hc => ?_)
    · have h := h.1 hc
      refine fr_iload_n (i := 1) (q := 1) rfl dX12_marker_28 rfl ?_
      exact fr_iret rfl dX12_marker_29 h.1 h.2
    · have h := h.2 hc
      obtain ⟨y2, hy2⟩ : ∃ y : Int32, y = u1 + (-1) := ⟨_, rfl⟩
      have h := h y2 hy2
      refine fr_iinc (q := 1) (v := y2) (lv' := [(1, .int y2), (0, rf g o)]) rfl (by rw [hy2]; rfl) dX12_marker_22 rfl (by decide) rfl ?_
      refine fr_goto (n := 7) dX12_marker_25 (by decide) ?_
      exact fr_sub [1, 0] rfl h
theorem cp_X12_kindOpen {g : GE} {Z : Zs} {I : Nat → Nat → Int32} {L : Nat → Nat → Int64} {r : Option Value} {M' : Mem} {o : Nat} {x1 : Int32} {o_pile : Nat} (k_o : KM Z o 12) (r_o_pile : Z.2.1 o 18 = some o_pile) (k_o_pile : KM Z o_pile 13) (h : (∃ (v1 : Int32), Cl g 1 mu_X12_marker [rf g o] (Z, I, L) (some (.int v1)) (Z, I, L) ∧ ((v1 < 0 → ((x1 = 0 → (r = some (.int 40) ∧ M' = (Z, I, L))) ∧ (¬ x1 = 0 → (r = some (.int 41) ∧ M' = (Z, I, L))))) ∧ (¬ v1 < 0 → (vp_in v1 (Z.2.2.1 o_pile) ∧ (r = some (.int (I o_pile v1.toNatClampNeg)) ∧ M' = (Z, I, L))))))) : Cl g 2 mu_X12_kindOpen [rf g o, .int x1] (Z, I, L) r M' := by
  refine cl_of (lv := [(0, rf g o), (1, .int x1)]) (by decide) (Nat.le_of_ble_eq_true rfl) rfl ?_
  refine fr_aload_n (i := 0) (q := 0) rfl dX12_kindOpen_0 rfl ?_
  obtain ⟨v1, hc2, h⟩ := h
  refine fr_callV2 (ν := mu_X12_marker) (st2 := [.int v1]) (As := []) (st := []) (v := (some (.int v1))) (M1 := (Z, I, L)) dX12_kindOpen_1 rfl ml_X12_183 mo_X12_marker mi_X12_marker (ci := 12) rfl rfl k_o (Nat.le_of_ble_eq_true rfl) rfl rfl (Nat.le_of_ble_eq_true rfl) hc2 rfl ?_
  refine fr_istore_n (i := 2) (lv' := [(2, .int v1), (0, rf g o), (1, .int x1)]) dX12_kindOpen_4 rfl (by decide) rfl ?_
  refine fr_iload_n (i := 2) (q := 0) rfl dX12_kindOpen_5 rfl ?_
  refine fr_if_lt (tgt := 18) dX12_kindOpen_6 (by decide) rfl (fun hc => ?_) (fun hc => ?_)
  · have h := h.1 hc
    refine fr_iload_n (i := 1) (q := 2) rfl dX12_kindOpen_18 rfl ?_
    refine fr_if_eq (tgt := 27) dX12_kindOpen_19 (by decide) rfl (fun hc => ?_) (fun hc => ?_)
    · have h := h.1 hc
      refine fr_bipush (v := 40) (by decide) dX12_kindOpen_27 rfl ?_
      exact fr_iret rfl dX12_kindOpen_29 h.1 h.2
    · have h := h.2 hc
      refine fr_bipush (v := 41) (by decide) dX12_kindOpen_22 rfl ?_
      refine fr_goto (n := 29) dX12_kindOpen_24 (by decide) ?_
      exact fr_iret rfl dX12_kindOpen_29 h.1 h.2
  · have h := h.2 hc
    refine fr_aload_n (i := 0) (q := 1) rfl dX12_kindOpen_9 rfl ?_
    refine fr_getR dX12_kindOpen_10 rfl fl_X12_29 k_o r_o_pile ?_
    refine fr_iload_n (i := 2) (q := 0) rfl dX12_kindOpen_13 rfl ?_
    obtain ⟨hz3, h⟩ := h
    refine fr_iald dX12_kindOpen_14 rfl k_o_pile hz3 ?_
    refine fr_goto (n := 29) dX12_kindOpen_15 (by decide) ?_
    exact fr_iret rfl dX12_kindOpen_29 h.1 h.2
